/-! how deep a row is -/
def tlN (at' : Nat → Nat) (d : Nat) : Nat := fb_sm (fun t => at' (d + t)) (128 - d)
theorem tlN_succ (f : Nat → Nat) {d : Nat} (h : d < 128) : tlN f d = f d + tlN f (d + 1) := by
  unfold tlN
  have e : 128 - d = 1 + (128 - (d + 1)) := by omega
  rw [e, fb_sm_split]
  show 0 + f (d + 0) + _ = _
  rw [Nat.zero_add, Nat.add_zero]
  congr 1
  exact fb_sm_cong (fun t _ => by rw [Nat.add_assoc])
theorem tlN_cong {f g : Nat → Nat} {d : Nat} (h : ∀ e, d ≤ e → e < 128 → f e = g e) : tlN f d = tlN g d := fb_sm_cong (fun t ht => h (d + t) (by omega) (by omega))
theorem tlN_zero {f : Nat → Nat} {d : Nat} (h : ∀ e, d ≤ e → e < 128 → f e = 0) : tlN f d = 0 := sm_zero (fun t ht => h (d + t) (by omega) (by omega))
def DI (f : Nat → Nat) (d left : Nat) : Prop := d ≤ 97 ∧ left = tlN f d ∧ left ≤ 128 ∧ (∀ e, d < e → 90 < e → e < 128 → f e = 0) ∧ (90 ≤ d → left ≤ 2 ^ (97 - d)) ∧ (left = 0 → d = 0)
def dnx (f : Nat → Nat) (d : Nat) : Nat → Nat := upN f (d + 1) (f (d + 1) + (f d - f d / 2))
theorem DI.here {f : Nat → Nat} {d left : Nat} (h : DI f d left) : f d ≤ left ∧ (90 ≤ d → f d = left) := by
  obtain ⟨h1, h2, h3, h4, h5, h6⟩ := h
  have e := tlN_succ f (show d < 128 by omega)
  refine ⟨by omega, fun hd => ?_⟩
  have z : tlN f (d + 1) = 0 := tlN_zero (fun e he h8 => h4 e (by omega) (by omega) h8)
  omega
theorem DI.next {f : Nat → Nat} {d left : Nat} (h : DI f d left) (hx : ¬ (left ≤ 1 ∧ f d = left)) : DI (dnx f d) (d + 1) (left - f d / 2) ∧ 1 ≤ left := by
  have hh := h.here
  obtain ⟨h1, h2, h3, h4, h5, h6⟩ := h
  have e := tlN_succ f (show d < 128 by omega)
  have h0 : 1 ≤ left := by
    rcases Nat.eq_zero_or_pos left with c | c
    · exact absurd ⟨by omega, by omega⟩ hx
    · exact c
  have hd : d < 97 := by
    rcases Nat.lt_or_ge d 97 with c | c
    · exact c
    · have e97 : d = 97 := by omega
      subst e97
      have := h5 (by omega)
      exact absurd ⟨by simpa using this, hh.2 (by omega)⟩ hx
  have e1 := tlN_succ f (show d + 1 < 128 by omega)
  have e2 := tlN_succ (dnx f d) (show d + 1 < 128 by omega)
  have e3 : tlN (dnx f d) (d + 1 + 1) = tlN f (d + 1 + 1) := tlN_cong (fun e he _ => by
    unfold dnx upN
    rw [if_neg (by omega)])
  have e4 : dnx f d (d + 1) = f (d + 1) + (f d - f d / 2) := if_pos rfl
  refine ⟨⟨by omega, by omega, by omega, fun e he h9 h8 => ?_, fun h9 => ?_, fun hz => by omega⟩, h0⟩
  · unfold dnx upN
    rw [if_neg (by omega)]
    exact h4 e (by omega) h9 h8
  · rcases Nat.lt_or_ge d 90 with c | c
    · have e90 : d = 89 := by omega
      subst e90
      show left - f 89 / 2 ≤ 2 ^ 7
      omega
    · have a1 := hh.2 c
      have a2 := h5 c
      have a3 : 2 ^ (97 - d) = 2 * 2 ^ (97 - (d + 1)) := by
        rw [show 97 - d = (97 - (d + 1)) + 1 by omega, Nat.pow_succ, Nat.mul_comm]
      omega
section Deep
variable {F s r : Nat} {a1 a2 b1 b2 : Nat → Int32}
def AtC (f : Nat → Nat) (d : Nat) (A : Nat → Int32) : Prop := ∀ e, d ≤ e → e < 128 → A e = nI (f e)
theorem AtC.next {f : Nat → Nat} {d : Nat} {A : Nat → Int32} (h : AtC f d A) (hd : d < 127) : AtC (dnx f d) (d + 1) (upd A (d + 1) (nI (f (d + 1) + (f d - f d / 2)))) := fun e he h8 => by
  unfold dnx upN
  rw [upd_at]
  by_cases c : e = d + 1
  · rw [if_pos c, if_pos c]
  · rw [if_neg c, if_neg c]
    exact h e (by omega) h8
theorem AtC.next2 {f : Nat → Nat} {d : Nat} {A : Nat → Int32} (h : AtC f d A) (hd : d < 127) (v : Int32) : AtC (dnx f d) (d + 1) (upd (upd A (d + 1) (nI (f (d + 1) + (f d - f d / 2)))) d v) := fun e he h8 => by
  rw [upd_at, if_neg (by omega)]
  exact h.next hd e he h8
theorem X5_step {f : Nat → Nat} {d left fuel : Nat} {A : Nat → Int32} (h : DI f d left) (hA : AtC f d A) : p_X5_depthOfRow_L72 F (nI s) a1 a2 (fuel + 1) (nI left) (nI d) A =
    if left ≤ 1 ∧ f d = left then some (nI d, A) else p_X5_depthOfRow_L72 F (nI s) a1 a2 fuel (nI (left - f d / 2)) (nI (d + 1)) (upd A (d + 1) (nI (f (d + 1) + (f d - f d / 2)))) := by
  have hd := h.1
  have hl := h.2.2.1
  have hh := h.here
  have g0 : ¬ (127 : Int32) ≤ nI d := nI_ge (b := 127) (by omega) (by decide)
  have g1 : ¬ ixBad (nI d) 128 := ixg (by omega) (by decide)
  have g2 : ¬ ixBad (nI (d + 1)) 128 := ixg (by omega) (by decide)
  have c1 : (nI d).toNatClampNeg = d := nI_clamp (by omega)
  have c2 : (nI (d + 1)).toNatClampNeg = d + 1 := nI_clamp (by omega)
  have hf : A d = nI (f d) := hA d (by omega) (by omega)
  have hf1 : A (d + 1) = nI (f (d + 1)) := hA (d + 1) (by omega) (by omega)
  have hdiv : nI (f d) / (2 : Int32) = nI (f d / 2) := pk_div (d := 2) (by omega) (by decide) (by decide)
  have hs1 : nI left - nI (f d / 2) = nI (left - f d / 2) := nI_sub (by omega)
  have hs2 : nI (f d) - nI (f d / 2) = nI (f d - f d / 2) := nI_sub (by omega)
  show p_X5_depthOfRow_L72b F (nI s) a1 a2 _ (nI left) (nI d) A = _
  unfold p_X5_depthOfRow_L72b p_X5_depthOfRow_J99
  simp only [g0, g1, g2, c1, c2, ↓reduceIte, hf, nI_1, hf1, hdiv, hs1, hs2, nI_add]
  by_cases q1 : left ≤ 1
  · rw [if_neg (show ¬ (1 : Int32) < nI left from nI_nlt (a := 1) q1 (by decide))]
    by_cases q2 : f d = left
    · rw [if_pos (by rw [q2]), if_pos ⟨q1, q2⟩]
    · rw [if_neg (by rw [nI_eq (by omega) (by omega)]; exact q2), if_neg (fun q => q2 q.2)]
  · rw [if_pos (show (1 : Int32) < nI left from nI_lt (a := 1) (by omega) (by omega)), if_neg (fun q => q1 q.1)]
theorem deep_one (hF : 300 < F) : ∀ (q d fx fm : Nat) (f : Nat → Nat) (A B : Nat → Int32), d + q = 98 → q < fx → q < fm → DI f d 1 → AtC f d A → AtC f d B →
    ∃ r A' B', r ≤ 97 ∧ p_X5_depthOfRow_L72 F (nI s) a1 a2 fx (nI 1) (nI d) A = some (nI r, A') ∧ p_X11_deepBy_L125 F (nI s) b1 b2 (nI 1) fm (nI d) B = some (nI r, B') := by
  intro q
  induction q with
  | zero => intro d fx fm f A B hq _ _ h; exact absurd h.1 (by omega)
  | succ q ih =>
    intro d fx fm f A B hq h1 h2 h hA hB
    obtain ⟨fx, rfl⟩ : ∃ q, fx = q + 1 := ⟨fx - 1, by omega⟩
    obtain ⟨fm, rfl⟩ : ∃ q, fm = q + 1 := ⟨fm - 1, by omega⟩
    have hh := h.here
    have hd := h.1
    have g1 : ¬ ixBad (nI d) 260 := ixg (by omega) (by decide)
    have c1 : (nI d).toNatClampNeg = d := nI_clamp (by omega)
    have hf : B d = nI (f d) := hB d (by omega) (by omega)
    rw [X5_step h hA]
    show ∃ r A' B', r ≤ 97 ∧ _ ∧ p_X11_deepBy_L125b F (nI s) b1 b2 (nI 1) _ (nI d) B = _
    unfold p_X11_deepBy_L125b p_X11_deepBy_J145
    simp only [g1, c1, ↓reduceIte, hf, nI_1]
    by_cases c : f d = 1
    · rw [if_pos ⟨Nat.le_refl _, c⟩, if_pos (show nI 1 = 1 from rfl), c, if_neg (show ¬ nI 1 = 0 by decide), if_neg (show ¬ nI 1 = 0 by decide)]
      exact ⟨d, A, B, hd, rfl, rfl⟩
    · have z : f d = 0 := by omega
      have hx : ¬ (1 ≤ 1 ∧ f d = 1) := fun q => c q.2
      have hn := (h.next hx).1
      rw [if_neg hx, if_pos (show nI 1 = 1 from rfl), z, if_pos (show nI 0 = 0 from rfl)]
      rw [z] at hn
      have hAn := hA.next (show d < 127 by omega)
      rw [z] at hAn
      exact ih (d + 1) fx fm (dnx f d) _ B (by omega) (by omega) (by omega) hn hAn (fun e he h8 => by
        rw [hB e (by omega) h8]
        unfold dnx upN
        by_cases c2 : e = d + 1
        · rw [if_pos c2, z, c2]; rfl
        · rw [if_neg c2])
theorem deep_many (hF : 300 < F) : ∀ (q d left fx fm : Nat) (f : Nat → Nat) (A B : Nat → Int32), d + q = 98 → q < fx → q < fm → DI f d left → AtC f d A → AtC f d B →
    ∃ r A' B', r ≤ 97 ∧ p_X5_depthOfRow_L72 F (nI s) a1 a2 fx (nI left) (nI d) A = some (nI r, A') ∧ p_X11_deepBy_L70 F (nI s) b1 b2 fm (nI left) (nI d) B = some (nI r, B') := by
  intro q
  induction q with
  | zero => intro d left fx fm f A B hq _ _ h; exact absurd h.1 (by omega)
  | succ q ih =>
    intro d left fx fm f A B hq h1 h2 h hA hB
    obtain ⟨fm, rfl⟩ : ∃ q, fm = q + 1 := ⟨fm - 1, by omega⟩
    have hh := h.here
    have hd := h.1
    have hl := h.2.2.1
    by_cases c0 : left ≤ 1
    · show ∃ r A' B', r ≤ 97 ∧ _ ∧ p_X11_deepBy_L70b F (nI s) b1 b2 _ (nI left) (nI d) B = _
      unfold p_X11_deepBy_L70b
      rw [if_pos (show nI left ≤ (1 : Int32) from nI_le (b := 1) c0 (by decide))]
      rcases (show left = 0 ∨ left = 1 by omega) with rfl | rfl
      · have d0 : d = 0 := h.2.2.2.2.2 rfl
        subst d0
        obtain ⟨fx, rfl⟩ : ∃ q, fx = q + 1 := ⟨fx - 1, by omega⟩
        rw [X5_step h hA, if_pos ⟨by omega, by omega⟩]
        obtain ⟨F', rfl⟩ : ∃ q, F = q + 1 := ⟨F - 1, by omega⟩
        refine ⟨0, A, B, by omega, rfl, ?_⟩
        show p_X11_deepBy_L125b (F' + 1) (nI s) b1 b2 (nI 0) _ (nI 0) B = _
        unfold p_X11_deepBy_L125b p_X11_deepBy_J145
        rw [if_neg (by decide), if_pos (by rfl)]
        rfl
      · exact deep_one hF (q + 1) d fx F f A B hq h1 (by omega) h hA hB
    · obtain ⟨fx, rfl⟩ : ∃ q, fx = q + 1 := ⟨fx - 1, by omega⟩
      have hx : ¬ (left ≤ 1 ∧ f d = left) := fun q => c0 q.1
      have g1 : ¬ ixBad (nI d) 260 := ixg (by omega) (by decide)
      have g2 : ¬ ixBad (nI (d + 1)) 260 := ixg (by omega) (by decide)
      have c1 : (nI d).toNatClampNeg = d := nI_clamp (by omega)
      have c2 : (nI (d + 1)).toNatClampNeg = d + 1 := nI_clamp (by omega)
      have hf : B d = nI (f d) := hB d (by omega) (by omega)
      have hf1 : B (d + 1) = nI (f (d + 1)) := hB (d + 1) (by omega) (by omega)
      have hdiv : nI (f d + 1) / (2 : Int32) = nI ((f d + 1) / 2) := pk_div (d := 2) (by omega) (by decide) (by decide)
      have ex : (f d + 1) / 2 = f d - f d / 2 := by omega
      have hs1 : nI (f d) - nI (f d - f d / 2) = nI (f d / 2) := by rw [nI_sub (by omega)]; congr 1; omega
      have hs2 : nI left - nI (f d / 2) = nI (left - f d / 2) := nI_sub (by omega)
      obtain ⟨r, A', B', q1, q2, q3⟩ := ih (d + 1) (left - f d / 2) fx fm (dnx f d) _ _ (by omega) (by omega) (by omega) (h.next hx).1 (hA.next (by omega)) (hB.next2 (by omega) 0)
      refine ⟨r, A', B', q1, ?_, ?_⟩
      · rw [X5_step h hA, if_neg hx]; exact q2
      · rw [← q3]
        show p_X11_deepBy_L70b F (nI s) b1 b2 _ (nI left) (nI d) B = _
        unfold p_X11_deepBy_L70b
        rw [if_neg (show ¬ nI left ≤ (1 : Int32) from nI_ge (a := 1) (by omega) (by omega))]
        simp only [g1, g2, c1, c2, ↓reduceIte, jlet_eq, hf, hf1, nI_1, hdiv, ex, hs1, hs2, nI_add]
def rowC (R : Nat → Int32) (r s : Nat) : Nat := fb_ct (fun j => bt (R j) r) s
def atN (R : Nat → Int32) (D : Nat → Nat) (r s e : Nat) : Nat := fb_ct (fun j => bt (R j) r && decide (D j = e)) s
theorem at_sum {R : Nat → Int32} {D : Nat → Nat} {r s : Nat} (hD : ∀ j, j < s → D j < 128) : fb_sm (fun e => atN R D r s e) 128 = rowC R r s := by
  have e1 : fb_sm (fun e => atN R D r s e) 128 = fb_sm (fun e => fb_sm (fun j => if (bt (R j) r && decide (D j = e)) = true then 1 else 0) s) 128 := fb_sm_cong (fun e _ => (sm_ct _ _).symm)
  rw [e1, sm_swap, rowC, ← sm_ct]
  refine fb_sm_cong (fun j hj => ?_)
  by_cases c : bt (R j) r = true
  · rw [if_pos c]
    have e2 : fb_sm (fun e => if (bt (R j) r && decide (D j = e)) = true then 1 else 0) 128 = fb_sm (fun e => if e = D j then (fun _ => 1) e else 0) 128 := fb_sm_cong (fun e _ => by
      by_cases q : D j = e
      · subst q; simp [c]
      · have q' : ¬ e = D j := fun h => q h.symm
        simp [q, q'])
    rw [e2, sm_at (fun _ => 1) (hD j hj)]
  · rw [if_neg c]
    exact sm_zero (fun e _ => by simp [c])
theorem at_DI {R : Nat → Int32} {D : Nat → Nat} {r s : Nat} (hs : s ≤ 128) (hD : ∀ j, j < s → D j ≤ 90) : DI (atN R D r s) 0 (rowC R r s) := by
  refine ⟨by omega, ?_, ?_, fun e _ h9 h8 => ?_, fun h => absurd h (by omega), fun _ => rfl⟩
  · unfold tlN
    simp only [Nat.zero_add, Nat.sub_zero]
    exact (at_sum (fun j hj => by have := hD j hj; omega)).symm
  · have := fb_ct_le (fun j => bt (R j) r) s
    unfold rowC
    omega
  · refine fb_ct_zero.mpr (fun j hj => ?_)
    have := hD j hj
    have c : ¬ D j = e := by omega
    simp [c]
theorem at_fold (R : Nat → Int32) (D : Nat → Nat) (r s e : Nat) (x : Int32) : fo (fun j a => a + nI (if (bt (R j) r && decide (D j = e)) = true then 1 else 0)) s 0 x = x + nI (atN R D r s e) := by
  rw [fo_sum (fun j => if (bt (R j) r && decide (D j = e)) = true then 1 else 0)]
  simp only [Nat.zero_add]
  rw [sm_ct (fun j => bt (R j) r && decide (D j = e))]
  rfl
theorem row_fold (R : Nat → Int32) (r s : Nat) (x : Int32) : fo (fun j a => a + nI (if bt (R j) r = true then 1 else 0)) s 0 x = x + nI (rowC R r s) := by
  rw [fo_sum (fun j => if bt (R j) r = true then 1 else 0)]
  simp only [Nat.zero_add]
  rw [sm_ct (fun j => bt (R j) r)]
  rfl
theorem i32_0a (x : Int32) : (0 : Int32) + x = x := Int32.zero_add x
theorem X5_row {R : Nat → Int32} {D : Nat → Nat} (hF : 1000 < F) (hs : s ≤ 108) (hr : r < 32) (hA : ∀ j, j < s → a1 j = R j ∧ a2 j = nI (D j) ∧ D j ≤ 90) (A : Nat → Int32) :
    ∃ A', p_X5_depthOfRow F (nI s) a1 a2 A (nI r) = p_X5_depthOfRow_L72 F (nI s) a1 a2 F (nI (rowC R r s)) (nI 0) A' ∧ AtC (atN R D r s) 0 A' := by
  let g : Nat → Int32 × (Nat → Int32) → Int32 × (Nat → Int32) := fun j z => if bt (R j) r = true then (z.1 + 1, bump (D j) z.2) else z
  have key := fold_loop (fun fuel (z : Int32 × (Nat → Int32)) j => p_X5_depthOfRow_L12 F (nI s) a1 a2 (nI r) fuel z.1 j z.2) (fun z => p_X5_depthOfRow_L72 F (nI s) a1 a2 F z.1 0 z.2) g (fun _ _ => True) s
    (fun fuel j z hj _ => by
      show p_X5_depthOfRow_L12b F (nI s) a1 a2 (nI r) _ z.1 (nI j) z.2 = p_X5_depthOfRow_L12 F (nI s) a1 a2 (nI r) fuel (g j z).1 (nI (j + 1)) (g j z).2
      obtain ⟨e1, e2, e3⟩ := hA j hj
      have g1 : ¬ ixBad (nI j) 128 := ixg (by omega) (by decide)
      have c1 : (nI j).toNatClampNeg = j := nI_clamp (by omega)
      have g2 : ¬ ixBad (nI (D j)) 128 := ixg (by omega) (by decide)
      have c2 : (nI (D j)).toNatClampNeg = D j := nI_clamp (by omega)
      have g3 : ¬ (128 : Int32) ≤ nI (D j) := nI_ge (b := 128) (by omega) (by decide)
      unfold p_X5_depthOfRow_L12b p_X5_depthOfRow_J64
      rw [if_neg (nI_ge hj (by omega))]
      simp only [g1, c1, ↓reduceIte, e1, e2, g2, c2, g3, bit1u (R j) hr, nI_1]
      by_cases c : bt (R j) r = true
      · simp only [g, c, ↓reduceIte]
        rfl
      · simp only [g, c]
        rfl)
    (fun fuel z _ => by
      show p_X5_depthOfRow_L12b F (nI s) a1 a2 (nI r) _ z.1 (nI s) z.2 = _
      unfold p_X5_depthOfRow_L12b
      rw [if_pos (nI_le (Nat.le_refl _) (by omega))]) (fun _ _ _ _ => trivial) s 0 F (0, fun j => if j < 128 then 0 else A j) (by omega) (by omega) trivial
  have h1 : (fo g s 0 (0, fun j => if j < 128 then 0 else A j)).1 = nI (rowC R r s) := by
    rw [fo_map (f := Prod.fst) (g' := fun j a => a + nI (if bt (R j) r = true then 1 else 0)) (fun j z => by
      by_cases c : bt (R j) r = true
      · simp only [g, c, ↓reduceIte]; rfl
      · simp only [g, c]; exact (Int32.add_zero _).symm), row_fold]
    exact i32_0a _
  have h2 : AtC (atN R D r s) 0 (fo g s 0 (0, fun j => if j < 128 then 0 else A j)).2 := fun e _ h8 => by
    rw [fo_map (f := fun z : Int32 × (Nat → Int32) => z.2 e) (g' := fun j a => a + nI (if (bt (R j) r && decide (D j = e)) = true then 1 else 0)) (fun j z => by
      by_cases c : bt (R j) r = true
      · simp only [g, c, ↓reduceIte, bump_at, Bool.true_and, decide_eq_true_eq]
      · simp only [g, c]; exact (Int32.add_zero _).symm), at_fold]
    show (if e < 128 then (0 : Int32) else A e) + _ = _
    rw [if_pos h8]
    exact i32_0a _
  refine ⟨_, ?_, h2⟩
  unfold p_X5_depthOfRow
  rw [fill_eq F 128 A 0 (by decide) (by omega)]
  simp only [Option.bind_some]
  rw [← h1]
  exact key
theorem M_hasMany {R : Nat → Int32} (hF : 1000 < F) (hs : s ≤ 108) (hr : r < 32) (hB : ∀ j, j < s → b1 j = R j) : p_X11_hasMany F (nI s) b1 (nI r) = some (nI (rowC R r s)) := by
  have key := fold_loop (fun fuel (z : Int32) j => p_X11_hasMany_L4 F (nI s) b1 (nI r) fuel z j) some (fun j a => a + nI (if bt (R j) r = true then 1 else 0)) (fun _ _ => True) s
    (fun fuel j z hj _ => by
      show p_X11_hasMany_L4b F (nI s) b1 (nI r) _ z (nI j) = _
      have g1 : ¬ ixBad (nI j) 240 := ixg (by omega) (by decide)
      have c1 : (nI j).toNatClampNeg = j := nI_clamp (by omega)
      unfold p_X11_hasMany_L4b
      rw [if_neg (nI_ge hj (by omega))]
      simp only [g1, c1, ↓reduceIte, hB j hj, bit1s (R j) hr, nI_1, jlet_eq]
      by_cases c : bt (R j) r = true
      · rw [if_pos c, if_pos c]; rfl
      · rw [if_neg c, if_neg c]; rfl)
    (fun fuel z _ => by
      show p_X11_hasMany_L4b F (nI s) b1 (nI r) _ z (nI s) = _
      unfold p_X11_hasMany_L4b
      rw [if_pos (nI_le (Nat.le_refl _) (by omega))]) (fun _ _ _ _ => trivial) s 0 F 0 (by omega) (by omega) trivial
  refine Eq.trans key (congrArg some ?_)
  rw [row_fold]
  exact i32_0a _
theorem X5_inRow {R : Nat → Int32} (hF : 1000 < F) (hs : s ≤ 108) (hr : r < 32) (hB : ∀ j, j < s → a1 j = R j) : p_X5_countInRow F (nI s) a1 (nI r) = some (nI (rowC R r s)) := by
  have key := fold_loop (fun fuel (z : Int32) j => p_X5_countInRow_L4 F (nI s) a1 (nI r) fuel z j) some (fun j a => a + nI (if bt (R j) r = true then 1 else 0)) (fun _ _ => True) s
    (fun fuel j z hj _ => by
      show p_X5_countInRow_L4b F (nI s) a1 (nI r) _ z (nI j) = _
      have g1 : ¬ ixBad (nI j) 128 := ixg (by omega) (by decide)
      have c1 : (nI j).toNatClampNeg = j := nI_clamp (by omega)
      unfold p_X5_countInRow_L4b
      rw [if_neg (nI_ge hj (by omega))]
      simp only [g1, c1, ↓reduceIte, hB j hj, bit1u (R j) hr, nI_1, jlet_eq]
      by_cases c : bt (R j) r = true
      · rw [if_pos c, if_pos c]; rfl
      · rw [if_neg c, if_neg c]; rfl)
    (fun fuel z _ => by
      show p_X5_countInRow_L4b F (nI s) a1 (nI r) _ z (nI s) = _
      unfold p_X5_countInRow_L4b
      rw [if_pos (nI_le (Nat.le_refl _) (by omega))]) (fun _ _ _ _ => trivial) s 0 F 0 (by omega) (by omega) trivial
  refine Eq.trans key (congrArg some ?_)
  rw [row_fold]
  exact i32_0a _
theorem M_row {R : Nat → Int32} {D : Nat → Nat} (hF : 1000 < F) (hs : s ≤ 108) (hr : r < 32) (hB : ∀ j, j < s → b1 j = R j ∧ b2 j = nI (D j) ∧ D j ≤ 90) (B : Nat → Int32) :
    ∃ B', p_X11_deepBy F (nI s) b1 b2 B (nI r) = p_X11_deepBy_L70 F (nI s) b1 b2 F (nI (rowC R r s)) (nI 0) B' ∧ AtC (atN R D r s) 0 B' := by
  let g : Nat → (Nat → Int32) → (Nat → Int32) := fun j a => upd a (D j) (a (D j) + (if bt (R j) r = true then 1 else 0))
  have clr := fold_loop (fun fuel (a : Nat → Int32) i => p_X11_deepBy_L2 F (nI s) b1 b2 (nI r) fuel i a) (fun a => p_X11_deepBy_L30 F (nI s) b1 b2 (nI r) (nI (rowC R r s)) F 0 a) (fun i a => upd a i ((fun _ => (0 : Int32)) i)) (fun _ _ => True) 260
    (fun fuel i a hi _ => by
      show p_X11_deepBy_L2b F (nI s) b1 b2 (nI r) _ (nI i) a = _
      have g1 : ¬ ixBad (nI i) 260 := ixg (by omega) (by decide)
      have c1 : (nI i).toNatClampNeg = i := nI_clamp (by omega)
      unfold p_X11_deepBy_L2b
      rw [if_neg (show ¬ (260 : Int32) ≤ nI i from nI_ge (b := 260) hi (by decide))]
      simp only [g1, c1, ↓reduceIte, nI_1])
    (fun fuel a _ => by
      show p_X11_deepBy_L2b F (nI s) b1 b2 (nI r) _ (nI 260) a = _
      unfold p_X11_deepBy_L2b
      rw [if_pos (by decide), M_hasMany hF hs hr (fun j hj => (hB j hj).1)]
      rfl) (fun _ _ _ _ => trivial) 260 0 F B (by omega) (by omega) trivial
  rw [cpy_fold] at clr
  have key := fold_loop (fun fuel (a : Nat → Int32) j => p_X11_deepBy_L30 F (nI s) b1 b2 (nI r) (nI (rowC R r s)) fuel j a) (fun a => p_X11_deepBy_L70 F (nI s) b1 b2 F (nI (rowC R r s)) 0 a) g (fun _ _ => True) s
    (fun fuel j a hj _ => by
      show p_X11_deepBy_L30b F (nI s) b1 b2 (nI r) (nI (rowC R r s)) _ (nI j) a = _
      obtain ⟨e1, e2, e3⟩ := hB j hj
      have g1 : ¬ ixBad (nI j) 240 := ixg (by omega) (by decide)
      have c1 : (nI j).toNatClampNeg = j := nI_clamp (by omega)
      have g2 : ¬ ixBad (nI (D j)) 260 := ixg (by omega) (by decide)
      have c2 : (nI (D j)).toNatClampNeg = D j := nI_clamp (by omega)
      unfold p_X11_deepBy_L30b
      rw [if_neg (nI_ge hj (by omega))]
      simp only [g1, c1, ↓reduceIte, e1, e2, g2, c2, bit1s (R j) hr, nI_1]
      rfl)
    (fun fuel a _ => by
      show p_X11_deepBy_L30b F (nI s) b1 b2 (nI r) (nI (rowC R r s)) _ (nI s) a = _
      unfold p_X11_deepBy_L30b
      rw [if_pos (nI_le (Nat.le_refl _) (by omega))]) (fun _ _ _ _ => trivial) s 0 F (fun j => if j < 260 then 0 else B j) (by omega) (by omega) trivial
  refine ⟨fo g s 0 (fun j => if j < 260 then 0 else B j), Eq.trans clr key, fun e _ h8 => ?_⟩
  rw [fo_map (f := fun a : Nat → Int32 => a e) (g' := fun j a => a + nI (if (bt (R j) r && decide (D j = e)) = true then 1 else 0)) (fun j a => by
    simp only [g, upd_at]
    by_cases c : bt (R j) r = true
    · by_cases c2 : D j = e
      · subst c2; simp [c]; rfl
      · have c3 : ¬ e = D j := fun h => c2 h.symm
        simp [c, c2, c3]; rfl
    · by_cases c3 : e = D j
      · subst c3; simp [c]; rfl
      · simp [c, c3]; rfl), at_fold]
  show (if e < 260 then (0 : Int32) else B e) + _ = _
  rw [if_pos (by omega)]
  exact i32_0a _
theorem deep_both {n : Nat} {τ : SGS} {a3 a4 a5 b3 b4 b5 : Nat → Int32} (hF : 1000 < F) (hI : SgI n τ) (hA : Ag n τ a1 a2 a3 a4 a5) (hB : Ag n τ b1 b2 b3 b4 b5) (hr : r < 32) (A B : Nat → Int32) :
    ∃ q A' B', q ≤ 97 ∧ p_X5_depthOfRow F (nI τ.1) a1 a2 A (nI r) = some (nI q, A') ∧ p_X11_deepBy F (nI τ.1) b1 b2 B (nI r) = some (nI q, B') := by
  have hs := hI.le
  have hD : ∀ j, j < τ.1 → τ.2.2.1 j ≤ 90 := fun j hj => by
    have h1 := hI.2.2.2 j hj
    have h2 := hI.2.2.1
    have h3 := hI.1
    omega
  obtain ⟨A1, x1, x2⟩ := X5_row (R := τ.2.1) (D := τ.2.2.1) hF hs hr (fun j hj => ⟨(hA j hj).1, (hA j hj).2.1, hD j hj⟩) A
  obtain ⟨B1, y1, y2⟩ := M_row (R := τ.2.1) (D := τ.2.2.1) hF hs hr (fun j hj => ⟨(hB j hj).1, (hB j hj).2.1, hD j hj⟩) B
  rw [x1, y1]
  exact deep_many (by omega) 98 0 _ F F _ A1 B1 (by omega) (by omega) (by omega) (at_DI (by omega) hD) x2 y2
end Deep
