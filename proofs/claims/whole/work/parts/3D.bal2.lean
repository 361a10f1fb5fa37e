/-! balanced, place by place -/
def BI (k p : Nat) (col tk wr mch mt mw : Nat → Int32) : Prop :=
  (∀ c, c < 256 → tk c = mt c) ∧ (∀ c, c < 256 → tk c ≠ 0 → ∃ q, q < p ∧ col q = nI c) ∧ (∀ q, q < p → ∃ c, c < 256 ∧ col q = nI c ∧ tk c ≠ 0 ∧ DCol k (col q) ∧ mch q = col q) ∧ (∀ q r, q < r → r < p → col q ≠ col r) ∧
    ∃ w : Nat → Nat, (∀ r, r < 8 → wr r = nI (w r) ∧ w r ≤ p) ∧ (∀ r, k ≤ r → r < 8 → w r = 0) ∧ (0 < p → ∀ r, r < k → mw r = nI (w r)) ∧ (p = 0 → ∀ r, r < 8 → w r = 0)
section Bal2
variable {F n k : Nat} {oX oM : Nat → Int32}
theorem bal_step {p : Nat} {col tk wr mch mt mw : Nat → Int32} (hF : 1000 < F) (hk4 : 4 ≤ k) (hk : k ≤ 8) (hn : n ≤ 24) (hp : p < n) (hcn : n ≤ cN k) (hoX : ∀ i, i < cN k → oX i = nI (oN k i)) (hoM : ∀ i, i < cN k → oM i = nI (oN k i)) (h : BI k p col tk wr mch mt mw) :
    ∃ j mw', j < cN k ∧ tk (oN k j) = 0 ∧ p_X0_mostBalanced F (nI (cN k)) oX tk wr = some (nI (oN k j)) ∧ p_X11_balancedFor F (nI (cN k)) oM mw mt (nI k) = some (nI (oN k j), mw', upd mt (oN k j) 1) ∧
      BI k (p + 1) (upd col p (nI (oN k j))) (upd tk (oN k j) 1) (fun r => if r < 8 then wr r + (if bt (nI (oN k j)) r = true then 1 else 0) else wr r) (upd mch p (nI (oN k j))) (upd mt (oN k j) 1) mw' := by
  obtain ⟨h1, h2, h3, h4, w, w1, w2, w3, w4⟩ := h
  have hc := cN_le hk
  have hp8 := pow_le8 hk
  have hwb : ∀ r, r < 8 → w r ≤ 100 := fun r hr => by have := (w1 r hr).2; omega
  have hwX : ∀ r, r < 8 → wr r = nI (w r) ∧ w r ≤ 100 := fun r hr => ⟨(w1 r hr).1, hwb r hr⟩
  have hfin := fo_inv (g := bsT k tk w) (I := BsI k tk) (n := cN k) (fun i z _ hz => bsT_ok hwb hz) (cN k) 0 (-1, 268435456) (by omega) (Or.inl ⟨rfl, fun j hj => absurd hj (by omega)⟩)
  rw [Nat.zero_add] at hfin
  have hX := X0_most (F := F) (tk := tk) hF hk hwX hoX (cN k) 0 F (-1, 268435456) 0 0 (by omega) (by omega) (Or.inl ⟨rfl, fun j hj => absurd hj (by omega)⟩) (Or.inl ⟨rfl, rfl, rfl⟩)
  have hM : ∀ mw' : Nat → Int32, (∀ r, r < k → mw' r = nI (w r)) → p_X11_balancedFor_J28 F (nI (cN k)) oM (nI k) mw' mt = p_X11_balancedFor_L36 F (nI (cN k)) oM (nI k) 1 (fo (bsT k tk w) (cN k) 0 (-1, 268435456)).1 (nI (fo (bsT k tk w) (cN k) 0 (-1, 268435456)).2) (nI (cN k)) mw' mt := fun mw' hmw => by
    exact M_most hF hk hwb w2 hmw h1 hoM (cN k) 0 F (-1, 268435456) (by omega) (by omega) (Or.inl ⟨rfl, fun j hj => absurd hj (by omega)⟩)
  obtain ⟨j, hj, ht, hz⟩ : ∃ j, j < cN k ∧ tk (oN k j) = 0 ∧ (fo (bsT k tk w) (cN k) 0 (-1, 268435456)).1 = nI (oN k j) := by
    rcases hfin with ⟨_, hno⟩ | ⟨j, q1, q2, q3, _⟩
    · exfalso
      obtain ⟨i, hi, hall⟩ := one_left (k := k) (p := p) (f := fun q => (col q).toNatClampNeg) (by omega)
      have hlt := oN_lt hi
      obtain ⟨q, hq, e⟩ := h2 (oN k i) (by omega) (hno i hi)
      exact hall q hq (by show (col q).toNatClampNeg = _; rw [e, nI_clamp (by omega)])
    · exact ⟨j, q1, q2, q3⟩
  have hlt := oN_lt hj
  have hne := nI_ne_m1 (show oN k j < 2 ^ 31 by omega)
  rw [hz, if_neg hne] at hX
  have fitj : ∀ r, k ≤ r → bt (nI (oN k j)) r = false := fun r hr => fit_nI hlt hk r hr
  -- the model's end: taken, wires
  have hend : ∀ mw' : Nat → Int32, p_X11_balancedFor_L36 F (nI (cN k)) oM (nI k) 1 (nI (oN k j)) (nI (fo (bsT k tk w) (cN k) 0 (-1, 268435456)).2) (nI (cN k)) mw' mt = some (nI (oN k j), (fun r => if r < k then mw' r + (if bt (nI (oN k j)) r = true then 1 else 0) else mw' r), upd mt (oN k j) 1) := fun mw' => by
    have g2 : ¬ ixBad (nI (oN k j)) 256 := ixg (by omega) (by decide)
    have c2 : (nI (oN k j)).toNatClampNeg = oN k j := nI_clamp (by omega)
    show p_X11_balancedFor_L36b F (nI (cN k)) oM (nI k) _ (nI (oN k j)) (nI (fo (bsT k tk w) (cN k) 0 (-1, 268435456)).2) (nI (cN k)) mw' mt = _
    unfold p_X11_balancedFor_L36b
    rw [if_pos (nI_le (Nat.le_refl _) (by omega))]
    simp only [g2, c2, ↓reduceIte, nar1]
    have key := fold_loop (fun fuel (a : Nat → Int32) r => p_X11_balancedFor_L157 F (nI (cN k)) oM (nI k) (nI (oN k j)) fuel r a (upd mt (oN k j) 1)) (fun a => some (nI (oN k j), a, upd mt (oN k j) 1)) (fun r a => upd a r (a r + (fun r => if bt (nI (oN k j)) r = true then (1 : Int32) else 0) r)) (fun _ _ => True) k
      (fun fuel r a hr _ => by
        show p_X11_balancedFor_L157b F (nI (cN k)) oM (nI k) (nI (oN k j)) _ (nI r) a (upd mt (oN k j) 1) = _
        have g1 : ¬ ixBad (nI r) 8 := ixg (by omega) (by decide)
        have c1 : (nI r).toNatClampNeg = r := nI_clamp (by omega)
        unfold p_X11_balancedFor_L157b
        rw [if_neg (nI_ge hr (by omega))]
        simp only [g1, c1, ↓reduceIte, bit1s (nI (oN k j)) (show r < 32 by omega), nI_1])
      (fun fuel a _ => by
        show p_X11_balancedFor_L157b F (nI (cN k)) oM (nI k) (nI (oN k j)) _ (nI k) a (upd mt (oN k j) 1) = _
        unfold p_X11_balancedFor_L157b
        rw [if_pos (nI_le (Nat.le_refl _) (by omega))]) (fun _ _ _ _ => trivial) k 0 F mw' (by omega) (by omega) trivial
    rw [upd_fold] at key
    exact key
  rw [hz] at hM
  have nb : ∀ (mw' : Nat → Int32), (∀ r, r < k → mw' r = nI (w r)) → BI k (p + 1) (upd col p (nI (oN k j))) (upd tk (oN k j) 1) (fun r => if r < 8 then wr r + (if bt (nI (oN k j)) r = true then 1 else 0) else wr r) (upd mch p (nI (oN k j))) (upd mt (oN k j) 1) (fun r => if r < k then mw' r + (if bt (nI (oN k j)) r = true then 1 else 0) else mw' r) := by
    intro mw' hmw
    refine ⟨fun c hc => ?_, fun c hc hne' => ?_, fun q hq => ?_, fun q r hqr hr => ?_, fun r => w r + b1N (nI (oN k j)) r, fun r hr => ⟨?_, ?_⟩, fun r h1' h2' => ?_, fun _ r hr => ?_, fun h => absurd h (by omega)⟩
    · rw [upd_at, upd_at, h1 c hc]
    · rw [upd_at] at hne'
      by_cases e : c = oN k j
      · exact ⟨p, by omega, by rw [upd_at, if_pos rfl, e]⟩
      · rw [if_neg e] at hne'
        obtain ⟨q, hq, eq⟩ := h2 c hc hne'
        exact ⟨q, by omega, by rw [upd_at, if_neg (by omega)]; exact eq⟩
    · by_cases e : q = p
      · subst e
        refine ⟨oN k j, by omega, by rw [upd_at, if_pos rfl], by rw [upd_at, if_pos rfl]; decide, by rw [upd_at, if_pos rfl]; exact oN_dcol hj, by rw [upd_at, upd_at, if_pos rfl, if_pos rfl]⟩
      · obtain ⟨c, q1, q2, q3, q4, q5⟩ := h3 q (by omega)
        refine ⟨c, q1, by rw [upd_at, if_neg e]; exact q2, ?_, by rw [upd_at, if_neg e]; exact q4, by rw [upd_at, upd_at, if_neg e, if_neg e]; exact q5⟩
        rw [upd_at]
        by_cases e2 : c = oN k j
        · rw [if_pos e2]; decide
        · rw [if_neg e2]; exact q3
    · have old : ∀ q, q < p → col q ≠ nI (oN k j) := fun q hq e => by
        obtain ⟨c, q1, q2, q3, _⟩ := h3 q hq
        rw [q2, nI_eq (by omega) (by omega)] at e
        rw [e] at q3
        exact q3 ht
      by_cases e : r = p
      · subst e
        rw [upd_at, upd_at, if_neg (by omega), if_pos rfl]
        exact old q hqr
      · rw [upd_at, upd_at, if_neg (by omega), if_neg e]
        exact h4 q r hqr (by omega)
    · show (if r < 8 then wr r + _ else wr r) = _
      rw [if_pos hr, (w1 r hr).1, b1N_I]
    · have a1 := (w1 r hr).2
      have a2 := b1N_le (nI (oN k j)) r
      show w r + b1N (nI (oN k j)) r ≤ p + 1
      omega
    · show w r + b1N (nI (oN k j)) r = 0
      unfold b1N
      rw [w2 r h1' h2', fitj r h1', if_neg (by decide)]
    · show (if r < k then mw' r + _ else mw' r) = _
      rw [if_pos hr, hmw r hr, b1N_I]
  by_cases p0 : p = 0
  · subst p0
    have hall : ∀ c, c < 256 → mt c = 0 := fun c hc => by
      rw [← h1 c hc]
      by_cases q : tk c = 0
      · exact q
      · obtain ⟨q', hq', _⟩ := h2 c hc q
        exact absurd hq' (by omega)
    have hcl : ∀ r, r < k → (fun r => if r < 8 then (0 : Int32) else mw r) r = nI (w r) := fun r hr => by
      show (if r < 8 then (0 : Int32) else mw r) = _
      rw [if_pos (by omega), w4 rfl r (by omega)]; rfl
    refine ⟨j, _, hj, ht, hX, ?_, nb _ hcl⟩
    unfold p_X11_balancedFor
    rw [M_none_yes hF hall]
    simp only [Option.bind_some]
    rw [if_neg i32_1_0]
    have key := fold_loop (fun fuel (a : Nat → Int32) r => p_X11_balancedFor_L9 F (nI (cN k)) oM (nI k) fuel r a mt) (fun a => p_X11_balancedFor_J28 F (nI (cN k)) oM (nI k) a mt) (fun r a => upd a r ((fun _ => (0 : Int32)) r)) (fun _ _ => True) 8
      (fun fuel r a hr _ => by
        show p_X11_balancedFor_L9b F (nI (cN k)) oM (nI k) _ (nI r) a mt = _
        have g1 : ¬ ixBad (nI r) 8 := ixg (by omega) (by decide)
        have c1 : (nI r).toNatClampNeg = r := nI_clamp (by omega)
        unfold p_X11_balancedFor_L9b
        rw [if_neg (show ¬ (8 : Int32) ≤ nI r from nI_ge (b := 8) hr (by decide))]
        simp only [g1, c1, ↓reduceIte, nI_1])
      (fun fuel a _ => by
        show p_X11_balancedFor_L9b F (nI (cN k)) oM (nI k) _ (nI 8) a mt = _
        unfold p_X11_balancedFor_L9b
        rw [if_pos (by decide)]) (fun _ _ _ _ => trivial) 8 0 F mw (by omega) (by omega) trivial
    rw [cpy_fold, hM _ hcl, hend] at key
    exact key
  · have hmw : ∀ r, r < k → mw r = nI (w r) := w3 (by omega)
    obtain ⟨c, q1, q2, q3, _⟩ := h3 0 (by omega)
    refine ⟨j, _, hj, ht, hX, ?_, nb mw hmw⟩
    unfold p_X11_balancedFor
    rw [M_none_no hF q1 (by rw [← h1 c q1]; exact q3)]
    simp only [Option.bind_some]
    rw [if_pos trivial, hM mw hmw, hend]
/-- what is chosen: columns of data, unlike, the same in both -/
def ChO (n k : Nat) (col mch : Nat → Int32) : Prop := (∀ q, q < n → DCol k (col q) ∧ mch q = col q) ∧ ∀ q r, q < r → r < n → col q ≠ col r
theorem bal_loop (hF : 1000 < F) (hk4 : 4 ≤ k) (hk : k ≤ 8) (hn : n ≤ 24) (hcn : n ≤ cN k) (hoX : ∀ i, i < cN k → oX i = nI (oN k i)) (hoM : ∀ i, i < cN k → oM i = nI (oN k i)) (z28 : Int32) (b3 b6 : Nat → Int32) :
    ∀ (d p fx fm : Nat) (col tk wr mch mt mw : Nat → Int32), p + d = n → d < fx → d < fm → BI k p col tk wr mch mt mw →
      ∃ col' tk' wr' mch' mt' mw', ChO n k col' mch' ∧ (∀ q, n ≤ q → col' q = col q ∧ mch' q = mch q) ∧
        p_X0_chooseBalanced_L10 F (nI (cN k)) oX (nI n) fx (nI p) tk wr col = some (tk', wr', col') ∧
        p_X11_choose_L110 F (nI n) (nI k) 1 fm (nI p) (nI (cN k)) z28 oM mch b3 mw mt b6 = some (1, nI (cN k), z28, oM, mch', b3, mw', mt', b6) := by
  have hc := cN_le hk
  have hp8 := pow_le8 hk
  intro d
  induction d with
  | zero =>
    intro p fx fm col tk wr mch mt mw hp h1 h2 h
    obtain ⟨fx, rfl⟩ : ∃ q, fx = q + 1 := ⟨fx - 1, by omega⟩
    obtain ⟨fm, rfl⟩ : ∃ q, fm = q + 1 := ⟨fm - 1, by omega⟩
    have e : p = n := by omega
    subst e
    obtain ⟨_, _, h3, h4, _⟩ := h
    refine ⟨col, tk, wr, mch, mt, mw, ⟨fun q hq => ?_, h4⟩, fun _ _ => ⟨rfl, rfl⟩, ?_, ?_⟩
    · obtain ⟨c, _, _, _, q4, q5⟩ := h3 q hq
      exact ⟨q4, q5⟩
    · show p_X0_chooseBalanced_L10b F (nI (cN k)) oX (nI p) _ (nI p) tk wr col = _
      unfold p_X0_chooseBalanced_L10b
      rw [if_pos (nI_le (Nat.le_refl _) (by omega))]
    · show p_X11_choose_L110b F (nI p) (nI k) 1 _ (nI p) (nI (cN k)) z28 oM mch b3 mw mt b6 = _
      unfold p_X11_choose_L110b
      rw [if_pos (nI_le (Nat.le_refl _) (by omega))]
  | succ d ih =>
    intro p fx fm col tk wr mch mt mw hp h1 h2 h
    obtain ⟨fx, rfl⟩ : ∃ q, fx = q + 1 := ⟨fx - 1, by omega⟩
    obtain ⟨fm, rfl⟩ : ∃ q, fm = q + 1 := ⟨fm - 1, by omega⟩
    obtain ⟨j, mw1, hj, ht, e1, e2, hB⟩ := bal_step hF hk4 hk hn (show p < n by omega) hcn hoX hoM h
    have hlt := oN_lt hj
    obtain ⟨col', tk', wr', mch', mt', mw', q1, q2, q3, q4⟩ := ih (p + 1) fx fm _ _ _ _ _ _ (by omega) (by omega) (by omega) hB
    have g1 : ¬ ixBad (nI p) 32 := ixg (by omega) (by decide)
    have c1 : (nI p).toNatClampNeg = p := nI_clamp (by omega)
    have g2 : ¬ ixBad (nI (oN k j)) 256 := ixg (by omega) (by decide)
    have c2 : (nI (oN k j)).toNatClampNeg = oN k j := nI_clamp (by omega)
    refine ⟨col', tk', wr', mch', mt', mw', q1, fun q hq => ?_, ?_, ?_⟩
    · obtain ⟨a1, a2⟩ := q2 q hq
      rw [a1, a2, upd_at, upd_at, if_neg (by omega), if_neg (by omega)]
      exact ⟨rfl, rfl⟩
    · rw [← q3]
      show p_X0_chooseBalanced_L10b F (nI (cN k)) oX (nI n) _ (nI p) tk wr col = _
      unfold p_X0_chooseBalanced_L10b
      rw [if_neg (nI_ge (by omega) (by omega)), e1]
      simp only [Option.bind_some, g1, c1, g2, c2, ↓reduceIte, nar1]
      have key := fold_loop (fun fuel (a : Nat → Int32) r => p_X0_chooseBalanced_L40 F (nI (cN k)) oX (nI n) (nI p) (nI (oN k j)) (p_X0_chooseBalanced_L10 F (nI (cN k)) oX (nI n) fx) fuel r (upd tk (oN k j) 1) a (upd col p (nI (oN k j)))) (fun a => p_X0_chooseBalanced_L10 F (nI (cN k)) oX (nI n) fx (nI (p + 1)) (upd tk (oN k j) 1) a (upd col p (nI (oN k j)))) (fun r a => upd a r (a r + (fun r => if bt (nI (oN k j)) r = true then (1 : Int32) else 0) r)) (fun _ _ => True) 8
        (fun fuel r a hr _ => by
          show p_X0_chooseBalanced_L40b F (nI (cN k)) oX (nI n) (nI p) (nI (oN k j)) _ _ (nI r) (upd tk (oN k j) 1) a (upd col p (nI (oN k j))) = _
          have g1 : ¬ ixBad (nI r) 8 := ixg (by omega) (by decide)
          have c1 : (nI r).toNatClampNeg = r := nI_clamp (by omega)
          unfold p_X0_chooseBalanced_L40b
          rw [if_neg (show ¬ (8 : Int32) ≤ nI r from nI_ge (b := 8) hr (by decide))]
          simp only [g1, c1, ↓reduceIte, bit1u (nI (oN k j)) (show r < 32 by omega), nI_1])
        (fun fuel a _ => by
          show p_X0_chooseBalanced_L40b F (nI (cN k)) oX (nI n) (nI p) (nI (oN k j)) _ _ (nI 8) (upd tk (oN k j) 1) a (upd col p (nI (oN k j))) = _
          unfold p_X0_chooseBalanced_L40b
          rw [if_pos (by decide), nI_1]) (fun _ _ _ _ => trivial) 8 0 F wr (by omega) (by omega) trivial
      rw [upd_fold] at key
      exact key
    · rw [← q4]
      show p_X11_choose_L110b F (nI n) (nI k) 1 _ (nI p) (nI (cN k)) z28 oM mch b3 mw mt b6 = _
      unfold p_X11_choose_L110b p_X11_choose_J141
      rw [if_neg (nI_ge (by omega) (by omega)), if_neg i32_1_0, e2]
      simp only [Option.bind_some, g1, c1, ↓reduceIte, nI_1]
end Bal2
