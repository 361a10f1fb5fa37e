/-! columns balanced over rows -/
theorem fo_app {α : Type} (g : Nat → α → α) : ∀ (d e i : Nat) (a : α), fo g (d + e) i a = fo g e (i + d) (fo g d i a)
  | 0, e, i, a => by rw [Nat.zero_add]; rfl
  | d + 1, e, i, a => by
    rw [show d + 1 + e = (d + e) + 1 by omega]
    show fo g (d + e) (i + 1) (g i a) = fo g e (i + (d + 1)) (fo g d (i + 1) (g i a))
    rw [fo_app g d e (i + 1) (g i a), show i + 1 + d = i + (d + 1) by omega]
theorem upd_fold (f : Nat → Int32) (a : Nat → Int32) : ∀ d, fo (fun i (b : Nat → Int32) => upd b i (b i + f i)) d 0 a = fun j => if j < d then a j + f j else a j := by
  intro d
  induction d with
  | zero => funext j; rfl
  | succ d ih =>
    rw [fo_succ, ih]
    funext j
    rw [upd_at, Nat.zero_add]
    by_cases h1 : j = d
    · subst h1
      rw [if_pos rfl, if_pos (show j < j + 1 by omega)]
      show (if j < j then a j + f j else a j) + f j = _
      rw [if_neg (Nat.lt_irrefl _)]
    · rw [if_neg h1]
      by_cases h2 : j < d
      · rw [if_pos h2, if_pos (by omega)]
      · rw [if_neg h2, if_neg (by omega)]
theorem nar0 : vp_nar .boolean (0 : Int32) = 0 := rfl
theorem nar1 : vp_nar .boolean (1 : Int32) = 1 := rfl
def b1N (c : Int32) (r : Nat) : Nat := if bt c r = true then 1 else 0
theorem b1N_I (c : Int32) (r w : Nat) : nI w + (if bt c r = true then (1 : Int32) else 0) = nI (w + b1N c r) := by
  unfold b1N
  by_cases h : bt c r = true
  · rw [if_pos h, if_pos h, nI_1]
  · rw [if_neg h, if_neg h, Nat.add_zero]; exact Int32.add_zero _
theorem b1N_le (c : Int32) (r : Nat) : b1N c r ≤ 1 := by unfold b1N; split <;> omega
def mxW (w : Nat → Nat) (c : Int32) (d : Nat) : Nat := fo (fun r a => max a (w r + b1N c r)) d 0 0
theorem mxW_le {w : Nat → Nat} {c : Int32} (hw : ∀ r, r < 8 → w r ≤ 100) {d : Nat} (hd : d ≤ 8) : mxW w c d ≤ 101 := by
  have := fo_inv (g := fun r a => max a (w r + b1N c r)) (I := fun _ a => a ≤ 101) (n := 8) (fun r a hr ha => by
    have h1 := hw r hr
    have h2 := b1N_le c r
    show max a (w r + b1N c r) ≤ 101
    omega) d 0 0 (by omega) (by omega)
  exact this
theorem mxW_8 {w : Nat → Nat} {c : Int32} {k : Nat} (hk : k ≤ 8) (hw : ∀ r, k ≤ r → r < 8 → w r = 0 ∧ bt c r = false) : mxW w c 8 = mxW w c k := by
  unfold mxW
  have e := fo_app (fun r a => max a (w r + b1N c r)) k (8 - k) 0 0
  rw [show k + (8 - k) = 8 by omega] at e
  rw [e, Nat.zero_add]
  exact (fo_inv (g := fun r a => max a (w r + b1N c r)) (I := fun r a => k ≤ r ∧ a = fo (fun r a => max a (w r + b1N c r)) k 0 0) (n := 8) (fun r a hr ha => ⟨by omega, by
    obtain ⟨h1, h2⟩ := hw r ha.1 hr
    show max a (w r + b1N c r) = _
    unfold b1N at *
    rw [h1, h2, if_neg (by decide), ← ha.2]
    omega⟩) (8 - k) k _ (by omega) ⟨Nat.le_refl _, rfl⟩).2
section Bal
variable {F n k : Nat} {tk wr mt mw oX oM : Nat → Int32}
theorem X0_greatest {w : Nat → Nat} {c : Int32} (hF : 1000 < F) (hw : ∀ r, r < 8 → wr r = nI (w r) ∧ w r ≤ 100) : p_X0_greatestWith F wr c = some (nI (mxW w c 8)) :=
  fold_loop (fun fuel (a : Nat) r => p_X0_greatestWith_L4 F wr c fuel (nI a) r) (fun a => some (nI a)) (fun r a => max a (w r + b1N c r)) (fun _ a => a ≤ 101) 8
    (fun fuel r a hr ha => by
      show p_X0_greatestWith_L4b F wr c _ (nI a) (nI r) = _
      have g1 : ¬ ixBad (nI r) 8 := ixg hr (by decide)
      have c1 : (nI r).toNatClampNeg = r := nI_clamp (by omega)
      have h1 := (hw r hr).2
      have h2 := b1N_le c r
      unfold p_X0_greatestWith_L4b
      rw [if_neg (show ¬ (8 : Int32) ≤ nI r from nI_ge (b := 8) hr (by decide))]
      simp only [g1, c1, ↓reduceIte, (hw r hr).1, bit1u c (show r < 32 by omega), b1N_I, jlet_eq, nI_1, nI_maxL (show a < 1000 by omega) (show w r + b1N c r < 1000 by omega)])
    (fun fuel a _ => by
      show p_X0_greatestWith_L4b F wr c _ (nI a) (nI 8) = _
      unfold p_X0_greatestWith_L4b
      rw [if_pos (by decide)])
    (fun r a hr ha => by
      have h1 := (hw r hr).2
      have h2 := b1N_le c r
      show max a (w r + b1N c r) ≤ 101
      omega) 8 0 F 0 (by omega) (by omega) (by omega)
/-- a scan for the best column -/
def bsT (k : Nat) (tk : Nat → Int32) (w : Nat → Nat) (i : Nat) (z : Int32 × Nat) : Int32 × Nat :=
  if tk (oN k i) = 0 then (if 0 ≤ z.1 ∧ pcn z.1 < pcn (nI (oN k i)) then z else if mxW w (nI (oN k i)) 8 < z.2 then (nI (oN k i), mxW w (nI (oN k i)) 8) else z) else z
def BsI (k : Nat) (tk : Nat → Int32) (i : Nat) (z : Int32 × Nat) : Prop := (z = (-1, 268435456) ∧ ∀ j, j < i → tk (oN k j) ≠ 0) ∨ ∃ j, j < i ∧ tk (oN k j) = 0 ∧ z.1 = nI (oN k j) ∧ z.2 < 1000
theorem bsT_ok {w : Nat → Nat} (hw : ∀ r, r < 8 → w r ≤ 100) {i : Nat} {z : Int32 × Nat} (h : BsI k tk i z) : BsI k tk (i + 1) (bsT k tk w i z) := by
  have hm := mxW_le (c := nI (oN k i)) hw (Nat.le_refl 8)
  have keep : tk (oN k i) ≠ 0 ∨ ¬ z = (-1, 268435456) → BsI k tk (i + 1) z := fun hh => by
    rcases h with ⟨h1, h2⟩ | ⟨j, h1, h2⟩
    · rcases hh with hh | hh
      · refine Or.inl ⟨h1, fun j hj => ?_⟩
        by_cases e : j = i
        · subst e; exact hh
        · exact h2 j (by omega)
      · exact absurd h1 hh
    · exact Or.inr ⟨j, by omega, h2⟩
  unfold bsT
  by_cases c1 : tk (oN k i) = 0
  · rw [if_pos c1]
    by_cases c2 : 0 ≤ z.1 ∧ pcn z.1 < pcn (nI (oN k i))
    · rw [if_pos c2]
      refine keep (Or.inr (fun e => ?_))
      rw [e] at c2
      exact absurd c2.1 (show ¬ (0 : Int32) ≤ -1 by decide)
    · rw [if_neg c2]
      by_cases c3 : mxW w (nI (oN k i)) 8 < z.2
      · rw [if_pos c3]
        exact Or.inr ⟨i, by omega, c1, rfl, show mxW w (nI (oN k i)) 8 < 1000 by omega⟩
      · rw [if_neg c3]
        refine keep (Or.inr (fun e => c3 ?_))
        rw [e]
        show _ < 268435456
        omega
  · rw [if_neg c1]
    exact keep (Or.inl c1)
theorem bsT_rest {w : Nat → Nat} {z : Int32 × Nat} (hz : 0 ≤ z.1) : ∀ (d i : Nat), i + d ≤ cN k → (∀ j, i ≤ j → j < i + d → pcn z.1 < pcn (nI (oN k j))) → fo (bsT k tk w) d i z = z
  | 0, _, _, _ => rfl
  | d + 1, i, hd, h => by
    show fo (bsT k tk w) d (i + 1) (bsT k tk w i z) = z
    have e : bsT k tk w i z = z := by
      unfold bsT
      by_cases c1 : tk (oN k i) = 0
      · rw [if_pos c1, if_pos ⟨hz, h i (by omega) (by omega)⟩]
      · rw [if_neg c1]
    rw [e]
    exact bsT_rest hz d (i + 1) (by omega) (fun j h1 h2 => h j (by omega) (by omega))
def BsR (z : Int32 × Nat) (b l : Int32) : Prop := (z = (-1, 268435456) ∧ b = 0 ∧ l = 0) ∨ (¬ z.1 = -1 ∧ b = z.1 ∧ l = nI z.2)
theorem pcn_pos_ne {c : Int32} (h : 3 ≤ pcn c) : ¬ c = 0 := fun e => by rw [e, pcn_0] at h; omega
theorem X0_most {w : Nat → Nat} (hF : 1000 < F) (hk : k ≤ 8) (hw : ∀ r, r < 8 → wr r = nI (w r) ∧ w r ≤ 100) (ho : ∀ i, i < cN k → oX i = nI (oN k i)) : ∀ (d i fuel : Nat) (z : Int32 × Nat) (b l : Int32), i + d = cN k → d < fuel → BsI k tk i z → BsR z b l →
    p_X0_mostBalanced_L6 F (nI (cN k)) oX tk wr fuel b l (nI i) = some (if (fo (bsT k tk w) d i z).1 = -1 then 0 else (fo (bsT k tk w) d i z).1) := by
  have hc := cN_le hk
  have hp8 := pow_le8 hk
  intro d
  induction d with
  | zero =>
    intro i fuel z b l hi hf hI hR
    obtain ⟨fuel, rfl⟩ : ∃ q, fuel = q + 1 := ⟨fuel - 1, by omega⟩
    show p_X0_mostBalanced_L6b F (nI (cN k)) oX tk wr _ b l (nI i) = some (if z.1 = -1 then 0 else z.1)
    unfold p_X0_mostBalanced_L6b
    rw [if_pos (nI_le (by omega) (by omega))]
    rcases hR with ⟨r1, r2, r3⟩ | ⟨r1, r2, r3⟩
    · rw [r1, r2]; rfl
    · rw [if_neg r1, r2]
  | succ d ih =>
    intro i fuel z b l hi hf hI hR
    obtain ⟨fuel, rfl⟩ : ∃ q, fuel = q + 1 := ⟨fuel - 1, by omega⟩
    have hlt := oN_lt (k := k) (show i < cN k by omega)
    have hm := mxW_le (c := nI (oN k i)) (fun r hr => (hw r hr).2) (Nat.le_refl 8)
    have hok := bsT_ok (tk := tk) (w := w) (fun r hr => (hw r hr).2) hI
    have hfo : fo (bsT k tk w) (d + 1) i z = fo (bsT k tk w) d (i + 1) (bsT k tk w i z) := rfl
    have g1 : ¬ ixBad (nI i) 256 := ixg (by omega) (by decide)
    have c1 : (nI i).toNatClampNeg = i := nI_clamp (by omega)
    have g2 : ¬ ixBad (nI (oN k i)) 256 := ixg (by omega) (by decide)
    have c2 : (nI (oN k i)).toNatClampNeg = oN k i := nI_clamp (by omega)
    show p_X0_mostBalanced_L6b F (nI (cN k)) oX tk wr _ b l (nI i) = _
    unfold p_X0_mostBalanced_L6b p_X0_mostBalanced_J54 p_X0_mostBalanced_J72 p_X0_mostBalanced_J78
    rw [if_neg (nI_ge (by omega) (by omega))]
    simp only [g1, c1, ↓reduceIte, ho i (show i < cN k by omega), g2, c2, bitCount_eq, Option.bind_some, X0_greatest hF hw, nI_1]
    by_cases ct : tk (oN k i) = 0
    · rw [if_pos ct]
      rcases hR with ⟨r1, r2, r3⟩ | ⟨r1, r2, r3⟩
      · have e : bsT k tk w i z = (nI (oN k i), mxW w (nI (oN k i)) 8) := by
          unfold bsT
          rw [r1, if_pos ct, if_neg (fun h => absurd h.1 (show ¬ (0 : Int32) ≤ -1 by decide)), if_pos (show _ < 268435456 by omega)]
        rw [if_pos r2, if_pos r2, hfo, e]
        rw [e] at hok
        exact ih (i + 1) fuel _ _ _ (by omega) (by omega) hok (Or.inr ⟨nI_ne_m1 (by omega), rfl, rfl⟩)
      · obtain ⟨j, h1, h2, h3, h4⟩ : ∃ j, j < i ∧ tk (oN k j) = 0 ∧ z.1 = nI (oN k j) ∧ z.2 < 1000 := by
          rcases hI with ⟨h1, _⟩ | h
          · rw [h1] at r1; exact absurd rfl r1
          · exact h
        have hj := oN_lt (k := k) (show j < cN k by omega)
        have hb0 : ¬ b = 0 := by rw [r2, h3]; exact pcn_pos_ne (oN_dcol (show j < cN k by omega)).2.1
        have p1 := pcn_le (nI (oN k i))
        have p2 := pcn_le b
        have z0 : 0 ≤ z.1 := by rw [h3]; exact nI_ge0 (by omega)
        rw [if_neg hb0, if_neg hb0]
        by_cases cp : pcn (nI (oN k i)) ≤ pcn b
        · have cp' : ¬ (0 ≤ z.1 ∧ pcn z.1 < pcn (nI (oN k i))) := fun h => by rw [← r2] at h; omega
          rw [if_pos (nI_le cp (by omega)), hfo]
          by_cases cm : mxW w (nI (oN k i)) 8 < z.2
          · have e : bsT k tk w i z = (nI (oN k i), mxW w (nI (oN k i)) 8) := by
              unfold bsT
              rw [if_pos ct, if_neg cp', if_pos cm]
            rw [r3, if_neg (nI_ge cm (by omega)), e]
            rw [e] at hok
            exact ih (i + 1) fuel _ _ _ (by omega) (by omega) hok (Or.inr ⟨nI_ne_m1 (by omega), rfl, rfl⟩)
          · have e : bsT k tk w i z = z := by
              unfold bsT
              rw [if_pos ct, if_neg cp', if_neg cm]
            rw [r3, if_pos (nI_le (by omega) (by omega)), e, ← r3]
            rw [e] at hok
            exact ih (i + 1) fuel _ _ _ (by omega) (by omega) hok (Or.inr ⟨r1, r2, r3⟩)
        · rw [if_neg (nI_ge (by omega) (by omega)), bsT_rest z0 (d + 1) i (by omega) (fun q q1 q2 => by
            have := oN_sorted (k := k) q1 (by omega)
            rw [← r2]; omega), if_neg r1, r2]
    · have e : bsT k tk w i z = z := by
        unfold bsT
        rw [if_neg ct]
      rw [if_neg ct, hfo, e]
      rw [e] at hok
      exact ih (i + 1) fuel z b l (by omega) (by omega) hok hR
/-- the model's scan -/
theorem M_rows8 {w : Nat → Nat} {c : Nat} (hF : 1000 < F) (hk : k ≤ 8) (hw : ∀ r, r < k → mw r = nI (w r) ∧ w r ≤ 100) (best : Int32) {least i : Nat} (hl : least ≤ 268435456) (k36 : Int32 → Int32 → Int32 → (Nat → Int32) → (Nat → Int32) → Option (Int32 × (Nat → Int32) × (Nat → Int32))) :
    p_X11_balancedFor_J86 F (nI (cN k)) oM (nI k) k36 best (nI least) (nI i) (nI c) mw mt = if mxW w (nI c) k < least then k36 (nI c) (nI (mxW w (nI c) k)) (nI (i + 1)) mw mt else k36 best (nI least) (nI (i + 1)) mw mt := by
  have hm : mxW w (nI c) k ≤ 101 := by
    have := fo_inv (g := fun r a => max a (w r + b1N (nI c) r)) (I := fun _ a => a ≤ 101) (n := k) (fun r a hr ha => by
      have h1 := (hw r hr).2
      have h2 := b1N_le (nI c) r
      show max a (w r + b1N (nI c) r) ≤ 101
      omega) k 0 0 (by omega) (by omega)
    exact this
  unfold p_X11_balancedFor_J86
  refine Eq.trans (fold_loop (fun fuel (a : Nat) r => p_X11_balancedFor_L92 F (nI (cN k)) oM (nI k) best (nI least) (nI i) (nI c) k36 fuel (nI a) r mw mt) (fun a => if a < least then k36 (nI c) (nI a) (nI (i + 1)) mw mt else k36 best (nI least) (nI (i + 1)) mw mt) (fun r a => max a (w r + b1N (nI c) r)) (fun _ a => a ≤ 101) k ?_ ?_ ?_ k 0 F 0 (by omega) (by omega) (by omega)) rfl
  · intro fuel r a hr ha
    show p_X11_balancedFor_L92b F (nI (cN k)) oM (nI k) best (nI least) (nI i) (nI c) k36 _ (nI a) (nI r) mw mt = _
    have g1 : ¬ ixBad (nI r) 8 := ixg (by omega) (by decide)
    have c1 : (nI r).toNatClampNeg = r := nI_clamp (by omega)
    have h1 := (hw r hr).2
    have h2 := b1N_le (nI c) r
    unfold p_X11_balancedFor_L92b
    rw [if_neg (nI_ge hr (by omega))]
    simp only [g1, c1, ↓reduceIte, (hw r hr).1, bit1s (nI c) (show r < 32 by omega), b1N_I, M_more, Option.bind_some, nI_1, nI_maxM (show a < 1000 by omega) (show w r + b1N (nI c) r < 1000 by omega)]
  · intro fuel a ha
    show p_X11_balancedFor_L92b F (nI (cN k)) oM (nI k) best (nI least) (nI i) (nI c) k36 _ (nI a) (nI k) mw mt = _
    unfold p_X11_balancedFor_L92b p_X11_balancedFor_J141
    rw [if_pos (nI_le (Nat.le_refl _) (by omega)), nI_1]
    by_cases q : a < least
    · rw [if_pos q, if_pos (nI_lt q (by omega))]
    · rw [if_neg q, if_neg (nI_nlt (by omega) (by omega))]
  · intro r a hr ha
    have h1 := (hw r hr).2
    have h2 := b1N_le (nI c) r
    show max a (w r + b1N (nI c) r) ≤ 101
    omega
theorem BsI.le {i : Nat} {z : Int32 × Nat} (h : BsI k tk i z) : z.2 ≤ 268435456 := by
  rcases h with ⟨h1, _⟩ | ⟨j, _, _, _, h4⟩
  · rw [h1]; exact Nat.le_refl _
  · omega
theorem M_most {w : Nat → Nat} (hF : 1000 < F) (hk : k ≤ 8) (hw : ∀ r, r < 8 → w r ≤ 100) (hw0 : ∀ r, k ≤ r → r < 8 → w r = 0) (hmw : ∀ r, r < k → mw r = nI (w r)) (ht : ∀ c, c < 256 → tk c = mt c) (ho : ∀ i, i < cN k → oM i = nI (oN k i)) : ∀ (d i fuel : Nat) (z : Int32 × Nat), i + d = cN k → d < fuel → BsI k tk i z →
    p_X11_balancedFor_L36 F (nI (cN k)) oM (nI k) fuel z.1 (nI z.2) (nI i) mw mt = p_X11_balancedFor_L36 F (nI (cN k)) oM (nI k) 1 (fo (bsT k tk w) d i z).1 (nI (fo (bsT k tk w) d i z).2) (nI (cN k)) mw mt := by
  have hc := cN_le hk
  have hp8 := pow_le8 hk
  intro d
  induction d with
  | zero =>
    intro i fuel z hi hf hI
    obtain ⟨fuel, rfl⟩ : ∃ q, fuel = q + 1 := ⟨fuel - 1, by omega⟩
    have e : i = cN k := by omega
    subst e
    show p_X11_balancedFor_L36b F (nI (cN k)) oM (nI k) _ z.1 (nI z.2) (nI (cN k)) mw mt = p_X11_balancedFor_L36b F (nI (cN k)) oM (nI k) _ z.1 (nI z.2) (nI (cN k)) mw mt
    unfold p_X11_balancedFor_L36b
    rw [if_pos (nI_le (Nat.le_refl _) (by omega)), if_pos (nI_le (Nat.le_refl _) (by omega))]
  | succ d ih =>
    intro i fuel z hi hf hI
    obtain ⟨fuel, rfl⟩ : ∃ q, fuel = q + 1 := ⟨fuel - 1, by omega⟩
    have hlt := oN_lt (k := k) (show i < cN k by omega)
    have hle := hI.le
    have hok := bsT_ok (tk := tk) (w := w) hw hI
    have hfo : fo (bsT k tk w) (d + 1) i z = fo (bsT k tk w) d (i + 1) (bsT k tk w i z) := rfl
    have g1 : ¬ ixBad (nI i) 128 := ixg (by omega) (by decide)
    have c1 : (nI i).toNatClampNeg = i := nI_clamp (by omega)
    have g2 : ¬ ixBad (nI (oN k i)) 256 := ixg (by omega) (by decide)
    have c2 : (nI (oN k i)).toNatClampNeg = oN k i := nI_clamp (by omega)
    have e8 : mxW w (nI (oN k i)) 8 = mxW w (nI (oN k i)) k := mxW_8 hk (fun r h1 h2 => ⟨hw0 r h1 h2, fit_nI hlt hk r h1⟩)
    rw [hfo, ← ih (i + 1) fuel _ (by omega) (by omega) hok]
    show p_X11_balancedFor_L36b F (nI (cN k)) oM (nI k) _ z.1 (nI z.2) (nI i) mw mt = _
    unfold p_X11_balancedFor_L36b p_X11_balancedFor_J141
    rw [if_neg (nI_ge (by omega) (by omega))]
    simp only [g1, c1, ↓reduceIte, ho i (show i < cN k by omega), g2, c2, M_ones (show 40 < F by omega), Option.bind_some, nI_1]
    rw [M_rows8 hF hk (fun r hr => ⟨hmw r hr, hw r (by omega)⟩) z.1 hle, ← ht _ (show oN k i < 256 by omega), ← e8]
    unfold bsT
    by_cases ct : tk (oN k i) = 0
    · rw [if_pos ct, if_pos ct]
      have p1 := pcn_le (nI (oN k i))
      have p2 := pcn_le z.1
      by_cases cz : z.1 < 0
      · have cp' : ¬ (0 ≤ z.1 ∧ pcn z.1 < pcn (nI (oN k i))) := fun h => i32_nlt.mpr h.1 cz
        rw [if_pos cz, if_neg cp']
        by_cases cm : mxW w (nI (oN k i)) 8 < z.2
        · rw [if_pos cm, if_pos cm]
        · rw [if_neg cm, if_neg cm]
      · rw [if_neg cz]
        by_cases cp : pcn (nI (oN k i)) ≤ pcn z.1
        · have cp' : ¬ (0 ≤ z.1 ∧ pcn z.1 < pcn (nI (oN k i))) := fun h => by omega
          rw [if_pos (nI_le cp (by omega)), if_neg cp']
          by_cases cm : mxW w (nI (oN k i)) 8 < z.2
          · rw [if_pos cm, if_pos cm]
          · rw [if_neg cm, if_neg cm]
        · rw [if_neg (nI_ge (by omega) (by omega)), if_pos ⟨i32_nlt.mp cz, by omega⟩]
    · rw [if_neg ct, if_neg ct]
theorem M_none_yes (hF : 1000 < F) (h : ∀ c, c < 256 → mt c = 0) : p_X11_noneTaken F mt = some 1 := by
  have := fold_loop (fun fuel (_ : Unit) i => p_X11_noneTaken_L2 F mt fuel i) (fun _ => some 1) (fun _ a => a) (fun _ _ => True) 256
    (fun fuel i a hi _ => by
      show p_X11_noneTaken_L2b F mt _ (nI i) = _
      have g1 : ¬ ixBad (nI i) 256 := ixg hi (by decide)
      have c1 : (nI i).toNatClampNeg = i := nI_clamp (by omega)
      unfold p_X11_noneTaken_L2b
      rw [if_neg (show ¬ (256 : Int32) ≤ nI i from nI_ge (b := 256) hi (by decide))]
      simp only [g1, c1, ↓reduceIte, h i hi, nI_1])
    (fun fuel a _ => by
      show p_X11_noneTaken_L2b F mt _ (nI 256) = _
      unfold p_X11_noneTaken_L2b
      rw [if_pos (by decide)]) (fun _ _ _ _ => trivial) 256 0 F () (by omega) (by omega) trivial
  exact this
theorem M_none_no {c : Nat} (hF : 1000 < F) (hc : c < 256) (h : mt c ≠ 0) : p_X11_noneTaken F mt = some 0 := by
  have key : ∀ (d i fuel : Nat), i + d = c → d < fuel → p_X11_noneTaken_L2 F mt fuel (nI i) = some 0 := by
    intro d
    induction d with
    | zero =>
      intro i fuel hi hf
      obtain ⟨fuel, rfl⟩ : ∃ q, fuel = q + 1 := ⟨fuel - 1, by omega⟩
      have e : i = c := by omega
      subst e
      show p_X11_noneTaken_L2b F mt _ (nI i) = _
      have g1 : ¬ ixBad (nI i) 256 := ixg hc (by decide)
      have c1 : (nI i).toNatClampNeg = i := nI_clamp (by omega)
      unfold p_X11_noneTaken_L2b
      rw [if_neg (show ¬ (256 : Int32) ≤ nI i from nI_ge (b := 256) hc (by decide))]
      simp only [g1, c1, ↓reduceIte, h]
    | succ d ih =>
      intro i fuel hi hf
      obtain ⟨fuel, rfl⟩ : ∃ q, fuel = q + 1 := ⟨fuel - 1, by omega⟩
      show p_X11_noneTaken_L2b F mt _ (nI i) = _
      have g1 : ¬ ixBad (nI i) 256 := ixg (by omega) (by decide)
      have c1 : (nI i).toNatClampNeg = i := nI_clamp (by omega)
      unfold p_X11_noneTaken_L2b
      rw [if_neg (show ¬ (256 : Int32) ≤ nI i from nI_ge (b := 256) (by omega) (by decide))]
      simp only [g1, c1, ↓reduceIte, nI_1]
      rw [ih (i + 1) fuel (by omega) (by omega)]
      by_cases q : mt i = 0
      · rw [if_pos q]
      · rw [if_neg q]
  exact key c 0 F (by omega) (by omega)
end Bal
