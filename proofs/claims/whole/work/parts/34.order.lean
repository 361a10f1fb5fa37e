/-! columns of data in their order -/
def lstO (o d : Nat) : List Nat := (List.range d).filter (onC o)
theorem lstO_succ (o d : Nat) : lstO o (d + 1) = lstO o d ++ (if onC o d = true then [d] else []) := by
  unfold lstO
  rw [List.range_succ, List.filter_append]
  congr 1
  by_cases h : onC o d = true
  · simp [h]
  · simp [h]
def ordL (k : Nat) : List Nat := lstO 3 (2 ^ k) ++ lstO 5 (2 ^ k) ++ lstO 7 (2 ^ k)
def OA (l : List Nat) (a : Nat → Int32) : Nat → Int32 := fun j => if j < l.length then nI (l.getD j 0) else a j
theorem OA_nil (a : Nat → Int32) : OA [] a = a := rfl
theorem OA_snoc (l : List Nat) (c : Nat) (a : Nat → Int32) : OA (l ++ [c]) a = upd (OA l a) l.length (nI c) := by
  funext j
  rw [upd_at]
  unfold OA
  rw [List.length_append, List.length_singleton]
  by_cases h : j = l.length
  · subst h
    rw [if_pos (by omega), if_pos rfl, List.getD_eq_getElem?_getD, List.getElem?_append_right (Nat.le_refl _)]
    simp
  · rw [if_neg h]
    by_cases h2 : j < l.length
    · rw [if_pos (by omega), if_pos h2, List.getD_eq_getElem?_getD, List.getD_eq_getElem?_getD, List.getElem?_append_left h2]
    · rw [if_neg (by omega), if_neg h2]
theorem lstO_len (o : Nat) {c d : Nat} (h : c ≤ d) : (lstO o c).length ≤ (lstO o d).length := by
  induction h with
  | refl => exact Nat.le_refl _
  | step h ih => rw [lstO_succ, List.length_append]; omega
theorem ord_tab : ∀ k, k ≤ 8 → (lstO 3 (2 ^ k)).length ≤ 56 ∧ (lstO 5 (2 ^ k)).length ≤ 56 ∧ (lstO 7 (2 ^ k)).length ≤ 8 ∧ (k < 5 → lstO 5 (2 ^ k) = []) ∧ (k < 7 → lstO 7 (2 ^ k) = []) := by decide +kernel
theorem ord_len {k : Nat} (h : k ≤ 8) : (ordL k).length ≤ 120 := by
  obtain ⟨h1, h2, h3, _⟩ := ord_tab k h
  unfold ordL
  rw [List.length_append, List.length_append]
  omega
section Ord
variable {F k : Nat}
theorem M_ord_inner (hF : 1000 < F) (hk : k ≤ 8) {o : Nat} (ho : o < 1000) (a : Nat → Int32) (k7 : Int32 → Int32 → (Nat → Int32) → Option (Int32 × (Nat → Int32))) (pre : List Nat) (hl : (pre ++ lstO o (2 ^ k)).length ≤ 120) :
    p_X11_layOrdered_L14 F (nI k) (nI o) k7 F 0 (nI pre.length) (OA pre a) = k7 (nI (o + 2)) (nI (pre ++ lstO o (2 ^ k)).length) (OA (pre ++ lstO o (2 ^ k)) a) := by
  have h2 := pow_le8 hk
  let g := fun (c : Nat) (l : List Nat) => l ++ (if onC o c = true then [c] else [])
  have hI : ∀ i l, i < 2 ^ k → l = pre ++ lstO o i → g i l = pre ++ lstO o (i + 1) := fun i l _ e => by
    show l ++ _ = _
    rw [e, lstO_succ, List.append_assoc]
  have key := fold_loop (fun fuel (l : List Nat) c => p_X11_layOrdered_L14 F (nI k) (nI o) k7 fuel c (nI l.length) (OA l a)) (fun l => k7 (nI (o + 2)) (nI l.length) (OA l a)) g (fun c l => l = pre ++ lstO o c) (2 ^ k) (fun fuel c l hc hl2 => by
    show p_X11_layOrdered_L14b F (nI k) (nI o) k7 _ (nI c) (nI l.length) (OA l a) = _
    have hp := pcn_le (nI c)
    unfold p_X11_layOrdered_L14b p_X11_layOrdered_J52
    rw [oh_val8 k hk, if_neg (nI_ge hc (by omega)), M_ones (by omega)]
    simp only [Option.bind_some, nI_1, nI_eqo hp ho]
    show _ = p_X11_layOrdered_L14 F (nI k) (nI o) k7 fuel (nI (c + 1)) (nI (l ++ _).length) (OA (l ++ _) a)
    by_cases e : pcn (nI c) = o
    · have e2 : onC o c = true := decide_eq_true e
      have hlen : l.length < 120 := by
        have h3 := lstO_len o (show c + 1 ≤ 2 ^ k by omega)
        rw [lstO_succ, if_pos e2, List.length_append, List.length_singleton] at h3
        rw [hl2, List.length_append]
        rw [List.length_append] at hl
        omega
      have g1 : ¬ ixBad (nI l.length) 128 := ixg (by omega) (by decide)
      have c1 : (nI l.length).toNatClampNeg = l.length := nI_clamp (by omega)
      simp only [e, e2, g1, c1, ↓reduceIte]
      rw [OA_snoc, List.length_append, List.length_singleton]
    · have e2 : ¬ onC o c = true := fun h => e (of_decide_eq_true h)
      simp only [e, e2, ↓reduceIte, List.append_nil, Bool.false_eq_true]) (fun fuel l _ => by
    show p_X11_layOrdered_L14b F (nI k) (nI o) k7 _ (nI (2 ^ k)) (nI l.length) (OA l a) = _
    unfold p_X11_layOrdered_L14b
    rw [oh_val8 k hk, if_pos (nI_le (Nat.le_refl _) (by omega)), show nI o + 2 = nI (o + 2) from nI_add o 2]) hI (2 ^ k) 0 F pre (by omega) (by omega) (by unfold lstO; simp)
  have e := fo_inv hI (2 ^ k) 0 pre (by omega) (by unfold lstO; simp)
  rw [Nat.zero_add] at e
  rw [e] at key
  exact key
theorem X0_ord_inner (hk : k ≤ 8) (hF : 1000 < F) {o : Nat} (ho : o < 1000) (a : Nat → Int32) (k7 : Int32 → Int32 → (Nat → Int32) → Option (Int32 × (Nat → Int32))) (pre : List Nat) (hl : (pre ++ lstO o (2 ^ k)).length ≤ 120) :
    p_X0_listInOrder_L14 F (nI k) (nI o) k7 F 0 (nI pre.length) (OA pre a) = k7 (nI (o + 2)) (nI (pre ++ lstO o (2 ^ k)).length) (OA (pre ++ lstO o (2 ^ k)) a) := by
  have h2 := pow_le8 hk
  let g := fun (c : Nat) (l : List Nat) => l ++ (if onC o c = true then [c] else [])
  have hI : ∀ i l, i < 2 ^ k → l = pre ++ lstO o i → g i l = pre ++ lstO o (i + 1) := fun i l _ e => by
    show l ++ _ = _
    rw [e, lstO_succ, List.append_assoc]
  have key := fold_loop (fun fuel (l : List Nat) c => p_X0_listInOrder_L14 F (nI k) (nI o) k7 fuel c (nI l.length) (OA l a)) (fun l => k7 (nI (o + 2)) (nI l.length) (OA l a)) g (fun c l => l = pre ++ lstO o c) (2 ^ k) (fun fuel c l hc hl2 => by
    show p_X0_listInOrder_L14b F (nI k) (nI o) k7 _ (nI c) (nI l.length) (OA l a) = _
    have hp := pcn_le (nI c)
    unfold p_X0_listInOrder_L14b p_X0_listInOrder_J49
    rw [oh_val8 k hk, if_neg (nI_ge hc (by omega)), bitCount_eq]
    simp only [Option.bind_some, nI_1, nI_eqo hp ho]
    show _ = p_X0_listInOrder_L14 F (nI k) (nI o) k7 fuel (nI (c + 1)) (nI (l ++ _).length) (OA (l ++ _) a)
    by_cases e : pcn (nI c) = o
    · have e2 : onC o c = true := decide_eq_true e
      have hlen : l.length < 120 := by
        have h3 := lstO_len o (show c + 1 ≤ 2 ^ k by omega)
        rw [lstO_succ, if_pos e2, List.length_append, List.length_singleton] at h3
        rw [hl2, List.length_append]
        rw [List.length_append] at hl
        omega
      have g1 : ¬ ixBad (nI l.length) 256 := ixg (by omega) (by decide)
      have c1 : (nI l.length).toNatClampNeg = l.length := nI_clamp (by omega)
      simp only [e, e2, g1, c1, ↓reduceIte]
      rw [OA_snoc, List.length_append, List.length_singleton]
    · have e2 : ¬ onC o c = true := fun h => e (of_decide_eq_true h)
      simp only [e, e2, ↓reduceIte, List.append_nil, Bool.false_eq_true]) (fun fuel l _ => by
    show p_X0_listInOrder_L14b F (nI k) (nI o) k7 _ (nI (2 ^ k)) (nI l.length) (OA l a) = _
    unfold p_X0_listInOrder_L14b
    rw [oh_val8 k hk, if_pos (nI_le (Nat.le_refl _) (by omega)), show nI o + 2 = nI (o + 2) from nI_add o 2]) hI (2 ^ k) 0 F pre (by omega) (by omega) (by unfold lstO; simp)
  have e := fo_inv hI (2 ^ k) 0 pre (by omega) (by unfold lstO; simp)
  rw [Nat.zero_add] at e
  rw [e] at key
  exact key
theorem M_layOrdered (hF : 1000 < F) (hk4 : 4 ≤ k) (hk : k ≤ 8) (c0 : Int32) (a : Nat → Int32) : p_X11_layOrdered F c0 a (nI k) = some (nI (ordL k).length, OA (ordL k) a) := by
  obtain ⟨t1, t2, t3, t4, t5⟩ := ord_tab k hk
  have stop : ∀ (o f : Nat) (l : List Nat), k < o → o < 1000 → p_X11_layOrdered_L7 F (nI k) (f + 1) (nI o) (nI l.length) (OA l a) = some (nI l.length, OA l a) := fun o f l h h2 => by
    show p_X11_layOrdered_L7b F (nI k) _ (nI o) _ _ = _
    unfold p_X11_layOrdered_L7b
    rw [if_pos (nI_lt h (by omega))]
  have go : ∀ (o f : Nat) (l : List Nat), o ≤ k → (l ++ lstO o (2 ^ k)).length ≤ 120 → p_X11_layOrdered_L7 F (nI k) (f + 1) (nI o) (nI l.length) (OA l a) = p_X11_layOrdered_L7 F (nI k) f (nI (o + 2)) (nI (l ++ lstO o (2 ^ k)).length) (OA (l ++ lstO o (2 ^ k)) a) := fun o f l h h2 => by
    show p_X11_layOrdered_L7b F (nI k) _ (nI o) _ _ = _
    unfold p_X11_layOrdered_L7b
    rw [if_neg (nI_nlt h (by omega))]
    exact M_ord_inner hF hk (by omega) a _ l h2
  obtain ⟨F', rfl⟩ : ∃ F', F = F' + 4 := ⟨F - 4, by omega⟩
  show p_X11_layOrdered_L7 _ (nI k) (F' + 4) (nI 3) (nI ([] : List Nat).length) (OA [] a) = _
  rw [go 3 (F' + 3) [] (by omega) (by simp; omega), List.nil_append]
  by_cases h5 : k < 5
  · rw [stop 5 (F' + 2) _ h5 (by decide)]
    unfold ordL
    rw [t4 h5, t5 (by omega), List.append_nil, List.append_nil]
  · rw [go 5 (F' + 2) _ (by omega) (by rw [List.length_append]; omega)]
    by_cases h7 : k < 7
    · rw [stop 7 (F' + 1) _ h7 (by decide)]
      unfold ordL
      rw [t5 h7, List.append_nil]
    · rw [go 7 (F' + 1) _ (by omega) (by rw [List.length_append, List.length_append]; omega), stop 9 F' _ (by omega) (by decide)]
      rfl
theorem X0_listInOrder (hF : 1000 < F) (hk4 : 4 ≤ k) (hk : k ≤ 8) (c0 : Int32) (a : Nat → Int32) : p_X0_listInOrder F c0 a (nI k) = some (nI (ordL k).length, OA (ordL k) a) := by
  obtain ⟨t1, t2, t3, t4, t5⟩ := ord_tab k hk
  have stop : ∀ (o f : Nat) (l : List Nat), k < o → o < 1000 → p_X0_listInOrder_L7 F (nI k) (f + 1) (nI o) (nI l.length) (OA l a) = some (nI l.length, OA l a) := fun o f l h h2 => by
    show p_X0_listInOrder_L7b F (nI k) _ (nI o) _ _ = _
    unfold p_X0_listInOrder_L7b
    rw [if_pos (nI_lt h (by omega))]
  have go : ∀ (o f : Nat) (l : List Nat), o ≤ k → (l ++ lstO o (2 ^ k)).length ≤ 120 → p_X0_listInOrder_L7 F (nI k) (f + 1) (nI o) (nI l.length) (OA l a) = p_X0_listInOrder_L7 F (nI k) f (nI (o + 2)) (nI (l ++ lstO o (2 ^ k)).length) (OA (l ++ lstO o (2 ^ k)) a) := fun o f l h h2 => by
    show p_X0_listInOrder_L7b F (nI k) _ (nI o) _ _ = _
    unfold p_X0_listInOrder_L7b
    rw [if_neg (nI_nlt h (by omega))]
    exact X0_ord_inner hk hF (by omega) a _ l h2
  obtain ⟨F', rfl⟩ : ∃ F', F = F' + 4 := ⟨F - 4, by omega⟩
  show p_X0_listInOrder_L7 _ (nI k) (F' + 4) (nI 3) (nI ([] : List Nat).length) (OA [] a) = _
  rw [go 3 (F' + 3) [] (by omega) (by simp; omega), List.nil_append]
  by_cases h5 : k < 5
  · rw [stop 5 (F' + 2) _ h5 (by decide)]
    unfold ordL
    rw [t4 h5, t5 (by omega), List.append_nil, List.append_nil]
  · rw [go 5 (F' + 2) _ (by omega) (by rw [List.length_append]; omega)]
    by_cases h7 : k < 7
    · rw [stop 7 (F' + 1) _ h7 (by decide)]
      unfold ordL
      rw [t5 h7, List.append_nil]
    · rw [go 7 (F' + 1) _ (by omega) (by rw [List.length_append, List.length_append]; omega), stop 9 F' _ (by omega) (by decide)]
      rfl
end Ord
/-! what a column of data is -/
abbrev DCp (k : Nat) (v : Int32) : Prop := 0 < v ∧ v < nI (2 ^ k) ∧ 3 ≤ pcn v ∧ pcn v % 2 = 1
theorem par1 {q : Nat} (h : q < 2 ^ 31) : (nI q - nI q / (2 : Int32) * (2 : Int32) = 1) ↔ q % 2 = 1 := by rw [par_eq _ h]; exact nI_eq (b := 1) (by omega) (by decide)
theorem X1_isDataColumn_eq {F k : Nat} (hk : k ≤ 8) (v : Int32) : p_X1_isDataColumn F (nI k) v = some (if DCp k v then 1 else 0) := by
  have hp := pcn_le v
  unfold p_X1_isDataColumn
  rw [bitCount_eq, oh_val8 k hk]
  simp only [Option.bind_some, par1 (show pcn v < 2 ^ 31 by omega)]
  by_cases c1 : v ≤ 0
  · rw [if_pos c1, if_neg (fun q => i32_nle.mpr q.1 c1)]
  · by_cases c2 : nI (2 ^ k) ≤ v
    · rw [if_neg c1, if_pos c2, if_neg (fun q => i32_nle.mpr q.2.1 c2)]
    · by_cases c3 : pcn v < 3
      · rw [if_neg c1, if_neg c2, if_pos (show nI (pcn v) < 3 from nI_lt (b := 3) c3 (by decide)), if_neg (fun q => by have := q.2.2.1; omega)]
      · rw [if_neg c1, if_neg c2, if_neg (show ¬ nI (pcn v) < 3 from nI_nlt (b := 3) (by omega) (by omega))]
        by_cases c4 : pcn v % 2 = 1
        · rw [if_pos c4, if_pos ⟨i32_nle.mp c1, i32_nle.mp c2, by omega, c4⟩]
        · rw [if_neg c4, if_neg (fun q => c4 q.2.2.2)]
theorem pow_toInt {k : Nat} (hk : k ≤ 8) : (nI (2 ^ k)).toInt = 2 ^ k := by
  have := pow_le8 hk
  rw [nI_toInt (by omega)]; exact Int.natCast_pow 2 k
theorem M_isOfData_eq {F k : Nat} (hF : 40 < F) (hk : k ≤ 8) (v : Int32) : p_X11_isOfData F v (nI k) = some (if DCp k v then 1 else 0) := by
  have hp := pcn_le v
  have hpw := pow_le8 hk
  unfold p_X11_isOfData
  rw [oh_val8 k hk, M_isIn, M_ones hF]
  simp only [Option.bind_some, ite0, par1 (show pcn v < 2 ^ 31 by omega)]
  have hin : (1 ≤ v ∧ v ≤ nI (2 ^ k) - 1) ↔ (0 < v ∧ v < nI (2 ^ k)) := by
    have e := pred_toInt (N := 2 ^ k) (c := nI (2 ^ k) - 1) rfl (Nat.two_pow_pos k) (by omega)
    rw [fa_le, fa_le, fa_lt, fa_lt, e, nI_toInt (by omega)]
    have z1 : (1 : Int32).toInt = 1 := rfl
    have z0 : (0 : Int32).toInt = 0 := rfl
    omega
  simp only [hin]
  by_cases c1 : 0 < v ∧ v < nI (2 ^ k)
  · rw [if_pos c1]
    by_cases c4 : pcn v % 2 = 1
    · rw [if_pos c4]
      by_cases c3 : pcn v < 3
      · rw [if_pos (show nI (pcn v) ≤ 2 from nI_le (b := 2) (by omega) (by decide)), if_neg (fun q => by have := q.2.2.1; omega)]
      · rw [if_neg (show ¬ nI (pcn v) ≤ 2 from nI_ge (a := 2) (by omega) (by omega)), if_pos ⟨c1.1, c1.2, by omega, c4⟩]
    · rw [if_neg c4, if_neg (fun q => c4 q.2.2.2)]
  · rw [if_neg c1, if_neg (fun q => c1 ⟨q.1, q.2.1⟩)]
theorem DCp.dcol {k : Nat} {v : Int32} (hk : k ≤ 8) (h : DCp k v) : DCol k v := by
  have hpw := pow_le8 hk
  obtain ⟨h1, h2, h3, h4⟩ := h
  obtain ⟨j, hj, e⟩ := rng_of (v := v) (N := 2 ^ k) (by omega) rfl ⟨by rw [fa_lt] at h1; rw [fa_le]; omega, by rw [fa_lt] at h2; rw [fa_le]; omega⟩
  refine ⟨⟨j, ?_, e⟩, h3, h4⟩
  rw [e, fa_lt, nI_toInt (by omega), nI_toInt (by omega)] at h2
  omega
theorem DCol.dcp {k : Nat} {v : Int32} (hk : k ≤ 8) (h : DCol k v) : DCp k v := by
  have hpw := pow_le8 hk
  obtain ⟨⟨j, hj, e⟩, h3, h4⟩ := h
  refine ⟨?_, ?_, h3, h4⟩
  · rw [e, fa_lt, nI_toInt (by omega)]
    have z0 : (0 : Int32).toInt = 0 := rfl
    have : j ≠ 0 := fun q => by
      subst q
      rw [e, show nI 0 = 0 from rfl, pcn_0] at h3; omega
    omega
  · rw [e, fa_lt, nI_toInt (by omega), nI_toInt (by omega)]; omega
