/-! a reading -/
def ohI (x : Int32) : Int32 := (1 : Int32) <<< (x &&& 31)
theorem ohI_nI (i : Nat) : ohI (nI i) = oh i := rfl
def rdS (col : Nat → Int32) (m : Nat) (pr s a b : Int32) : Int32 × Int32 × Int32 :=
  if s = 0 then (0, -1, 0)
  else if 0 ≤ a ∧ s = col a.toNatClampNeg then (5, -1, ohI a)
  else if 0 ≤ b ∧ s = col b.toNatClampNeg then (5, -1, ohI b)
  else if 0 ≤ a ∧ 0 ≤ b ∧ s = col a.toNatClampNeg ^^^ col b.toNatClampNeg then (5, -1, ohI a ||| ohI b)
  else if ¬ plc col m s = -1 then (1, plc col m s, ohI (plc col m s))
  else if 0 ≤ a ∧ b < 0 ∧ ¬ plc col m (s ^^^ col a.toNatClampNeg) = -1 then (5, plc col m (s ^^^ col a.toNatClampNeg), ohI (plc col m (s ^^^ col a.toNatClampNeg)) ||| ohI a)
  else if pr = 1 ∧ ¬ prc col m s = -1 then (2, prc col m s, (3 : Int32) <<< (prc col m s &&& 31))
  else ((if pcn s % 2 = 0 then 3 else 4), -1, 0)
/-- stuck places, as a mask and as two numbers in order (-1: none) -/
def Stk (m : Nat) (stk a b : Int32) : Prop := (stk = 0 ∧ a = -1 ∧ b = -1) ∨ (∃ i, i < m ∧ stk = oh i ∧ a = nI i ∧ b = -1) ∨ ∃ i j, i < j ∧ j < m ∧ stk = oh i ||| oh j ∧ a = nI i ∧ b = nI j
theorem ct_one {i : Nat} : ∀ n, fb_ct (fun j => decide (j = i)) n = if i < n then 1 else 0
  | 0 => rfl
  | n + 1 => by
    rw [fb_ct_succ, ct_one n]
    by_cases h : n = i
    · subst h; simp
    · by_cases h2 : i < n
      · have h3 : i < n + 1 := by omega
        simp [h, h2, h3]
      · have h3 : ¬ i < n + 1 := by omega
        simp [h, h2, h3]
theorem pcn_oh {i : Nat} (hi : i < 32) : pcn (oh i) = 1 := by
  rw [pcn, fb_ct_cong (q := fun j => decide (j = i)) (fun j _ => bt_oh hi j), ct_one, if_pos hi]
theorem pcn_0 : pcn 0 = 0 := by
  rw [pcn]; exact fb_ct_zero.mpr (fun j _ => b_0 j)
theorem pcn_oh2 {i j : Nat} (hi : i < j) (hj : j < 32) : pcn (oh i ||| oh j) = 2 := by
  have e : pcn (oh i ||| oh j) = fb_ct (fun q => bt (oh i) q || bt (oh j) q) 32 := fb_ct_cong (fun q _ => b_or _ _ q)
  rw [e, fb_ct_or]
  · show pcn (oh i) + pcn (oh j) = 2
    rw [pcn_oh (by omega), pcn_oh hj]
  · rintro q _ ⟨h1, h2⟩
    rw [bt_oh (by omega), decide_eq_true_iff] at h1
    rw [bt_oh hj, decide_eq_true_iff] at h2
    omega
theorem low_0 : fi (fun i => bt 0 i) 32 = -1 := fi_none (fun j _ => b_0 j)
theorem low_oh {i : Nat} (hi : i < 32) : fi (fun q => bt (oh i) q) 32 = nI i := fi_at hi (by rw [bt_oh hi]; simp) (fun j hj => by
  rw [bt_oh hi]; exact decide_eq_false (by omega))
theorem low_oh2 {i j : Nat} (hi : i < j) (hj : j < 32) : fi (fun q => bt (oh i ||| oh j) q) 32 = nI i := fi_at (by omega) (by rw [b_or, bt_oh (by omega)]; simp) (fun q hq => by
  have h1 : ¬ q = i := by omega
  have h2 : ¬ q = j := by omega
  rw [b_or, bt_oh (by omega), bt_oh hj]; simp [h1, h2])
theorem oh_clear {i : Nat} (hi : i < 32) : oh i &&& (oh i ^^^ (-1)) = 0 := b_ext fun q hq => by
  rw [b_and, b_xor, b_m1 q hq, b_0]; cases bt (oh i) q <;> rfl
theorem oh2_clear {i j : Nat} (hi : i < j) (hj : j < 32) : (oh i ||| oh j) &&& (oh i ^^^ (-1)) = oh j := b_ext fun q hq => by
  rw [b_and, b_or, b_xor, b_m1 q hq, bt_oh (by omega), bt_oh hj]
  by_cases h1 : q = i
  · have h2 : ¬ q = j := by omega
    simp [h1, show ¬ i = j by omega]
  · simp [h1]
theorem oh_ne {i : Nat} (hi : i < 32) : oh i ≠ 0 := fun h => by
  have := bt_oh hi i
  rw [h, b_0] at this
  simp at this
theorem oh2_ne {i j : Nat} (hj : j < 32) : oh i ||| oh j ≠ 0 := fun h => by
  have := b_or (oh i) (oh j) j
  rw [h, b_0, bt_oh hj] at this
  simp at this
theorem par_eq (q : Nat) (h : q < 2 ^ 31) : (nI q - nI q / (2 : Int32) * (2 : Int32)) = nI (q % 2) := pk_rem (d := 2) h (by decide) (by decide)
theorem nI_is0 {q : Nat} (h : q < 2 ^ 31) : nI q = 0 ↔ q = 0 := nI_eq (b := 0) h (by decide)
theorem X2_tail {F m : Nat} {col pl prT : Nat → Int32} {pr s : Int32} (hB : ColB m col) (ht : TabOK m col pl prT) (hpr : pr = 0 ∨ pr = 1) (one y0 y1 y2 : Int32) :
    p_X2_read_J79 F pr col pl prT s one y0 y1 y2 = some (if ¬ one = -1 then (1, one, ohI one) else if pr = 1 ∧ ¬ prc col m s = -1 then (2, prc col m s, (3 : Int32) <<< (prc col m s &&& 31)) else ((if pcn s % 2 = 0 then 3 else 4), -1, 0)) := by
  have hp := pcn_le s
  have hpar : (nI (pcn s) - nI (pcn s) / (2 : Int32) * (2 : Int32) = 0) ↔ pcn s % 2 = 0 := by rw [par_eq _ (by omega), nI_is0 (by omega)]
  have last : ∀ first, p_X2_read_J97 F pr col pl prT s one first y0 y1 y2 = some (if ¬ one = -1 then (1, one, ohI one) else if ¬ first = -1 then (2, first, (3 : Int32) <<< (first &&& 31)) else ((if pcn s % 2 = 0 then 3 else 4), -1, 0)) := by
    intro first
    unfold p_X2_read_J97 p_X2_read_J156 p_X2_settle
    rw [bitCount_eq]
    by_cases h1 : one = -1
    · by_cases h2 : first = -1
      · by_cases h3 : pcn s % 2 = 0
        · simp only [h1, h2, h3, Option.bind_some, hpar, ↓reduceIte, not_true_eq_false]
        · simp only [h1, h2, h3, Option.bind_some, hpar, ↓reduceIte, not_true_eq_false]
      · simp only [h1, h2, Option.bind_some, ↓reduceIte, not_true_eq_false, not_false_eq_true]
    · simp only [h1, Option.bind_some, ↓reduceIte, not_false_eq_true, ohI]
  unfold p_X2_read_J79
  rcases hpr with rfl | rfl
  · rw [if_pos rfl, last]
    simp
  · rw [if_neg (by decide), X1_pairWith hB ht]
    show p_X2_read_J97 F 1 col pl prT s one (prc col m s) y0 y1 y2 = _
    rw [last]
    simp
theorem X2_read {F m : Nat} {col pl prT : Nat → Int32} {pr s stk a b : Int32} (hF : 40 < F) (hm : m ≤ 32) (hB : ColB m col) (ht : TabOK m col pl prT) (hk : Stk m stk a b) (hpr : pr = 0 ∨ pr = 1) (y0 y1 y2 : Int32) :
    p_X2_read F y0 y1 y2 pr col pl prT s stk = some (rdS col m pr s a b) := by
  unfold p_X2_read p_X2_settle
  simp only [Option.bind_some]
  unfold rdS
  by_cases hs : s = 0
  · rw [if_pos hs, if_pos hs]
  rw [if_neg hs, if_neg hs, bitCount_eq]
  simp only [Option.bind_some]
  rcases hk with ⟨rfl, rfl, rfl⟩ | ⟨i, hi, rfl, rfl, rfl⟩ | ⟨i, j, hi, hj, rfl, rfl, rfl⟩
  · rw [pcn_0, if_neg (show ¬ nI 0 = 1 by decide)]
    have n1 : ¬ ((0 : Int32) ≤ -1) := by decide
    unfold p_X2_read_J29 p_X2_read_J46 p_X2_read_J64
    rw [if_pos rfl, if_pos rfl, if_pos rfl, X1_placeWith hB ht]
    show p_X2_read_J79 F pr col pl prT s (plc col m s) _ _ _ = _
    rw [X2_tail hB ht hpr]
    simp only [n1, false_and, ↓reduceIte]
  · have hi32 : i < 32 := by omega
    have hci : (nI i).toNatClampNeg = i := nI_clamp (by omega)
    have p1 : (0 : Int32) ≤ nI i := nI_ge0 (by omega)
    have n1 : ¬ ((0 : Int32) ≤ -1) := by decide
    have n2 : (-1 : Int32) < 0 := by decide
    have n3 : ¬ nI i = -1 := nI_ne_m1 (by omega)
    have g1 : ¬ ixBad (nI i) 32 := ixg hi32 (by decide)
    rw [pcn_oh hi32, if_pos (show nI 1 = 1 from rfl), low_eq hF, low_oh hi32]
    show p_X2_read_J29 F pr col pl prT s (oh i) (nI i) 0 (-1) 0 = _
    unfold p_X2_read_J29 p_X2_readByStuck p_X2_settle
    rw [if_neg (oh_ne hi32), low_eq hF, low_oh hi32]
    have c1 : oh i &&& (((1 : Int32) <<< (nI i &&& 31)) ^^^ (-1)) = 0 := oh_clear hi32
    simp only [Option.bind_some, n3, g1, hci, p1, n1, n2, true_and, false_and, and_false, ↓reduceIte, c1, low_eq hF, low_0]
    by_cases h1 : s = col i
    · simp [h1, ohI]
    · simp only [h1, ↓reduceIte]
      unfold p_X2_read_J46 p_X2_readBesideStuck p_X2_settle
      simp only [n3, g1, hci, ↓reduceIte, X1_placeWith hB ht, Option.bind_some]
      by_cases h2 : plc col m s = -1
      · simp only [h2, ↓reduceIte, not_true_eq_false]
        by_cases h3 : plc col m (s ^^^ col i) = -1
        · simp only [h3, ↓reduceIte, not_true_eq_false, Option.bind_some]
          unfold p_X2_read_J64
          rw [if_neg n3, X2_tail hB ht hpr]
          simp
        · simp [h3, ohI]
      · simp [h2, ohI]
  · have hi32 : i < 32 := by omega
    have hj32 : j < 32 := by omega
    have hci : (nI i).toNatClampNeg = i := nI_clamp (by omega)
    have hcj : (nI j).toNatClampNeg = j := nI_clamp (by omega)
    have p1 : (0 : Int32) ≤ nI i := nI_ge0 (by omega)
    have p2 : (0 : Int32) ≤ nI j := nI_ge0 (by omega)
    have n1 : ¬ nI j < 0 := nI_pos (by omega)
    have n3 : ¬ nI i = -1 := nI_ne_m1 (by omega)
    have n4 : ¬ nI j = -1 := nI_ne_m1 (by omega)
    have g1 : ¬ ixBad (nI i) 32 := ixg hi32 (by decide)
    have g2 : ¬ ixBad (nI j) 32 := ixg hj32 (by decide)
    rw [pcn_oh2 hi hj32, if_neg (show ¬ nI 2 = 1 by decide)]
    unfold p_X2_read_J29 p_X2_readByStuck p_X2_settle
    rw [if_neg (oh2_ne hj32), low_eq hF, low_oh2 hi hj32]
    have c1 : (oh i ||| oh j) &&& (((1 : Int32) <<< (nI i &&& 31)) ^^^ (-1)) = oh j := oh2_clear hi hj32
    simp only [Option.bind_some, n3, n4, g1, g2, hci, hcj, p1, p2, n1, true_and, false_and, and_false, ↓reduceIte, c1, low_eq hF, low_oh hj32]
    by_cases h1 : s = col i
    · simp [h1, ohI]
    · by_cases h2 : s = col j
      · rw [h2] at h1
        simp [h1, h2, ohI]
      · by_cases h3 : s = col i ^^^ col j
        · subst h3
          simp [h1, h2, ohI_nI]
        · simp only [h1, h2, h3, ↓reduceIte, Option.bind_some]
          unfold p_X2_read_J46 p_X2_read_J64
          rw [if_pos rfl, if_pos rfl, X1_placeWith hB ht]
          show p_X2_read_J79 F pr col pl prT s (plc col m s) _ _ _ = _
          rw [X2_tail hB ht hpr]
