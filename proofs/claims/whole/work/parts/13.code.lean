/-! a code's columns and its two tables -/
def plc (col : Nat → Int32) (m : Nat) (x : Int32) : Int32 := fi (fun p => decide (col p = x)) m
def prc (col : Nat → Int32) (m : Nat) (x : Int32) : Int32 := fi (fun p => decide (col p ^^^ col (p + 1) = x)) (m - 1)
def ColB (m : Nat) (col : Nat → Int32) : Prop := ∀ p, p < m → ∃ v, v < 256 ∧ col p = nI v
def TabOK (m : Nat) (col pl pr : Nat → Int32) : Prop := ∀ s, s < 256 → pl s = plc col m (nI s) ∧ pr s = prc col m (nI s)
theorem nI_xor (a b : Nat) : nI a ^^^ nI b = nI (a ^^^ b) := fb_xorI a b
theorem nI_255 {v : Nat} (h : v < 256) : nI v &&& 255 = nI v := by
  rw [show (255 : Int32) = nI 255 from rfl, fa_and, show (255 : Nat) = 2 ^ 8 - 1 from rfl, Nat.and_two_pow_sub_one_eq_mod, Nat.mod_eq_of_lt h]
theorem xor_256 {v w : Nat} (h1 : v < 256) (h2 : w < 256) : v ^^^ w < 256 := Nat.xor_lt_two_pow (n := 8) h1 h2
theorem fi_from {p : Nat → Bool} {i n : Nat} (hi : i < n) : fi (fun j => decide (i ≤ j) && p j) n = if p i = true then nI i else fi (fun j => decide (i + 1 ≤ j) && p j) n := by
  by_cases h : p i = true
  · rw [if_pos h]
    refine fi_at hi (by simp [h]) (fun j hj => ?_)
    have : ¬ i ≤ j := by omega
    simp [this]
  · rw [if_neg h]
    refine fi_cong (fun j _ => ?_)
    by_cases e : j = i
    · subst e
      have : ¬ j + 1 ≤ j := by omega
      simp [h, this]
    · by_cases h2 : i ≤ j
      · have : i + 1 ≤ j := by omega
        simp [h2, this]
      · have : ¬ i + 1 ≤ j := by omega
        simp [h2, this]
theorem fi_from_n {p : Nat → Bool} {i n : Nat} (hi : n ≤ i) : fi (fun j => decide (i ≤ j) && p j) n = -1 := fi_none (fun j hj => by
  have : ¬ i ≤ j := by omega
  simp [this])
theorem fi_from_0 {p : Nat → Bool} {n : Nat} : fi (fun j => decide (0 ≤ j) && p j) n = fi p n := fi_cong (fun j _ => by simp)
/-- the tables when the places from i on are in them -/
def TabI (i m : Nat) (col pl pr : Nat → Int32) : Prop := ∀ s, s < 256 → pl s = fi (fun p => decide (i ≤ p) && decide (col p = nI s)) m ∧ pr s = fi (fun p => decide (i - 1 ≤ p) && decide (col p ^^^ col (p + 1) = nI s)) (m - 1)
theorem upd_at (f : Nat → Int32) (k : Nat) (x : Int32) (j : Nat) : upd f k x j = if j = k then x else f j := rfl
theorem look_loop {F n k m : Nat} {col : Nat → Int32} (hm : m ≤ 32) (hB : ColB m col) : ∀ (i fuel : Nat) (a2 a3 : Nat → Int32), i ≤ m → i < fuel → TabI i m col a2 a3 → ∃ pl pr, p_X1_lookUpAnew_L23 F (nI n) (nI k) col fuel (nI i - 1) a2 a3 = some (pl, pr) ∧ TabOK m col pl pr
  | _, 0, _, _, _, hf, _ => absurd hf (by omega)
  | 0, fuel + 1, a2, a3, _, _, hT => by
    refine ⟨a2, a3, ?_, fun s hs => ?_⟩
    · show p_X1_lookUpAnew_L23b F (nI n) (nI k) col _ (nI 0 - 1) a2 a3 = _
      unfold p_X1_lookUpAnew_L23b
      rw [if_pos (by decide)]
    · obtain ⟨h1, h2⟩ := hT s hs
      exact ⟨h1.trans fi_from_0, h2.trans fi_from_0⟩
  | i + 1, fuel + 1, a2, a3, hi, hf, hT => by
    obtain ⟨v, hv, ev⟩ := hB i (by omega)
    have hc : (nI v).toNatClampNeg = v := nI_clamp (by omega)
    have hci : (nI i).toNatClampNeg = i := nI_clamp (by omega)
    have hup : ∀ s, s < 256 → (upd a2 v (nI i)) s = fi (fun p => decide (i ≤ p) && decide (col p = nI s)) m := by
      intro s hs
      rw [fi_from (p := fun p => decide (col p = nI s)) (by omega), upd_at, (hT s hs).1]
      by_cases e : s = v
      · subst e; rw [if_pos rfl, if_pos (by simp [ev])]
      · rw [if_neg e, if_neg]
        rw [ev, decide_eq_true_iff, nI_eq (by omega) (by omega)]
        exact fun h => e h.symm
    by_cases h0 : i = 0
    · subst h0
      have hT' : TabI 0 m col (upd a2 v (nI 0)) a3 := fun s hs => ⟨hup s hs, (hT s hs).2⟩
      obtain ⟨pl, pr, he, ht⟩ := look_loop (F := F) (n := n) (k := k) hm hB 0 fuel (upd a2 v (nI 0)) a3 (by omega) (by omega) hT'
      refine ⟨pl, pr, ?_, ht⟩
      show p_X1_lookUpAnew_L23b F (nI n) (nI k) col _ (nI (0 + 1) - 1) a2 a3 = _
      rw [nI_pred]
      unfold p_X1_lookUpAnew_L23b p_X1_lookUpAnew_J74
      have g0 : ¬ nI 0 < 0 := nI_pos (by omega)
      have g1 : ¬ ixBad (nI 0) 32 := ixg (by omega) (by decide)
      have g2 : ¬ ixBad (nI v) 256 := ixg hv (by decide)
      have g3 : nI 0 ≤ 0 := by decide
      simp only [g0, g1, hci, ev, nI_255 hv, g2, g3, hc, ↓reduceIte]
      exact he
    · obtain ⟨w, hw, ew⟩ := hB (i - 1) (by omega)
      have hx := xor_256 hw hv
      have hpr : ∀ s, s < 256 → (upd a3 (w ^^^ v) (nI (i - 1))) s = fi (fun p => decide (i - 1 ≤ p) && decide (col p ^^^ col (p + 1) = nI s)) (m - 1) := by
        intro s hs
        have e1 : i - 1 + 1 = i := by omega
        rw [fi_from (p := fun p => decide (col p ^^^ col (p + 1) = nI s)) (by omega), upd_at, (hT s hs).2, e1, show i + 1 - 1 = i by omega]
        by_cases e : s = w ^^^ v
        · rw [if_pos e, if_pos (by rw [decide_eq_true_iff, ew, ev, nI_xor, e])]
        · rw [if_neg e, if_neg]
          rw [ev, ew, nI_xor, decide_eq_true_iff, nI_eq (by omega) (by omega)]
          exact fun h => e h.symm
      have hT' : TabI i m col (upd a2 v (nI i)) (upd a3 (w ^^^ v) (nI (i - 1))) := fun s hs => ⟨hup s hs, hpr s hs⟩
      obtain ⟨pl, pr, he, ht⟩ := look_loop (F := F) (n := n) (k := k) hm hB i fuel _ _ (by omega) (by omega) hT'
      refine ⟨pl, pr, ?_, ht⟩
      show p_X1_lookUpAnew_L23b F (nI n) (nI k) col _ (nI (i + 1) - 1) a2 a3 = _
      have e3 : nI i - 1 = nI (i - 1) := by
        have := nI_pred (i - 1)
        rw [show i - 1 + 1 = i by omega] at this
        exact this
      rw [nI_pred]
      unfold p_X1_lookUpAnew_L23b p_X1_lookUpAnew_J74
      have g0 : ¬ nI i < 0 := nI_pos (by omega)
      have g1 : ¬ ixBad (nI i) 32 := ixg (by omega) (by decide)
      have g2 : ¬ ixBad (nI v) 256 := ixg hv (by decide)
      have g3 : ¬ nI i ≤ 0 := nI_nle (by omega) (by omega)
      have g4 : ¬ ixBad (nI (i - 1)) 32 := ixg (by omega) (by decide)
      have g5 : ¬ ixBad (nI (w ^^^ v)) 256 := ixg hx (by decide)
      have g6 : (nI (i - 1)).toNatClampNeg = i - 1 := nI_clamp (by omega)
      have g7 : (nI (w ^^^ v)).toNatClampNeg = w ^^^ v := nI_clamp (by omega)
      have g8 : nI i + (-1) = nI (i - 1) := by
        have := pk_m1 (i - 1)
        rw [show i - 1 + 1 = i by omega] at this
        exact this
      rw [e3] at he
      simp only [g0, g1, hci, ev, nI_255 hv, g2, g3, hc, e3, g4, g6, ew, nI_xor, nI_255 hx, g5, g7, g8, ↓reduceIte]
      exact he
theorem X1_look {F n k : Nat} {col a2 a3 : Nat → Int32} (hF : 300 < F) (hm : n + k ≤ 32) (hB : ColB (n + k) col) : ∃ pl pr, p_X1_lookUpAnew F (nI n) (nI k) col a2 a3 = some (pl, pr) ∧ TabOK (n + k) col pl pr := by
  obtain ⟨pl, pr, he, ht⟩ := look_loop (F := F) (n := n) (k := k) hm hB (n + k) F (fun j => if j < 256 then -1 else a2 j) (fun j => if j < 256 then -1 else a3 j) (by omega) (by omega) (fun s hs => by
    constructor
    · rw [fi_from_n (by omega)]; exact if_pos hs
    · rw [fi_from_n (by omega)]; exact if_pos hs)
  refine ⟨pl, pr, ?_, ht⟩
  unfold p_X1_lookUpAnew
  rw [fill_eq F 256 a2 (-1) (by decide) (by omega), fill_eq F 256 a3 (-1) (by decide) (by omega)]
  show p_X1_lookUpAnew_L23 F (nI n) (nI k) col F (nI n + nI k - 1) _ _ = _
  rw [nI_add]
  exact he
theorem i32_small {x : Int32} (h1 : ¬ x < 0) (h2 : ¬ (256 : Int32) ≤ x) : ∃ s, s < 256 ∧ x = nI s := by
  obtain ⟨j, hj, rfl⟩ := nI_of h1
  refine ⟨j, ?_, rfl⟩
  rw [show (256 : Int32) = nI 256 from rfl, nI_leI (by decide) hj] at h2
  omega
theorem X1_placeWith {F m : Nat} {col pl pr : Nat → Int32} (hB : ColB m col) (ht : TabOK m col pl pr) (x : Int32) : p_X1_placeWith F pl x = some (plc col m x) := by
  have hno : (∀ s, s < 256 → x ≠ nI s) → plc col m x = -1 := fun h => fi_none (fun j hj => by
    obtain ⟨v, hv, ev⟩ := hB j hj
    rw [ev]
    exact decide_eq_false (fun e => h v hv e.symm))
  unfold p_X1_placeWith
  by_cases h1 : x < 0
  · rw [if_pos h1, hno (fun s hs e => by rw [e] at h1; exact nI_pos (by omega) h1)]
  · rw [if_neg h1]
    by_cases h2 : (256 : Int32) ≤ x
    · rw [if_pos h2, hno (fun s hs e => by rw [e, show (256 : Int32) = nI 256 from rfl, nI_leI (by decide) (by omega)] at h2; omega)]
    · obtain ⟨s, hs, rfl⟩ := i32_small h1 h2
      rw [if_neg h2, if_neg (ixg hs (by decide)), nI_clamp (by omega), (ht s hs).1]
theorem X1_pairWith {F m : Nat} {col pl pr : Nat → Int32} (hB : ColB m col) (ht : TabOK m col pl pr) (x : Int32) : p_X1_pairWith F pr x = some (prc col m x) := by
  have hno : (∀ s, s < 256 → x ≠ nI s) → prc col m x = -1 := fun h => fi_none (fun j hj => by
    obtain ⟨v, hv, ev⟩ := hB j (by omega)
    obtain ⟨w, hw, ew⟩ := hB (j + 1) (by omega)
    rw [ev, ew, nI_xor]
    exact decide_eq_false (fun e => h _ (xor_256 hv hw) e.symm))
  unfold p_X1_pairWith
  by_cases h1 : x < 0
  · rw [if_pos h1, hno (fun s hs e => by rw [e] at h1; exact nI_pos (by omega) h1)]
  · rw [if_neg h1]
    by_cases h2 : (256 : Int32) ≤ x
    · rw [if_pos h2, hno (fun s hs e => by rw [e, show (256 : Int32) = nI 256 from rfl, nI_leI (by decide) (by omega)] at h2; omega)]
    · obtain ⟨s, hs, rfl⟩ := i32_small h1 h2
      rw [if_neg h2, if_neg (ixg hs (by decide)), nI_clamp (by omega), (ht s hs).2]
theorem low_eq {F : Nat} (hF : 40 < F) (x : Int32) : p_X10_lowestPlace F x = some (fi (fun i => bt x i) 32) := by
  refine search_loop (fun fuel i => p_X10_lowestPlace_L2 F x fuel i) (fun i => bt x i) 32 (fun fuel i hi => ?_) (fun fuel => ?_) 32 0 F (by decide) (by omega) (fun j hj => absurd hj (by omega))
  · show p_X10_lowestPlace_L2b F x _ (nI i) = _
    unfold p_X10_lowestPlace_L2b
    rw [if_neg (show ¬ (32 : Int32) ≤ nI i from nI_ge (b := 32) hi (by decide)), bit1u x hi, nI_1]
    by_cases h : bt x i = true
    · rw [if_pos h, if_pos rfl, if_pos h]
    · rw [if_neg h, if_neg (by decide), if_neg h]
  · show p_X10_lowestPlace_L2b F x _ (nI 32) = _
    unfold p_X10_lowestPlace_L2b
    rw [if_pos (by decide)]
/-! the model's -/
theorem M_data {F b n : Nat} {dat : Nat → Int32} (hb : b < 2) (hd : dat b = nI n) : p_X11_dataNow F (nI b) dat = some (nI n) := by
  unfold p_X11_dataNow
  rw [if_neg (ixg hb (by decide)), nI_clamp (by omega), hd]
theorem M_chk {F b n : Nat} {dat : Nat → Int32} (hb : b < 2) (hd : dat b = nI n) : p_X11_checksNow F (nI b) dat = some (nI n) := by
  unfold p_X11_checksNow
  rw [if_neg (ixg hb (by decide)), nI_clamp (by omega), hd]
theorem M_places {F b n k : Nat} {dat chk : Nat → Int32} (hb : b < 2) (hd : dat b = nI n) (hk : chk b = nI k) : p_X11_places F (nI b) dat chk = some (nI (n + k)) := by
  unfold p_X11_places
  rw [M_data hb hd, M_chk hb hk]
  show some (nI n + nI k) = _
  rw [nI_add]
theorem nI_z (i : Nat) : (0 : Int32) + nI i = nI i := by rw [show (0 : Int32) = nI 0 from rfl, nI_add, Nat.zero_add]
theorem M_col {F i : Nat} {all : Nat → Int32} (hi : i < 121) : p_X11_columnAt F all (nI i) = some (all i) := by
  unfold p_X11_columnAt
  rw [nI_z, if_neg (ixg hi (by decide)), nI_clamp (by omega)]
theorem M_placeOf {F b n k : Nat} {all dat chk : Nat → Int32} (hF : 40 < F) (hb : b < 2) (hd : dat b = nI n) (hk : chk b = nI k) (hm : n + k ≤ 32) (x : Int32) : p_X11_placeOf F (nI b) all dat chk x = some (plc all (n + k) x) := by
  refine search_loop (fun fuel i => p_X11_placeOf_L2 F (nI b) all dat chk x fuel i) (fun p => decide (all p = x)) (n + k) (fun fuel i hi => ?_) (fun fuel => ?_) (n + k) 0 F (by omega) (by omega) (fun j hj => absurd hj (by omega))
  · show p_X11_placeOf_L2b F (nI b) all dat chk x _ (nI i) = _
    unfold p_X11_placeOf_L2b
    rw [M_places hb hd hk, M_col (by omega), nI_1]
    show (if nI (n + k) ≤ nI i then _ else _) = _
    rw [if_neg (nI_ge hi (by omega))]
    show (if all i = x then _ else _) = _
    by_cases h : all i = x
    · rw [if_pos h, if_pos (decide_eq_true h)]
    · rw [if_neg h, if_neg (by rw [decide_eq_true_iff]; exact h)]
  · show p_X11_placeOf_L2b F (nI b) all dat chk x _ (nI (n + k)) = _
    unfold p_X11_placeOf_L2b
    rw [M_places hb hd hk]
    show (if nI (n + k) ≤ nI (n + k) then _ else _) = _
    rw [if_pos (nI_le (Nat.le_refl _) (by omega))]
theorem M_pairOf {F b n k : Nat} {all dat chk : Nat → Int32} (hF : 40 < F) (hb : b < 2) (hd : dat b = nI n) (hk : chk b = nI k) (hm : n + k ≤ 32) (h0 : 0 < n + k) (x : Int32) : p_X11_pairOf F (nI b) all dat chk x = some (prc all (n + k) x) := by
  refine search_loop (fun fuel i => p_X11_pairOf_L2 F (nI b) all dat chk x fuel i) (fun p => decide (all p ^^^ all (p + 1) = x)) (n + k - 1) (fun fuel i hi => ?_) (fun fuel => ?_) (n + k - 1) 0 F (by omega) (by omega) (fun j hj => absurd hj (by omega))
  · show p_X11_pairOf_L2b F (nI b) all dat chk x _ (nI i) = _
    unfold p_X11_pairOf_L2b
    rw [M_places hb hd hk, nI_1, M_col (by omega), M_col (by omega)]
    show (if nI (n + k) ≤ nI (i + 1) then _ else _) = _
    rw [if_neg (nI_ge (by omega) (by omega))]
    show (if all i ^^^ all (i + 1) = x then _ else _) = _
    by_cases h : all i ^^^ all (i + 1) = x
    · rw [if_pos h, if_pos (decide_eq_true h)]
    · rw [if_neg h, if_neg (by rw [decide_eq_true_iff]; exact h)]
  · show p_X11_pairOf_L2b F (nI b) all dat chk x _ (nI (n + k - 1)) = _
    unfold p_X11_pairOf_L2b
    rw [M_places hb hd hk, nI_1, show n + k - 1 + 1 = n + k by omega]
    show (if nI (n + k) ≤ nI (n + k) then _ else _) = _
    rw [if_pos (nI_le (Nat.le_refl _) (by omega))]
