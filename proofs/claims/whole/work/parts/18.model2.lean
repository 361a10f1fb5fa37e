/-! the model's reading -/
/-- the model's array holds these columns -/
def MC (b n k : Nat) (all dat chk col : Nat → Int32) (pr : Int32) : Prop :=
  b < 2 ∧ dat b = nI n ∧ chk b = nI k ∧ 4 ≤ n ∧ n ≤ 24 ∧ 4 ≤ k ∧ k ≤ 8 ∧ (∀ p, p < n + k → all p = col p) ∧ all 32 = pr ∧ (∀ c, c < k → col (n + c) = oh c)
theorem MC.place {F b n k : Nat} {all dat chk col : Nat → Int32} {pr : Int32} (hF : 40 < F) (h : MC b n k all dat chk col pr) (x : Int32) : p_X11_placeOf F (nI b) all dat chk x = some (plc col (n + k) x) := by
  obtain ⟨hb, hd, hk, n1, n2, k1, k2, hc, hp, ho⟩ := h
  rw [M_placeOf hF hb hd hk (by omega)]
  refine congrArg some (fi_cong (fun i hi => ?_))
  rw [hc i hi]
theorem MC.pair {F b n k : Nat} {all dat chk col : Nat → Int32} {pr : Int32} (hF : 40 < F) (h : MC b n k all dat chk col pr) (x : Int32) : p_X11_pairOf F (nI b) all dat chk x = some (prc col (n + k) x) := by
  obtain ⟨hb, hd, hk, n1, n2, k1, k2, hc, hp, ho⟩ := h
  rw [M_pairOf hF hb hd hk (by omega) (by omega)]
  refine congrArg some (fi_cong (fun i hi => ?_))
  rw [hc i (by omega), hc (i + 1) (by omega)]
theorem MC.checks {F b n k : Nat} {all dat chk col : Nat → Int32} {pr : Int32} (hF : 40 < F) (h : MC b n k all dat chk col pr) (x : Int32) : p_X11_checksOf F (nI b) all dat x = some (sy col x n) := by
  obtain ⟨hb, hd, hk, n1, n2, k1, k2, hc, hp, ho⟩ := h
  rw [X11_checks hF hb hd (by omega)]
  exact congrArg some (sy_cong (fun p hp => hc p (by omega)) (fun _ _ => rfl))
theorem MC.synd {F b n k : Nat} {all dat chk col : Nat → Int32} {pr : Int32} (hF : 40 < F) (h : MC b n k all dat chk col pr) {x : Int32} (hx : Fit (n + k) x) : p_X11_syndromeOf F (nI b) all dat (DD n x) (CC n x) = some (sy col x (n + k)) := by
  unfold p_X11_syndromeOf
  rw [h.checks hF]
  obtain ⟨hb, hd, hk, n1, n2, k1, k2, hc, hp, ho⟩ := h
  rw [sy_CC (by omega) (by omega) k2 ho hx]
  rfl
theorem MC.col {F b n k : Nat} {all dat chk col : Nat → Int32} {pr : Int32} (h : MC b n k all dat chk col pr) {i : Nat} (hi : i < n + k) : p_X11_columnAt F all (nI i) = some (col i) := by
  obtain ⟨hb, hd, hk, n1, n2, k1, k2, hc, hp, ho⟩ := h
  rw [M_col (by omega), hc i hi]
theorem MC.told {F b n k : Nat} {all dat chk col : Nat → Int32} {pr : Int32} (h : MC b n k all dat chk col pr) (x z0 z1 kd pl one oth : Int32) (h1 : PlO one) (h2 : PlO oth) :
    p_X11_told F (nI b) z0 z1 (DD n x) (CC n x) dat kd pl one oth = some (kd, pl, DD n (x ^^^ (ohO one ^^^ ohO oth)), CC n (x ^^^ (ohO one ^^^ ohO oth))) := by
  obtain ⟨hb, hd, hk, n1, n2, k1, k2, hc, hp, ho⟩ := h
  exact M_told hb hd (by omega) (by omega) x z0 z1 kd pl one oth h1 h2
theorem oh_or {i j : Nat} (h : i ≠ j) (hi : i < 32) (hj : j < 32) : oh i ||| oh j = oh i ^^^ oh j := b_ext fun q _ => by
  rw [b_or, b_xor, bt_oh hi, bt_oh hj]
  by_cases h1 : q = i
  · have h2 : ¬ q = j := fun e => h (h1.symm.trans e)
    simp [h1, h]
  · simp [h1]
theorem oh3 : ∀ f, f < 31 → (3 : Int32) <<< (nI f &&& 31) = oh f ^^^ oh (f + 1) := by decide +kernel
theorem plc_cases (col : Nat → Int32) (m : Nat) (s : Int32) : (∃ i, i < m ∧ col i = s ∧ plc col m s = nI i) ∨ plc col m s = -1 := by
  rcases fi_cases (fun p => decide (col p = s)) m with ⟨i, h1, h2, _, h4⟩ | ⟨_, h2⟩
  · exact Or.inl ⟨i, h1, of_decide_eq_true h2, h4⟩
  · exact Or.inr h2
theorem prc_cases (col : Nat → Int32) (m : Nat) (s : Int32) : (∃ i, i + 1 < m ∧ col i ^^^ col (i + 1) = s ∧ prc col m s = nI i) ∨ prc col m s = -1 := by
  rcases fi_cases (fun p => decide (col p ^^^ col (p + 1) = s)) (m - 1) with ⟨i, h1, h2, _, h4⟩ | ⟨_, h2⟩
  · exact Or.inl ⟨i, by omega, of_decide_eq_true h2, h4⟩
  · exact Or.inr h2
def rrM (n : Nat) (x : Int32) (r : Int32 × Int32 × Int32) : Int32 × Int32 × Int32 × Int32 := (r.1, r.2.1, DD n (x ^^^ r.2.2), CC n (x ^^^ r.2.2))
theorem nn1 : ¬ ¬ ((-1 : Int32) = -1) := fun q => q rfl
theorem PlO_m1 : PlO (-1) := Or.inl rfl
theorem PlO_nI {i : Nat} (hi : i < 32) : PlO (nI i) := Or.inr ⟨i, hi, rfl⟩
/-- behind the stuck places: wth is what is found with the stuck place turned too, its place a -/
theorem MC.further64 {F b n k : Nat} {all dat chk col : Nat → Int32} {pr : Int32} (hF : 40 < F) (h : MC b n k all dat chk col pr) {x s a wth : Int32} (hs : s ≠ 0) (ha : wth = -1 ∨ ∃ i j, i < n + k ∧ j < n + k ∧ i ≠ j ∧ a = nI i ∧ wth = nI j) (z0 z1 : Int32) :
    p_X11_readFurther_J42 F (nI b) all dat chk s a (plc col (n + k) s) wth z0 z1 (DD n x) (CC n x) = some (rrM n x (if ¬ plc col (n + k) s = -1 then (1, plc col (n + k) s, ohI (plc col (n + k) s)) else if ¬ wth = -1 then (5, wth, ohI wth ||| ohI a) else if pr = 1 ∧ ¬ prc col (n + k) s = -1 then (2, prc col (n + k) s, (3 : Int32) <<< (prc col (n + k) s &&& 31)) else ((if pcn s % 2 = 0 then 3 else 4), -1, 0))) := by
  have hn32 : n + k ≤ 32 := by obtain ⟨hb, hd, hk, n1, n2, k1, k2, _⟩ := h; omega
  have hp32 : all 32 = pr := h.2.2.2.2.2.2.2.2.1
  have hpc := pcn_le s
  have m1 : (-1 : Int32) < 0 := by decide
  have hpar : (nI (pcn s) - nI (pcn s) / (2 : Int32) * (2 : Int32) = 0) ↔ pcn s % 2 = 0 := by rw [par_eq _ (by omega), nI_is0 (by omega)]
  have last : ∀ pq, (pq = -1 ∨ ∃ f, f + 1 < n + k ∧ pq = nI f) → p_X11_readFurther_J64 F (nI b) all dat chk s a (plc col (n + k) s) wth pq z0 z1 (DD n x) (CC n x) = some (rrM n x (if ¬ plc col (n + k) s = -1 then (1, plc col (n + k) s, ohI (plc col (n + k) s)) else if ¬ wth = -1 then (5, wth, ohI wth ||| ohI a) else if ¬ pq = -1 then (2, pq, (3 : Int32) <<< (pq &&& 31)) else ((if pcn s % 2 = 0 then 3 else 4), -1, 0))) := by
    intro pq hpq
    unfold p_X11_readFurther_J64
    rcases plc_cases col (n + k) s with ⟨i, hi, hci, e⟩ | e
    · rw [e, if_neg (nI_pos (by omega)), h.told x z0 z1 1 (nI i) (nI i) (-1) (PlO_nI (by omega)) PlO_m1, if_pos (nI_ne_m1 (by omega)), ohO_m1, xo_zero, ohO_nI (by omega)]
      rfl
    · rw [e, if_pos m1, if_neg nn1]
      rcases ha with ha | ⟨i, j, hi, hj, hij, ha, hw⟩
      · rw [ha, if_pos m1, if_neg nn1]
        rcases hpq with hq | ⟨f, hf, hq⟩
        · rw [hq, if_pos m1, if_neg nn1, M_ones hF]
          simp only [Option.bind_some]
          unfold p_X11_readFurther_J138
          rw [h.told x z0 z1 _ _ _ _ PlO_m1 PlO_m1, h.told x z0 z1 _ _ _ _ PlO_m1 PlO_m1, ohO_m1, xo_zero, xo_zero]
          simp only [Option.bind_some, hpar, rrM, xo_zero]
          by_cases h3 : pcn s % 2 = 0
          · rw [if_pos h3, if_pos h3]
          · rw [if_neg h3, if_neg h3]
        · rw [hq, if_neg (nI_pos (by omega)), nI_1, h.told x z0 z1 _ _ _ _ (PlO_nI (by omega)) (PlO_nI (by omega)), if_pos (nI_ne_m1 (by omega)), oh3 f (by omega), ohO_nI (by omega), ohO_nI (by omega)]
          rfl
      · rw [ha, hw, if_neg (nI_pos (by omega)), h.told x z0 z1 _ _ _ _ (PlO_nI (by omega)) (PlO_nI (by omega)), if_pos (nI_ne_m1 (by omega)), ohO_nI (by omega), ohO_nI (by omega), ohI_nI, ohI_nI, oh_or hij.symm (by omega) (by omega), xo_comm (oh j)]
        rfl
  unfold p_X11_readFurther_J42
  rw [show (32 : Int32).toNatClampNeg = 32 from rfl, hp32]
  by_cases hpr : pr = 1
  · rw [if_pos hpr, h.pair hF]
    simp only [Option.bind_some]
    rw [last _ (by
      rcases prc_cases col (n + k) s with ⟨i, h1, _, h3⟩ | h3
      · exact Or.inr ⟨i, h1, h3⟩
      · exact Or.inl h3)]
    simp [hpr]
  · rw [if_neg hpr, last _ (Or.inl rfl)]
    simp [hpr]
theorem MC.further {F b n k : Nat} {all dat chk col : Nat → Int32} {pr : Int32} (hF : 40 < F) (h : MC b n k all dat chk col pr) {x s a bb : Int32} (hs : s ≠ 0) (hk : (a = -1 ∧ bb = -1) ∨ (∃ i, i < n + k ∧ a = nI i ∧ bb = -1) ∨ ∃ i j, i < j ∧ j < n + k ∧ a = nI i ∧ bb = nI j) (z0 z1 : Int32) :
    p_X11_readFurther F (nI b) z0 z1 (DD n x) (CC n x) all dat chk s a bb = some (rrM n x (if ¬ plc col (n + k) s = -1 then (1, plc col (n + k) s, ohI (plc col (n + k) s)) else if 0 ≤ a ∧ bb < 0 ∧ ¬ plc col (n + k) (s ^^^ col a.toNatClampNeg) = -1 then (5, plc col (n + k) (s ^^^ col a.toNatClampNeg), ohI (plc col (n + k) (s ^^^ col a.toNatClampNeg)) ||| ohI a) else if pr = 1 ∧ ¬ prc col (n + k) s = -1 then (2, prc col (n + k) s, (3 : Int32) <<< (prc col (n + k) s &&& 31)) else ((if pcn s % 2 = 0 then 3 else 4), -1, 0))) := by
  have hn32 : n + k ≤ 32 := by obtain ⟨hb, hd, hk, n1, n2, k1, k2, _⟩ := h; omega
  have m1 : (-1 : Int32) < 0 := by decide
  have m2 : ¬ ((0 : Int32) ≤ -1) := by decide
  unfold p_X11_readFurther
  rw [h.place hF]
  simp only [Option.bind_some]
  rcases hk with ⟨rfl, rfl⟩ | ⟨i, hi, rfl, rfl⟩ | ⟨i, j, hij, hj, rfl, rfl⟩
  · rw [if_pos m1]
    unfold p_X11_readFurther_J19 p_X11_readFurther_J20
    rw [if_pos rfl, h.further64 hF hs (Or.inl rfl)]
    simp [m2]
  · rw [if_neg (nI_pos (by omega)), if_neg m2]
    unfold p_X11_readFurther_J20
    rw [if_neg (by decide), h.col hi]
    simp only [Option.bind_some]
    rw [h.place hF]
    simp only [Option.bind_some]
    have hci : (nI i).toNatClampNeg = i := nI_clamp (by omega)
    rw [h.further64 hF hs (by
      rcases plc_cases col (n + k) (s ^^^ col i) with ⟨j, h1, h2, h3⟩ | h3
      · refine Or.inr ⟨i, j, hi, h1, ?_, rfl, h3⟩
        rintro rfl
        apply hs
        have := congrArg (fun q => q ^^^ col i) h2
        simp only [xo_self, xo_assoc, xo_zero] at this
        exact this.symm
      · exact Or.inl h3)]
    have p0 : (0 : Int32) ≤ nI i := nI_ge0 (by omega)
    simp only [hci, p0, m1, true_and]
  · rw [if_neg (nI_pos (by omega)), if_pos (nI_ge0 (by omega))]
    unfold p_X11_readFurther_J19 p_X11_readFurther_J20
    rw [if_pos rfl, h.further64 hF hs (Or.inl rfl)]
    have n1 : ¬ nI j < 0 := nI_pos (by omega)
    simp [n1]
theorem MC.read {F b n k : Nat} {all dat chk col : Nat → Int32} {pr : Int32} (hF : 40 < F) (h : MC b n k all dat chk col pr) {x a bb stk : Int32} (hx : Fit (n + k) x) (hk : Stk (n + k) stk a bb) (z0 z1 z2 z3 : Int32) :
    p_X11_read F (nI b) z0 z1 z2 z3 all dat chk (DD n x) (CC n x) a bb = some (rrM n x (rdS col (n + k) pr (sy col x (n + k)) a bb)) := by
  have hn32 : n + k ≤ 32 := by obtain ⟨hb, hd, hk, n1, n2, k1, k2, _⟩ := h; omega
  have m1 : (-1 : Int32) < 0 := by decide
  have m2 : ¬ ((0 : Int32) ≤ -1) := by decide
  unfold p_X11_read
  rw [h.synd hF hx]
  simp only [Option.bind_some]
  generalize sy col x (n + k) = s
  unfold rdS
  by_cases hs : s = 0
  · rw [if_pos hs, if_pos hs, h.told x z0 z1 _ _ _ _ PlO_m1 PlO_m1, ohO_m1, xo_zero]
    rfl
  rw [if_neg hs, if_neg hs]
  rcases hk with ⟨_, rfl, rfl⟩ | ⟨i, hi, _, rfl, rfl⟩ | ⟨i, j, hij, hj, _, rfl, rfl⟩
  · rw [if_pos m1]
    unfold p_X11_read_J59 p_X11_read_J87 p_X11_read_J125
    rw [if_pos m1, if_pos m1, h.further hF hs (Or.inl ⟨rfl, rfl⟩)]
    simp only [m2, false_and, ↓reduceIte, Option.bind_some]
  · have hci : (nI i).toNatClampNeg = i := nI_clamp (by omega)
    have p0 : (0 : Int32) ≤ nI i := nI_ge0 (by omega)
    have n0 : ¬ nI i < 0 := nI_pos (by omega)
    rw [if_neg n0, h.col hi]
    simp only [Option.bind_some, hci, p0, true_and]
    by_cases h1 : s = col i
    · rw [if_pos h1, if_pos h1, h.told x z0 z1 _ _ _ _ (PlO_nI (by omega)) PlO_m1, ohO_m1, xo_zero, ohO_nI (by omega)]
      rfl
    · rw [if_neg h1, if_neg h1]
      unfold p_X11_read_J59 p_X11_read_J87 p_X11_read_J125
      rw [if_pos m1, if_neg n0, if_pos m1, h.further hF hs (Or.inr (Or.inl ⟨i, hi, rfl, rfl⟩))]
      simp only [m2, false_and, ↓reduceIte, Option.bind_some, hci, p0, true_and]
  · have hci : (nI i).toNatClampNeg = i := nI_clamp (by omega)
    have hcj : (nI j).toNatClampNeg = j := nI_clamp (by omega)
    have p0 : (0 : Int32) ≤ nI i := nI_ge0 (by omega)
    have p1 : (0 : Int32) ≤ nI j := nI_ge0 (by omega)
    have n0 : ¬ nI i < 0 := nI_pos (by omega)
    have n1 : ¬ nI j < 0 := nI_pos (by omega)
    rw [if_neg n0, h.col (by omega)]
    simp only [Option.bind_some, hci, hcj, p0, p1, true_and]
    by_cases h1 : s = col i
    · rw [if_pos h1, if_pos h1, h.told x z0 z1 _ _ _ _ (PlO_nI (by omega)) PlO_m1, ohO_m1, xo_zero, ohO_nI (by omega)]
      rfl
    · rw [if_neg h1, if_neg h1]
      unfold p_X11_read_J59
      rw [if_neg n1, h.col hj]
      simp only [Option.bind_some]
      by_cases h2 : s = col j
      · rw [if_pos h2, if_pos h2, h.told x z0 z1 _ _ _ _ (PlO_nI (by omega)) PlO_m1, ohO_m1, xo_zero, ohO_nI (by omega)]
        rfl
      · rw [if_neg h2, if_neg h2]
        unfold p_X11_read_J87
        rw [if_neg n0, if_neg n1, h.col (by omega), h.col hj]
        simp only [Option.bind_some]
        by_cases h3 : s = col i ^^^ col j
        · rw [if_pos h3, if_pos h3, h.told x z0 z1 _ _ _ _ (PlO_nI (by omega)) (PlO_nI (by omega)), ohO_nI (by omega), ohO_nI (by omega), ohI_nI, ohI_nI, oh_or (by omega) (by omega) (by omega)]
          rfl
        · rw [if_neg h3, if_neg h3]
          unfold p_X11_read_J125
          rw [h.further hF hs (Or.inr (Or.inr ⟨i, j, hij, hj, rfl, rfl⟩))]
          simp only [n1, false_and, and_false, ↓reduceIte, Option.bind_some]
