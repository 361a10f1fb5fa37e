/-! single bits, masks, syndromes -/
theorem b_1 (j : Nat) : bt 1 j = decide (j = 0) := by
  by_cases h : j < 32
  · exact (by decide : ∀ j, j < 32 → bt 1 j = decide (j = 0)) j h
  · rw [b_big (by omega)]; symm; exact decide_eq_false (by omega)
theorem bt_nI {m : Nat} (h : m < 4294967296) (i : Nat) : bt (nI m) i = m.testBit i := by rw [uI_bt, uI_nI h]
theorem bif_bt {b : Bool} (j : Nat) : bt (if b = true then (1 : Int32) else 0) j = (b && decide (j = 0)) := by
  cases b
  · exact b_0 j
  · exact b_1 j
theorem bit1u (x : Int32) {i : Nat} (hi : i < 32) : (jushr x (nI i) &&& 1) = if bt x i = true then 1 else 0 := by
  apply b_ext
  intro j _
  rw [b_and, bif_bt, b_1, show bt (jushr x (nI i)) j = bt x (i + j) from b_ushr i hi x j]
  by_cases h : j = 0
  · subst h; simp
  · simp [h]
theorem bit1s (x : Int32) {i : Nat} (hi : i < 32) : ((x >>> (nI i &&& 31)) &&& 1) = if bt x i = true then 1 else 0 := by
  apply b_ext
  intro j hj
  rw [b_and, bif_bt, b_1, b_sshr i hi x hj]
  by_cases h : j = 0
  · subst h; simp [hi]
  · simp [h]
theorem bit_is1 {b : Bool} : ((if b = true then (1 : Int32) else 0) = 1) ↔ b = true := by cases b <;> decide
/-- one bit -/
def oh (i : Nat) : Int32 := (1 : Int32) <<< (nI i &&& 31)
theorem bt_oh {i : Nat} (hi : i < 32) (j : Nat) : bt (oh i) j = decide (j = i) := by
  by_cases hj : j < 32
  · rw [oh, b_shl i hi 1 hj, b_1]
    by_cases h : j = i
    · subst h; simp
    · by_cases h2 : i ≤ j
      · have : ¬ (j - i = 0) := by omega
        simp [h, this]
      · simp [h2, h]
  · rw [b_big (by omega)]; symm; exact decide_eq_false (by omega)
/-- the n lowest bits -/
def mk (n : Nat) : Int32 := nI (2 ^ n - 1)
theorem mk_eq : ∀ n, n < 31 → ((1 : Int32) <<< (nI n &&& 31)) - 1 = mk n := by decide +kernel
theorem bt_mk {n : Nat} (hn : n < 32) (i : Nat) : bt (mk n) i = decide (i < n) := by
  have : 2 ^ n ≤ 2 ^ 31 := Nat.pow_le_pow_right (by decide) (by omega)
  rw [mk, bt_nI (by omega), Nat.testBit_two_pow_sub_one]
theorem xo_assoc (a b c : Int32) : (a ^^^ b) ^^^ c = a ^^^ (b ^^^ c) := b_ext fun i _ => by simp only [b_xor, Bool.xor_assoc]
theorem xo_comm (a b : Int32) : a ^^^ b = b ^^^ a := b_ext fun i _ => by simp only [b_xor, Bool.xor_comm]
theorem xo_self (a : Int32) : a ^^^ a = 0 := b_ext fun i _ => by simp only [b_xor, b_0, Bool.xor_self]
theorem xo_zero (a : Int32) : a ^^^ 0 = a := b_ext fun i _ => by simp only [b_xor, b_0, Bool.xor_false]
theorem zero_xo (a : Int32) : 0 ^^^ a = a := by rw [xo_comm, xo_zero]
theorem xo_cancel {a b c : Int32} (h : a ^^^ b = a ^^^ c) : b = c := by
  have := congrArg (fun z => a ^^^ z) h
  simpa only [← xo_assoc, xo_self, zero_xo] using this
theorem xo_eq0 {a b : Int32} : a ^^^ b = 0 ↔ a = b := by
  constructor
  · intro h
    apply xo_cancel (a := b)
    rw [xo_comm, h, xo_self]
  · rintro rfl; exact xo_self a
/-- what the columns of the ones add up to -/
def sy (col : Nat → Int32) (x : Int32) : Nat → Int32
  | 0 => 0
  | p + 1 => sy col x p ^^^ (if bt x p = true then col p else 0)
theorem sy_xor (col : Nat → Int32) (x y : Int32) : ∀ n, sy col (x ^^^ y) n = sy col x n ^^^ sy col y n
  | 0 => (xo_zero 0).symm
  | n + 1 => by
    show sy col (x ^^^ y) n ^^^ _ = (sy col x n ^^^ _) ^^^ (sy col y n ^^^ _)
    rw [sy_xor col x y n, b_xor]
    have e : (if (bt x n ^^ bt y n) = true then col n else 0) = (if bt x n = true then col n else 0) ^^^ (if bt y n = true then col n else (0 : Int32)) := by
      cases bt x n <;> cases bt y n <;> simp [xo_self, xo_zero, zero_xo]
    rw [e]
    simp only [xo_assoc]
    congr 1
    rw [← xo_assoc, ← xo_assoc, xo_comm (if bt x n = true then col n else 0)]
theorem sy_cong {c c' : Nat → Int32} {x y : Int32} : ∀ {n : Nat}, (∀ p, p < n → c p = c' p) → (∀ p, p < n → bt x p = bt y p) → sy c x n = sy c' y n
  | 0, _, _ => rfl
  | n + 1, h1, h2 => by
    show sy c x n ^^^ _ = sy c' y n ^^^ _
    rw [sy_cong (fun p hp => h1 p (by omega)) (fun p hp => h2 p (by omega)), h1 n (by omega), h2 n (by omega)]
theorem sy_zero (col : Nat → Int32) {x : Int32} : ∀ {n : Nat}, (∀ p, p < n → bt x p = false) → sy col x n = 0
  | 0, _ => rfl
  | n + 1, h => by
    show sy col x n ^^^ _ = 0
    rw [sy_zero col (fun p hp => h p (by omega)), h n (by omega)]
    exact xo_zero 0
theorem sy_split (col : Nat → Int32) (x : Int32) (n : Nat) : ∀ k, (∀ p, n ≤ p → p < n + k → bt x p = false) → sy col x (n + k) = sy col x n
  | 0, _ => rfl
  | k + 1, h => by
    show sy col x (n + k) ^^^ (if bt x (n + k) = true then col (n + k) else 0) = _
    rw [sy_split col x n k (fun p h1 h2 => h p h1 (by omega)), h (n + k) (by omega) (by omega)]
    exact xo_zero _
theorem sy_oh (col : Nat → Int32) {i : Nat} (hi : i < 32) : ∀ {n : Nat}, sy col (oh i) n = if i < n then col i else 0
  | 0 => rfl
  | n + 1 => by
    show sy col (oh i) n ^^^ _ = _
    rw [sy_oh col hi, bt_oh hi]
    by_cases h : n = i
    · subst h; simp [zero_xo]
    · by_cases h2 : i < n
      · have h3 : i < n + 1 := by omega
        simp [h, h2, h3, xo_zero]
      · have h3 : ¬ i < n + 1 := by omega
        simp [h, h2, h3, xo_zero]
theorem X1_synd {F n k : Nat} {col : Nat → Int32} {x : Int32} (hF : 40 < F) (hn : n + k ≤ 32) : p_X1_syndromeOf F (nI n) (nI k) col x = some (sy col x (n + k)) := by
  show p_X1_syndromeOf_L10 F (nI n) (nI k) col x (nI n + nI k) F 0 0 = _
  rw [nI_add]
  have key := fold_loop (fun fuel a i => p_X1_syndromeOf_L10 F (nI n) (nI k) col x (nI (n + k)) fuel a i) some (fun i a => a ^^^ (if bt x i = true then col i else 0)) (fun _ _ => True) (n + k)
    (fun fuel i a hi _ => by
      show p_X1_syndromeOf_L10b F (nI n) (nI k) col x (nI (n + k)) _ a (nI i) = _
      unfold p_X1_syndromeOf_L10b p_X1_syndromeOf_J36
      rw [if_neg (nI_ge hi (by omega)), bit1u x (by omega), if_neg (ixg (i := i) (N := 32) (by omega) (by decide)), nI_1, nI_clamp (by omega)]
      by_cases h : bt x i = true
      · rw [if_pos h, if_pos rfl, if_pos h]
      · rw [if_neg h, if_neg (by decide), if_neg h, xo_zero])
    (fun fuel a _ => by
      show p_X1_syndromeOf_L10b F (nI n) (nI k) col x (nI (n + k)) _ a (nI (n + k)) = _
      unfold p_X1_syndromeOf_L10b
      rw [if_pos (nI_le (Nat.le_refl _) (by omega))]) (fun _ _ _ _ => trivial) (n + k) 0 F 0 (by omega) (by omega) trivial
  refine Eq.trans key (congrArg some ?_)
  have h2 : ∀ d, fo (fun i a => a ^^^ (if bt x i = true then col i else 0)) d 0 0 = sy col x d := by
    intro d
    induction d with
    | zero => rfl
    | succ d ih =>
      rw [fo_succ, ih]
      simp only [Nat.zero_add]
      rfl
  exact h2 (n + k)
theorem X11_checks {F b n : Nat} {all dat : Nat → Int32} {x : Int32} (hF : 40 < F) (hb : b < 2) (hd : dat b = nI n) (hn : n ≤ 32) : p_X11_checksOf F (nI b) all dat x = some (sy all x n) := by
  show p_X11_checksOf_L4 F (nI b) all dat x F 0 0 = _
  have hdn : p_X11_dataNow F (nI b) dat = some (nI n) := by
    unfold p_X11_dataNow
    rw [if_neg (ixg hb (by decide)), nI_clamp (by omega), hd]
  have key := fold_loop (fun fuel a i => p_X11_checksOf_L4 F (nI b) all dat x fuel a i) some (fun i a => a ^^^ (if bt x i = true then all i else 0)) (fun _ _ => True) n
    (fun fuel i a hi _ => by
      show p_X11_checksOf_L4b F (nI b) all dat x _ a (nI i) = _
      have hc : p_X11_columnAt F all (nI i) = some (all i) := by
        unfold p_X11_columnAt
        rw [show (0 : Int32) + nI i = nI i by rw [show (0 : Int32) = nI 0 from rfl, nI_add, Nat.zero_add], if_neg (ixg (by omega) (by decide)), nI_clamp (by omega)]
      unfold p_X11_checksOf_L4b p_X11_checksOf_J29
      rw [hdn, hc]
      show (if nI n ≤ nI i then _ else _) = _
      rw [if_neg (nI_ge hi (by omega)), bit1s x (by omega), nI_1]
      by_cases h : bt x i = true
      · rw [if_pos h, if_pos rfl, if_pos h]; rfl
      · rw [if_neg h, if_neg (by decide), if_neg h, xo_zero])
    (fun fuel a _ => by
      show p_X11_checksOf_L4b F (nI b) all dat x _ a (nI n) = _
      unfold p_X11_checksOf_L4b
      rw [hdn]
      show (if nI n ≤ nI n then _ else _) = _
      rw [if_pos (nI_le (Nat.le_refl _) (by omega))]) (fun _ _ _ _ => trivial) n 0 F 0 (by omega) (by omega) trivial
  refine Eq.trans key (congrArg some ?_)
  have h2 : ∀ d, fo (fun i a => a ^^^ (if bt x i = true then all i else 0)) d 0 0 = sy all x d := by
    intro d
    induction d with
    | zero => rfl
    | succ d ih =>
      rw [fo_succ, ih]
      simp only [Nat.zero_add]
      rfl
  exact h2 n
