/-! tokens of a tape: class and model see the same -/
def rnF (q : Nat → Bool) : Nat → Nat → Nat
  | 0, i => i
  | d + 1, i => if q i = true then rnF q d (i + 1) else i
theorem rnF_le (q : Nat → Bool) : ∀ d i, i ≤ rnF q d i ∧ rnF q d i ≤ i + d
  | 0, i => ⟨Nat.le_refl _, Nat.le_refl _⟩
  | d + 1, i => by
    show i ≤ (if q i = true then rnF q d (i + 1) else i) ∧ (if q i = true then rnF q d (i + 1) else i) ≤ i + (d + 1)
    by_cases h : q i = true
    · rw [if_pos h]
      have := rnF_le q d (i + 1)
      omega
    · rw [if_neg h]; omega
theorem rnF_in (q : Nat → Bool) : ∀ d i t, i ≤ t → t < rnF q d i → q t = true
  | 0, i, t, h1, h2 => absurd h2 (by show ¬ t < i; omega)
  | d + 1, i, t, h1, h2 => by
    have h2' : t < if q i = true then rnF q d (i + 1) else i := h2
    by_cases h : q i = true
    · rw [if_pos h] at h2'
      by_cases e : t = i
      · subst e; exact h
      · exact rnF_in q d (i + 1) t (by omega) h2'
    · rw [if_neg h] at h2'; omega
theorem rnF_end (q : Nat → Bool) : ∀ d i, rnF q d i = i + d ∨ q (rnF q d i) = false
  | 0, i => Or.inl rfl
  | d + 1, i => by
    show (if q i = true then rnF q d (i + 1) else i) = i + (d + 1) ∨ q (if q i = true then rnF q d (i + 1) else i) = false
    by_cases h : q i = true
    · rw [if_pos h]
      rcases rnF_end q d (i + 1) with h2 | h2
      · left; omega
      · right; exact h2
    · rw [if_neg h]
      right
      cases hq : q i
      · rfl
      · exact absurd hq h
def blB (v : Nat) : Bool := decide (v = 32) || decide (v = 10)
def ltB (v : Nat) : Bool := decide (97 ≤ v) && decide (v ≤ 122)
def dgB (v : Nat) : Bool := decide (48 ≤ v) && decide (v ≤ 57)
def sgB (v : Nat) : Int32 := (nI v).toInt8.toInt32
theorem bl_c : ∀ v, v < 256 → (if nI v = (32 : Int32) then some (1 : Int32) else if nI v = 10 then some 1 else some 0) = some (if blB v = true then 1 else 0) := by decide +kernel
theorem lt_c : ∀ v, v < 256 → (if nI v < (97 : Int32) then some (0 : Int32) else if 122 < nI v then some 0 else some 1) = some (if ltB v = true then 1 else 0) := by decide +kernel
theorem dg_c : ∀ v, v < 256 → (if nI v < (48 : Int32) then some (0 : Int32) else if 57 < nI v then some 0 else some 1) = some (if dgB v = true then 1 else 0) := by decide +kernel
theorem bl_m : ∀ v, v < 256 → (if sgB v = (32 : Int32) then some (1 : Int32) else if sgB v = 10 then some 1 else some 0) = some (if blB v = true then 1 else 0) := by decide +kernel
theorem lt_m : ∀ v, v < 256 → (if sgB v < (97 : Int32) then some (0 : Int32) else if 122 < sgB v then some 0 else some 1) = some (if ltB v = true then 1 else 0) := by decide +kernel
theorem dg_m : ∀ v, v < 256 → (if sgB v < (48 : Int32) then some (0 : Int32) else if 57 < sgB v then some 0 else some 1) = some (if dgB v = true then 1 else 0) := by decide +kernel
theorem sc_m : ∀ v, v < 256 → ((sgB v = (59 : Int32)) ↔ v = 59) ∧ ((nI v = (59 : Int32)) ↔ v = 59) ∧ (dgB v = true → sgB v = nI v) ∧ (ltB v = true → sgB v = nI v) ∧ (ltB v = true → dgB v = false ∧ blB v = false) ∧ (dgB v = true → blB v = false) := by decide +kernel
/-- the tape of the class, the tape of the model -/
def TP (L : Nat) (u : Nat → Nat) (tx tm : Nat → Int32) : Prop := L ≤ 600 ∧ ∀ i, i < L → u i < 256 ∧ tx i = nI (u i) ∧ tm i = sgB (u i)
section Tok
variable {F L : Nat} {u : Nat → Nat} {tx tm : Nat → Int32}
theorem X7_byte (h : TP L u tx tm) {i : Nat} (hi : i < L) : p_X7_byteAt F (nI L) tx (nI i) = some (nI (u i)) := by
  have hL := h.1
  unfold p_X7_byteAt
  rw [if_neg (nI_pos (by omega)), if_neg (nI_ge hi (by omega)), if_neg (show ¬ (600 : Int32) ≤ nI i from nI_ge (b := 600) (by omega) (by decide)), if_neg (ixg (by omega) (by decide)), nI_clamp (by omega), (h.2 i hi).2.1]
theorem X7_byte_end (h : TP L u tx tm) : p_X7_byteAt F (nI L) tx (nI L) = some (-1) := by
  have hL := h.1
  unfold p_X7_byteAt
  rw [if_neg (nI_pos (by omega)), if_pos (nI_le (Nat.le_refl _) (by omega))]
theorem X3_blank {v : Nat} (hv : v < 256) : p_X3_isBlank F (nI v) = some (if blB v = true then 1 else 0) := bl_c v hv
theorem X3_letter {v : Nat} (hv : v < 256) : p_X3_isLetter F (nI v) = some (if ltB v = true then 1 else 0) := lt_c v hv
theorem X3_digit {v : Nat} (hv : v < 256) : p_X3_isDigit F (nI v) = some (if dgB v = true then 1 else 0) := dg_c v hv
theorem M_letter {v : Nat} (hv : v < 256) : p_X11_isLetter F (sgB v) = some (if ltB v = true then 1 else 0) := lt_m v hv
theorem M_digit {v : Nat} (hv : v < 256) : p_X11_isDigit F (sgB v) = some (if dgB v = true then 1 else 0) := dg_m v hv
theorem M_blank (h : TP L u tx tm) {i : Nat} (hi : i < L) : p_X11_isBlank F (nI L) tm (nI i) = some (if blB (u i) = true then 1 else 0) := by
  have hL := h.1
  obtain ⟨h1, h2, h3⟩ := h.2 i hi
  have g : ¬ ixBad (nI i) 600 := ixg (by omega) (by decide)
  have c : (nI i).toNatClampNeg = i := nI_clamp (by omega)
  unfold p_X11_isBlank
  rw [if_neg (nI_ge hi (by omega))]
  simp only [g, c, h3, ↓reduceIte]
  exact bl_m (u i) h1
theorem M_blank_end (h : TP L u tx tm) : p_X11_isBlank F (nI L) tm (nI L) = some 0 := by
  have hL := h.1
  unfold p_X11_isBlank
  rw [if_pos (nI_le (Nat.le_refl _) (by omega))]
theorem M_sign (h : TP L u tx tm) {i : Nat} (hi : i < L) : p_X11_signAt F (nI L) tm (nI i) = some (sgB (u i)) := by
  have hL := h.1
  unfold p_X11_signAt
  rw [if_neg (nI_ge hi (by omega)), if_neg (ixg (by omega) (by decide)), nI_clamp (by omega), (h.2 i hi).2.2]
theorem M_sign_end (h : TP L u tx tm) : p_X11_signAt F (nI L) tm (nI L) = some 0 := by
  have hL := h.1
  unfold p_X11_signAt
  rw [if_pos (nI_le (Nat.le_refl _) (by omega))]
/-! blanks -/
theorem X3_skip (h : TP L u tx tm) (x7 x8 x9 : Int32) : ∀ (d i fuel : Nat), i + d = L → d < fuel → p_X3_nextToken_L0 F (nI L) tx fuel (nI i) x7 x8 x9 = p_X3_nextToken_J44 F (nI L) tx (nI (rnF (fun t => blB (u t)) d i)) x7 x8 x9 := by
  have hL := h.1
  intro d
  induction d with
  | zero =>
    intro i fuel hi hf
    obtain ⟨fuel, rfl⟩ : ∃ q, fuel = q + 1 := ⟨fuel - 1, by omega⟩
    have e : i = L := by omega
    subst e
    show p_X3_nextToken_L0b F (nI i) tx _ (nI i) x7 x8 x9 = _
    unfold p_X3_nextToken_L0b
    rw [if_pos (nI_le (Nat.le_refl _) (by omega))]
    rfl
  | succ d ih =>
    intro i fuel hi hf
    obtain ⟨fuel, rfl⟩ : ∃ q, fuel = q + 1 := ⟨fuel - 1, by omega⟩
    show p_X3_nextToken_L0b F (nI L) tx _ (nI i) x7 x8 x9 = p_X3_nextToken_J44 F (nI L) tx (nI (if blB (u i) = true then rnF (fun t => blB (u t)) d (i + 1) else i)) x7 x8 x9
    unfold p_X3_nextToken_L0b
    rw [if_neg (nI_ge (by omega) (by omega)), X7_byte h (by omega)]
    simp only [Option.bind_some]
    rw [X3_blank (h.2 i (by omega)).1]
    simp only [Option.bind_some, nI_1]
    by_cases c : blB (u i) = true
    · rw [if_pos c, if_neg i32_1_0, if_pos c]
      exact ih (i + 1) fuel (by omega) (by omega)
    · rw [if_neg c, if_pos rfl, if_neg c]
/-! letters -/
theorem X3_letters (h : TP L u tx tm) (x7 x8 x9 : Int32) : ∀ (d i fuel : Nat), i + d = L → d < fuel → p_X3_nextToken_L89 F (nI L) tx fuel (nI i) x7 x8 x9 = some (nI (rnF (fun t => ltB (u t)) d i), x7, x8, x9) := by
  have hL := h.1
  intro d
  induction d with
  | zero =>
    intro i fuel hi hf
    obtain ⟨fuel, rfl⟩ : ∃ q, fuel = q + 1 := ⟨fuel - 1, by omega⟩
    have e : i = L := by omega
    subst e
    show p_X3_nextToken_L89b F (nI i) tx _ (nI i) x7 x8 x9 = _
    unfold p_X3_nextToken_L89b
    rw [if_pos (nI_le (Nat.le_refl _) (by omega))]
    rfl
  | succ d ih =>
    intro i fuel hi hf
    obtain ⟨fuel, rfl⟩ : ∃ q, fuel = q + 1 := ⟨fuel - 1, by omega⟩
    show p_X3_nextToken_L89b F (nI L) tx _ (nI i) x7 x8 x9 = some (nI (if ltB (u i) = true then rnF (fun t => ltB (u t)) d (i + 1) else i), x7, x8, x9)
    unfold p_X3_nextToken_L89b
    rw [if_neg (nI_ge (by omega) (by omega)), X7_byte h (by omega)]
    simp only [Option.bind_some]
    rw [X3_letter (h.2 i (by omega)).1]
    simp only [Option.bind_some, nI_1]
    by_cases c : ltB (u i) = true
    · rw [if_pos c, if_neg i32_1_0, if_pos c]
      exact ih (i + 1) fuel (by omega) (by omega)
    · rw [if_neg c, if_pos rfl, if_neg c]
theorem M_letters (h : TP L u tx tm) {lets : Nat → Int32} (x10 x11 x13 : Int32) : ∀ (d i fuel : Nat), i + d = L → d < fuel → p_X11_scanWord_L13 F (nI L) x10 tm lets fuel (nI i) x11 x13 = p_X11_scanWord_L49 F (nI L) x10 tm lets F 0 0 (nI (rnF (fun t => ltB (u t)) d i)) x11 (-1) := by
  have hL := h.1
  have l0 : p_X11_isLetter F 0 = some 0 := by unfold p_X11_isLetter; rw [if_pos (by decide)]
  intro d
  induction d with
  | zero =>
    intro i fuel hi hf
    obtain ⟨fuel, rfl⟩ : ∃ q, fuel = q + 1 := ⟨fuel - 1, by omega⟩
    have e : i = L := by omega
    subst e
    show p_X11_scanWord_L13b F (nI i) x10 tm lets _ (nI i) x11 x13 = _
    unfold p_X11_scanWord_L13b
    rw [M_sign_end h]
    simp only [Option.bind_some, l0, ↓reduceIte]
    rfl
  | succ d ih =>
    intro i fuel hi hf
    obtain ⟨fuel, rfl⟩ : ∃ q, fuel = q + 1 := ⟨fuel - 1, by omega⟩
    show p_X11_scanWord_L13b F (nI L) x10 tm lets _ (nI i) x11 x13 = p_X11_scanWord_L49 F (nI L) x10 tm lets F 0 0 (nI (if ltB (u i) = true then rnF (fun t => ltB (u t)) d (i + 1) else i)) x11 (-1)
    unfold p_X11_scanWord_L13b
    rw [M_sign h (by omega)]
    simp only [Option.bind_some]
    rw [M_letter (h.2 i (by omega)).1]
    simp only [Option.bind_some, nI_1]
    by_cases c : ltB (u i) = true
    · rw [if_pos c, if_neg i32_1_0, if_pos c]
      exact ih (i + 1) fuel (by omega) (by omega)
    · rw [if_neg c, if_pos rfl, if_neg c]
/-! digits -/
def NumR (a b : Nat) : Prop := (a = b ∧ b ≤ 99999999) ∨ (a = 100000000 ∧ 100000000 ≤ b ∧ b < 2000000000)
theorem digits_both (h : TP L u tx tm) (x10 : Int32) : ∀ (d i a b fx fm : Nat), i + d = L → d < fx → d < fm → NumR a b →
    ∃ a' b', NumR a' b' ∧ p_X3_takeDigits_L5 F (nI L) tx fx (nI i) (nI a) = some (nI (rnF (fun t => dgB (u t)) d i), nI a') ∧ p_X11_scanNumber_L18 F (nI L) x10 tm fm (nI i) 3 (nI b) = some (nI (rnF (fun t => dgB (u t)) d i), 3, nI b') := by
  have hL := h.1
  have l0 : p_X11_isDigit F 0 = some 0 := by unfold p_X11_isDigit; rw [if_pos (by decide)]
  intro d
  induction d with
  | zero =>
    intro i a b fx fm hi h1 h2 hr
    obtain ⟨fx, rfl⟩ : ∃ q, fx = q + 1 := ⟨fx - 1, by omega⟩
    obtain ⟨fm, rfl⟩ : ∃ q, fm = q + 1 := ⟨fm - 1, by omega⟩
    have e : i = L := by omega
    subst e
    refine ⟨a, b, hr, ?_, ?_⟩
    · show p_X3_takeDigits_L5b F (nI i) tx _ (nI i) (nI a) = _
      unfold p_X3_takeDigits_L5b
      rw [if_pos (nI_le (Nat.le_refl _) (by omega))]
      rfl
    · show p_X11_scanNumber_L18b F (nI i) x10 tm _ (nI i) 3 (nI b) = _
      unfold p_X11_scanNumber_L18b
      rw [M_sign_end h]
      simp only [Option.bind_some, l0, ↓reduceIte]
      rfl
  | succ d ih =>
    intro i a b fx fm hi h1 h2 hr
    obtain ⟨fx, rfl⟩ : ∃ q, fx = q + 1 := ⟨fx - 1, by omega⟩
    obtain ⟨fm, rfl⟩ : ∃ q, fm = q + 1 := ⟨fm - 1, by omega⟩
    have hu := (h.2 i (by omega)).1
    show ∃ a' b', NumR a' b' ∧ p_X3_takeDigits_L5b F (nI L) tx _ (nI i) (nI a) = some (nI (if dgB (u i) = true then rnF (fun t => dgB (u t)) d (i + 1) else i), nI a') ∧ p_X11_scanNumber_L18b F (nI L) x10 tm _ (nI i) 3 (nI b) = some (nI (if dgB (u i) = true then rnF (fun t => dgB (u t)) d (i + 1) else i), 3, nI b')
    unfold p_X3_takeDigits_L5b p_X11_scanNumber_L18b p_X11_scanNumber_J68
    rw [if_neg (nI_ge (by omega) (by omega)), X7_byte h (by omega), M_sign h (by omega)]
    simp only [Option.bind_some]
    rw [X3_digit hu, M_digit hu]
    simp only [Option.bind_some, nI_1]
    by_cases c : dgB (u i) = true
    · rw [if_pos c, if_neg i32_1_0, if_neg i32_1_0, if_pos c, (sc_m (u i) hu).2.2.1 c]
      obtain ⟨v, hv⟩ : ∃ v, u i = 48 + v ∧ v ≤ 9 := by
        unfold dgB at c
        simp at c
        exact ⟨u i - 48, by omega⟩
      have hb : b < 2000000000 ∧ a ≤ 100000000 := by rcases hr with ⟨q1, q2⟩ | ⟨q1, q2, q3⟩ <;> omega
      have eX : nI a * 10 + nI (u i) - 48 = nI (a * 10 + v) := by
        rw [show (10 : Int32) = nI 10 from rfl, show (48 : Int32) = nI 48 from rfl, pk_mul, nI_add, nI_sub (by omega)]
        congr 1; omega
      have eM : b ≤ 99999999 → (10 : Int32) * nI b + nI (u i) - 48 = nI (10 * b + v) := fun _ => by
        rw [show (10 : Int32) = nI 10 from rfl, show (48 : Int32) = nI 48 from rfl, pk_mul, nI_add, nI_sub (by omega)]
        congr 1; omega
      have eC : (if nI (a * 10 + v) < (100000000 : Int32) then nI (a * 10 + v) else 100000000) = nI (if a * 10 + v < 100000000 then a * 10 + v else 100000000) := by
        by_cases q : a * 10 + v < 100000000
        · rw [if_pos (show nI (a * 10 + v) < (100000000 : Int32) from nI_lt (b := 100000000) q (by decide)), if_pos q]
        · rw [if_neg (show ¬ nI (a * 10 + v) < (100000000 : Int32) from nI_nlt (b := 100000000) (by omega) (by omega)), if_neg q]; rfl
      rw [eX, eC]
      by_cases q : b ≤ 99999999
      · rw [if_pos (show nI b ≤ (99999999 : Int32) from nI_le (b := 99999999) q (by decide)), eM q]
        exact ih (i + 1) _ _ fx fm (by omega) (by omega) (by omega) (by
          rcases hr with ⟨q1, q2⟩ | ⟨q1, q2, q3⟩
          · by_cases q5 : a * 10 + v < 100000000
            · rw [if_pos q5]; exact Or.inl (by omega)
            · rw [if_neg q5]; exact Or.inr (by omega)
          · omega)
      · rw [if_neg (show ¬ nI b ≤ (99999999 : Int32) from nI_ge (a := 99999999) (by omega) (by omega))]
        exact ih (i + 1) _ _ fx fm (by omega) (by omega) (by omega) (by
          rcases hr with ⟨q1, q2⟩ | ⟨q1, q2, q3⟩
          · omega
          · rw [if_neg (by omega)]; exact Or.inr (by omega))
    · rw [if_neg c, if_pos rfl, if_pos rfl, if_neg c]
      exact ⟨a, b, hr, rfl, rfl⟩
end Tok
