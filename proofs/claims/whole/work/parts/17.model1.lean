/-! the model: ones, single places of a word, a reading -/
theorem low_bits {X l : Nat} (hl : X.testBit l = true) (hno : ∀ j, j < l → X.testBit j = false) : ∃ q, X = 2 ^ (l + 1) * q + 2 ^ l := by
  have h1 : X % 2 ^ l = 0 := by
    apply Nat.eq_of_testBit_eq
    intro i
    rw [Nat.testBit_mod_two_pow, Nat.zero_testBit]
    by_cases h : i < l
    · rw [hno i h]; simp
    · simp [h]
  have h2 : X / 2 ^ l % 2 = 1 := by
    have h3 : (X / 2 ^ l).testBit 0 = true := by rw [Nat.testBit_div_two_pow, Nat.zero_add]; exact hl
    rw [Nat.testBit_zero] at h3
    exact of_decide_eq_true h3
  have h4 := Nat.div_add_mod X (2 ^ l)
  generalize X / 2 ^ l = Y at *
  have h5 : Y = 2 * (Y / 2) + 1 := by omega
  refine ⟨Y / 2, ?_⟩
  generalize Y / 2 = q at h5
  rw [← h4, h1, h5, Nat.pow_succ, Nat.mul_add, Nat.mul_one, Nat.add_zero, Nat.mul_assoc]
theorem drop_low {x : Int32} {l : Nat} (hl : l < 32) (h : bt x l = true) (hno : ∀ j, j < l → bt x j = false) (i : Nat) : bt (x &&& (x - 1)) i = if i = l then false else bt x i := by
  obtain ⟨q, hq⟩ := low_bits (X := uI x) (l := l) (by rw [← uI_bt]; exact h) (fun j hj => by rw [← uI_bt]; exact hno j hj)
  have hp : 0 < 2 ^ l := Nat.two_pow_pos l
  have hpp : 2 ^ (l + 1) = 2 ^ l + 2 ^ l := by rw [Nat.pow_succ]; omega
  have hlt := uI_lt x
  have e : uI (x - 1) = 2 ^ (l + 1) * q + (2 ^ l - 1) := by
    rw [uI_sub, show uI (1 : Int32) = 1 from rfl, hq]
    have : 2 ^ (l + 1) * q + 2 ^ l < 4294967296 := by rw [← hq]; exact hlt
    omega
  rw [b_and, uI_bt (x - 1), e, uI_bt x, hq, Nat.testBit_two_pow_mul_add _ (by omega), Nat.testBit_two_pow_mul_add _ (by omega)]
  by_cases h1 : i < l + 1
  · rw [if_pos h1, if_pos h1, Nat.testBit_two_pow_sub_one, Nat.testBit_two_pow]
    by_cases h2 : i = l
    · subst h2; simp
    · have h3 : ¬ l = i := fun e => h2 e.symm
      simp [h2, h3]
  · have h2 : ¬ i = l := by omega
    rw [if_neg h1, if_neg h1, if_neg h2, Bool.and_self]
theorem ex_bit {x : Int32} (h : x ≠ 0) : ∃ l, l < 32 ∧ bt x l = true ∧ ∀ j, j < l → bt x j = false := by
  rcases fi_cases (fun i => bt x i) 32 with ⟨i, h1, h2, h3, _⟩ | ⟨h1, _⟩
  · exact ⟨i, h1, h2, h3⟩
  · exact absurd (b_ext fun i hi => by rw [h1 i hi, b_0]) h
theorem pcn_drop {x : Int32} (h : x ≠ 0) : pcn (x &&& (x - 1)) + 1 = pcn x := by
  obtain ⟨l, hl, h1, h2⟩ := ex_bit h
  have e : pcn (x &&& (x - 1)) = fb_ct (fun i => if i = l then false else bt x i) 32 := fb_ct_cong (fun i _ => drop_low hl h1 h2 i)
  have := fb_ct_upd (fun i => bt x i) false hl
  rw [e]
  rw [h1] at this
  simpa [pcn] using this
theorem pcn_zero {x : Int32} (h : pcn x = 0) : x = 0 := b_ext fun i hi => by
  rw [fb_ct_zero.mp h i hi, b_0]
theorem M_ones {F : Nat} (hF : 40 < F) (x : Int32) : p_X11_ones F x = some (nI (pcn x)) := by
  have key : ∀ (d fuel c : Nat) (y : Int32), pcn y = d → d < fuel → p_X11_ones_L4 F fuel (nI c) y = some (nI (c + d)) := by
    intro d
    induction d with
    | zero =>
      intro fuel c y hy hf
      cases fuel with
      | zero => exact absurd hf (by omega)
      | succ fuel =>
        show p_X11_ones_L4b F _ (nI c) y = _
        unfold p_X11_ones_L4b
        rw [if_pos (pcn_zero hy)]
        rfl
    | succ d ih =>
      intro fuel c y hy hf
      cases fuel with
      | zero => exact absurd hf (by omega)
      | succ fuel =>
        have hne : y ≠ 0 := fun e => by rw [e, pcn_0] at hy; omega
        have h1 := pcn_drop hne
        show p_X11_ones_L4b F _ (nI c) y = _
        unfold p_X11_ones_L4b
        rw [if_neg hne, nI_1, ih fuel (c + 1) _ (by omega) (by omega), show c + 1 + d = c + (d + 1) by omega]
  have hp := pcn_le x
  have := key (pcn x) F 0 x rfl (by omega)
  rw [Nat.zero_add] at this
  exact this
/-! a place of a word -/
theorem DD_xor {n : Nat} (x y : Int32) : DD n (x ^^^ y) = DD n x ^^^ DD n y := b_ext fun i _ => by
  simp only [DD, b_and, b_xor]
  cases bt x i <;> cases bt y i <;> cases bt (mk n) i <;> rfl
theorem CC_xor {n : Nat} (hn : n < 32) (x y : Int32) : CC n (x ^^^ y) = CC n x ^^^ CC n y := b_ext fun i _ => by
  simp only [bt_CC hn, b_xor]
theorem DD_oh {n i : Nat} (hn : n < 32) (hi : i < 32) : DD n (oh i) = if i < n then oh i else 0 := b_ext fun j hj => by
  rw [bt_DD hn, bt_oh hi]
  by_cases h : i < n
  · rw [if_pos h, bt_oh hi]
    by_cases e : j = i
    · subst e; simp [h]
    · simp [e]
  · rw [if_neg h, b_0]
    by_cases e : j = i
    · subst e; simp [h]
    · simp [e]
theorem CC_oh {n i : Nat} (hn : n < 32) (hi : i < 32) : CC n (oh i) = if i < n then 0 else oh (i - n) := b_ext fun j hj => by
  rw [bt_CC hn, bt_oh hi]
  by_cases h : i < n
  · rw [if_pos h, b_0]
    exact decide_eq_false (by omega)
  · rw [if_neg h, bt_oh (by omega)]
    by_cases e : j = i - n
    · rw [decide_eq_true e, decide_eq_true (by omega)]
    · rw [decide_eq_false e, decide_eq_false (by omega)]
theorem CC_0 {n : Nat} (hn : n < 32) : CC n 0 = 0 := b_ext fun j _ => by rw [bt_CC hn, b_0, b_0]
theorem DD_0 {n : Nat} : DD n 0 = 0 := b_ext fun j _ => by rw [DD, b_and, b_0]; rfl
theorem sy_CC {n k : Nat} {col : Nat → Int32} {x : Int32} (hn : n < 32) (hm : n + k ≤ 32) (hk8 : k ≤ 8) (hc : ∀ c, c < k → col (n + c) = oh c) (hx : Fit (n + k) x) : sy col x (n + k) = sy col (DD n x) n ^^^ CC n x := by
  have h1 : ∀ j, j ≤ k → ∀ i, i < 32 → bt (sy col x (n + j)) i = (bt (sy col x n) i ^^ (decide (i < j) && bt x (n + i))) := by
    intro j
    induction j with
    | zero => intro _ i _; simp
    | succ j ih =>
      intro hj i hi
      show bt (sy col x (n + j) ^^^ (if bt x (n + j) = true then col (n + j) else 0)) i = _
      rw [b_xor, ih (by omega) i hi, hc j (by omega)]
      have e : bt (if bt x (n + j) = true then oh j else 0) i = (decide (i = j) && bt x (n + i)) := by
        by_cases h : i = j
        · subst h
          cases hb : bt x (n + i)
          · simp [b_0]
          · simp [bt_oh hi]
        · cases hb : bt x (n + j)
          · simp [b_0, h]
          · simp [bt_oh (show j < 32 by omega), h]
      rw [e]
      by_cases h2 : i < j
      · have h3 : ¬ i = j := by omega
        have h4 : i < j + 1 := by omega
        simp [h2, h3, h4]
      · by_cases h3 : i = j
        · subst h3; simp
        · have h4 : ¬ i < j + 1 := by omega
          simp [h2, h3, h4]
  have h2 : sy col (DD n x) n = sy col x n := sy_cong (fun _ _ => rfl) (fun p hp => by rw [bt_DD hn]; simp [hp])
  rw [h2]
  refine b_ext fun i hi => ?_
  rw [h1 k (Nat.le_refl _) i hi, b_xor, bt_CC hn]
  congr 1
  by_cases h : i < k
  · simp [h]
  · rw [hx (n + i) (by omega)]; simp
theorem M_isIn (F : Nat) (v lo hi : Int32) : p_X11_isIn F v lo hi = some (if lo ≤ v ∧ v ≤ hi then 1 else 0) := by
  unfold p_X11_isIn
  by_cases h1 : v < lo
  · have : ¬ lo ≤ v := fun h => by rw [fa_lt] at h1; rw [fa_le] at h; omega
    rw [if_pos h1, if_neg (fun h => this h.1)]
  · have h1' : lo ≤ v := fa_of_nlt h1
    rw [if_neg h1]
    by_cases h2 : hi < v
    · have : ¬ v ≤ hi := fun h => by rw [fa_lt] at h2; rw [fa_le] at h; omega
      rw [if_pos h2, if_neg (fun h => this h.2)]
    · rw [if_neg h2, if_pos ⟨h1', fa_of_nlt h2⟩]
theorem M_isData {F b n i : Nat} {dat : Nat → Int32} (hb : b < 2) (hd : dat b = nI n) (hn : 0 < n) (hn2 : n < 1000) (hi : i < 1000) : p_X11_isData F (nI b) dat (nI i) = some (if i < n then 1 else 0) := by
  unfold p_X11_isData
  rw [M_data hb hd]
  simp only [Option.bind_some, M_isIn]
  have e : nI n - 1 = nI (n - 1) := by have := nI_pred (n - 1); rw [show n - 1 + 1 = n by omega] at this; exact this
  rw [e]
  have h0 : (0 : Int32) ≤ nI i := nI_ge0 (by omega)
  have hv : (if (0 : Int32) ≤ nI i ∧ nI i ≤ nI (n - 1) then (1 : Int32) else 0) = if i < n then 1 else 0 := by
    by_cases h : i < n
    · rw [if_pos (show (0 : Int32) ≤ nI i ∧ nI i ≤ nI (n - 1) from ⟨h0, nI_le (by omega) (by omega)⟩), if_pos h]
    · rw [if_neg (fun q : (0 : Int32) ≤ nI i ∧ nI i ≤ nI (n - 1) => absurd q.2 (nI_ge (by omega) (by omega))), if_neg h]
  rw [hv]
  by_cases h : i < n
  · rw [if_pos h]; rfl
  · rw [if_neg h]; rfl
theorem nI_sub {a b : Nat} (h : b ≤ a) : nI a - nI b = nI (a - b) := pk_sub h
theorem M_turnRead {F b n i : Nat} {dat : Nat → Int32} (hb : b < 2) (hd : dat b = nI n) (hn : 0 < n) (hn2 : n < 32) (hi : i < 32) (x : Int32) :
    p_X11_turnRead F (nI b) (DD n x) (CC n x) dat (nI i) = some (DD n (x ^^^ oh i), CC n (x ^^^ oh i)) := by
  unfold p_X11_turnRead
  rw [M_isData hb hd hn (by omega) (by omega), M_data hb hd, DD_xor, CC_xor hn2, DD_oh hn2 hi, CC_oh hn2 hi]
  simp only [Option.bind_some]
  by_cases h : i < n
  · rw [if_pos h, if_pos h, if_neg (by decide), if_pos h, xo_zero]; rfl
  · rw [if_neg h, if_neg h, if_pos rfl, if_neg h, xo_zero, nI_sub (by omega)]; rfl
/-- the mask of a place, or of none -/
def ohO (p : Int32) : Int32 := if p < 0 then 0 else ohI p
def PlO (p : Int32) : Prop := p = -1 ∨ ∃ i, i < 32 ∧ p = nI i
theorem ohO_m1 : ohO (-1) = 0 := rfl
theorem ohO_nI {i : Nat} (hi : i < 32) : ohO (nI i) = oh i := by rw [ohO, if_neg (nI_pos (by omega))]; rfl
theorem M_told {F b n : Nat} {dat : Nat → Int32} (hb : b < 2) (hd : dat b = nI n) (hn : 0 < n) (hn2 : n < 32) (x z0 z1 kd pl one oth : Int32) (h1 : PlO one) (h2 : PlO oth) :
    p_X11_told F (nI b) z0 z1 (DD n x) (CC n x) dat kd pl one oth = some (kd, pl, DD n (x ^^^ (ohO one ^^^ ohO oth)), CC n (x ^^^ (ohO one ^^^ ohO oth))) := by
  have step : ∀ y, p_X11_told_J19 F (nI b) dat oth kd pl (DD n y) (CC n y) = some (kd, pl, DD n (y ^^^ ohO oth), CC n (y ^^^ ohO oth)) := by
    intro y
    unfold p_X11_told_J19
    rcases h2 with rfl | ⟨i, hi, rfl⟩
    · rw [if_pos (by decide), ohO_m1, xo_zero]
    · rw [if_neg (nI_pos (by omega)), M_turnRead hb hd hn hn2 hi, ohO_nI hi]; rfl
  unfold p_X11_told
  rcases h1 with rfl | ⟨i, hi, rfl⟩
  · rw [if_pos (by decide), step, ohO_m1, zero_xo]
  · rw [if_neg (nI_pos (by omega)), M_turnRead hb hd hn hn2 hi, ohO_nI hi]
    simp only [Option.bind_some]
    rw [step, xo_assoc]
