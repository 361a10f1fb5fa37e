/-! a code that may be; a state of the class beside the model's array -/
def DCol (k : Nat) (c : Int32) : Prop := (∃ v, v < 2 ^ k ∧ c = nI v) ∧ 3 ≤ pcn c ∧ pcn c % 2 = 1
def CodeOK (n k : Nat) (col : Nat → Int32) : Prop := 4 ≤ n ∧ n ≤ 24 ∧ 4 ≤ k ∧ k ≤ 8 ∧ (∀ p, p < n → DCol k (col p)) ∧ (∀ c, c < k → col (n + c) = oh c) ∧ ∀ p q, p < n → q < n → col p = col q → p = q
theorem pow_le8 {k : Nat} (h : k ≤ 8) : 2 ^ k ≤ 256 := show 2 ^ k ≤ 2 ^ 8 from Nat.pow_le_pow_right (by decide) h
theorem ite_some {α : Type} (c : Prop) [Decidable c] (a b : α) : (if c then some a else some b) = some (if c then a else b) := by by_cases h : c <;> simp [h]
theorem fit_nI {k v : Nat} (hv : v < 2 ^ k) (hk : k ≤ 8) : Fit k (nI v) := fun i hi => by
  have h1 := pow_le8 hk
  rw [bt_nI (by omega)]
  exact Nat.testBit_lt_two_pow (Nat.lt_of_lt_of_le hv (Nat.pow_le_pow_right (by decide) hi))
theorem oh_val : ∀ c, c < 8 → oh c = nI (2 ^ c) := by decide +kernel
theorem CodeOK.colK {n k : Nat} {col : Nat → Int32} (h : CodeOK n k col) : ColK n k col := fun p hp => by
  obtain ⟨⟨v, hv, e⟩, _⟩ := h.2.2.2.2.1 p hp
  rw [e]
  exact fit_nI hv h.2.2.2.1
theorem CodeOK.colB {n k : Nat} {col : Nat → Int32} (h : CodeOK n k col) : ColB (n + k) col := fun p hp => by
  obtain ⟨h1, h2, h3, h4, h5, h6, h7⟩ := h
  by_cases e : p < n
  · obtain ⟨⟨v, hv, e2⟩, _⟩ := h5 p e
    have := pow_le8 h4
    exact ⟨v, by omega, e2⟩
  · have e2 := h6 (p - n) (by omega)
    rw [show n + (p - n) = p by omega, oh_val (p - n) (by omega)] at e2
    have h8 : 2 ^ (p - n) ≤ 2 ^ 7 := Nat.pow_le_pow_right (by decide) (by omega)
    exact ⟨2 ^ (p - n), by omega, e2⟩
theorem CodeOK.hm {n k : Nat} {col : Nat → Int32} (h : CodeOK n k col) : n + k ≤ 32 := by obtain ⟨h1, h2, h3, h4, _⟩ := h; omega
/-- columns are unlike -/
theorem CodeOK.inj {n k : Nat} {col : Nat → Int32} (h : CodeOK n k col) {p q : Nat} (hp : p < n + k) (hq : q < n + k) (e : col p = col q) : p = q := by
  obtain ⟨h1, h2, h3, h4, h5, h6, h7⟩ := h
  have hpc : ∀ c, c < k → pcn (col (n + c)) = 1 := fun c hc => by rw [h6 c hc]; exact pcn_oh (by omega)
  by_cases e1 : p < n
  · by_cases e2 : q < n
    · exact h7 p q e1 e2 e
    · have a := (h5 p e1).2.1
      have b := hpc (q - n) (by omega)
      rw [show n + (q - n) = q by omega] at b
      rw [e] at a; omega
  · by_cases e2 : q < n
    · have a := (h5 q e2).2.1
      have b := hpc (p - n) (by omega)
      rw [show n + (p - n) = p by omega] at b
      rw [← e] at a; omega
    · have a := h6 (p - n) (by omega)
      have b := h6 (q - n) (by omega)
      rw [show n + (p - n) = p by omega] at a
      rw [show n + (q - n) = q by omega] at b
      rw [a, b] at e
      have c := bt_oh (i := p - n) (by omega) (p - n)
      rw [e, bt_oh (by omega)] at c
      simp at c
      omega
/-- a class state: pairs, columns, two tables, bits, meant, stuck, syndromes, tallies -/
abbrev SV : Type := Int32 × (Nat → Int32) × (Nat → Int32) × (Nat → Int32) × (Nat → Int32) × (Nat → Int32) × (Nat → Int32) × (Nat → Int32) × (Nat → Int32)
/-- a class state beside the model's row of 121 -/
def SR (n k : Nat) (pr : Int32) (col pl prT bits mea stk syn tal al : Nat → Int32) : Prop :=
  (pr = 0 ∨ pr = 1) ∧ CodeOK n k col ∧ TabOK (n + k) col pl prT ∧ (∃ ab, RA n k al col pr bits mea stk tal ab) ∧ WI n k col mea ∧ AI n k col (bits, syn, tal)
/-- the model's sizes -/
def MB (b n k : Nat) (dat chk : Nat → Int32) : Prop := b < 2 ∧ dat b = nI n ∧ chk b = nI k
theorem CodeOK.bc {b n k : Nat} {dat chk col : Nat → Int32} (h : CodeOK n k col) (hb : MB b n k dat chk) : BC b n k dat chk col := ⟨hb.1, hb.2.1, hb.2.2, h.1, h.2.1, h.2.2.1, h.2.2.2.1, h.2.2.2.2.2.1⟩
/-! numbers in and out of a range -/
theorem rng (v : Int32) {N : Nat} (hN : N < 2 ^ 31) : (∃ j, j < N ∧ v = nI j) ∨ (v < 0 ∨ nI N ≤ v) := by
  rcases pk_ix v hN with h | h | h
  · exact Or.inr (Or.inl h)
  · exact Or.inr (Or.inr h)
  · exact Or.inl h
theorem isIn_in {F N j : Nat} (h : j < N) (hN : N < 2 ^ 31) : p_X11_isIn F (nI j) 0 (nI N - 1) = some 1 := by
  have e : nI N - 1 = nI (N - 1) := by have := nI_pred (N - 1); rw [show N - 1 + 1 = N by omega] at this; exact this
  rw [M_isIn, e, if_pos ⟨nI_ge0 (by omega), nI_le (by omega) (by omega)⟩]
theorem isIn_out {F N : Nat} {v : Int32} (h0 : 0 < N) (hN : N < 2 ^ 31) (h : v < 0 ∨ nI N ≤ v) : p_X11_isIn F v 0 (nI N - 1) = some 0 := by
  have e : nI N - 1 = nI (N - 1) := by have := nI_pred (N - 1); rw [show N - 1 + 1 = N by omega] at this; exact this
  rw [M_isIn, e, if_neg]
  rintro ⟨q1, q2⟩
  rcases h with h | h
  · rw [fa_lt] at h; rw [fa_le] at q1; omega
  · rw [fa_le, nI_toInt (by omega)] at h; rw [fa_le, nI_toInt (by omega)] at q2; omega
theorem out_neg {N : Nat} {v : Int32} (h : v < 0 ∨ nI N ≤ v) (h1 : ¬ v < 0) : nI N ≤ v := h.resolve_left h1
theorem X1_isPlace_in {F n k j : Nat} (h : j < n + k) (hm : n + k ≤ 32) : p_X1_isPlace F (nI n) (nI k) (nI j) = some 1 := by
  unfold p_X1_isPlace p_X1_places
  simp only [Option.bind_some, nI_add]
  rw [if_neg (nI_pos (by omega)), if_neg (nI_ge h (by omega))]
theorem X1_isPlace_out {F n k : Nat} {v : Int32} (h : v < 0 ∨ nI (n + k) ≤ v) : p_X1_isPlace F (nI n) (nI k) v = some 0 := by
  unfold p_X1_isPlace p_X1_places
  simp only [Option.bind_some, nI_add]
  by_cases h1 : v < 0
  · rw [if_pos h1]
  · rw [if_neg h1, if_pos (out_neg h h1)]
theorem M_isPlace_in {F b n k j : Nat} {dat chk : Nat → Int32} (hb : MB b n k dat chk) (h : j < n + k) (hm : n + k ≤ 32) : p_X11_isPlace F (nI b) dat chk (nI j) = some 1 := by
  unfold p_X11_isPlace
  rw [M_places hb.1 hb.2.1 hb.2.2]
  simp only [Option.bind_some]
  rw [isIn_in h (by omega)]
  rfl
theorem M_isPlace_out {F b n k : Nat} {dat chk : Nat → Int32} {v : Int32} (hb : MB b n k dat chk) (h0 : 0 < n + k) (hm : n + k ≤ 32) (h : v < 0 ∨ nI (n + k) ≤ v) : p_X11_isPlace F (nI b) dat chk v = some 0 := by
  unfold p_X11_isPlace
  rw [M_places hb.1 hb.2.1 hb.2.2]
  simp only [Option.bind_some]
  rw [isIn_out h0 (by omega) h]
  rfl
theorem isWord_in {F j : Nat} (h : j < 16) : p_X10_isWord F (nI j) = some 1 ∧ p_X11_isWordAt F (nI j) = some 1 := by
  constructor
  · unfold p_X10_isWord
    rw [if_neg (nI_pos (by omega)), if_neg (show ¬ (16 : Int32) ≤ nI j from nI_ge (b := 16) h (by decide))]
  · unfold p_X11_isWordAt
    rw [show (15 : Int32) = nI 16 - 1 from rfl, isIn_in h (by decide)]
    rfl
theorem isWord_out {F : Nat} {v : Int32} (h : v < 0 ∨ nI 16 ≤ v) : p_X10_isWord F v = some 0 ∧ p_X11_isWordAt F v = some 0 := by
  constructor
  · unfold p_X10_isWord
    by_cases h1 : v < 0
    · rw [if_pos h1]
    · rw [if_neg h1, if_pos (show (16 : Int32) ≤ v from out_neg h h1)]
  · unfold p_X11_isWordAt
    rw [show (15 : Int32) = nI 16 - 1 from rfl, isIn_out (by decide) (by decide) h]
    rfl
/-! queries of the state that is now -/
section Qry
variable {F b n k g a : Nat} {dat chk : Nat → Int32} {pr : Int32} {col pl prT bits mea stk syn tal al : Nat → Int32} {st : Nat → Option Nat}
theorem now_eq (ha : a < 13) (hs : st a = some g) : p_X8_now F g (nI a) st = some () := by
  unfold p_X8_now
  have c : (nI a).toNatClampNeg = a := nI_clamp (by omega)
  have g1 : ¬ ixBad (nI a) 13 := ixg ha (by decide)
  simp only [g1, c, hs, ↓reduceIte, not_true_eq_false]
theorem Q_columnOf (ha : a < 13) (hs : st a = some g) (hb : MB b n k dat chk) (h : SR n k pr col pl prT bits mea stk syn tal al) (v : Int32) : ∃ r, p_X10_columnOf F g (nI a) st (nI n) (nI k) col v = some r ∧ p_X11_columnOf F (nI b) al dat chk v = some r := by
  obtain ⟨h1, hc, ht, ⟨ab, hR⟩, hW, hI⟩ := h
  have hm := hc.hm
  have hn4 := hc.1
  unfold p_X10_columnOf p_X11_columnOf
  rw [now_eq ha hs]
  simp only [Option.bind_some]
  rcases rng v (N := n + k) (by omega) with ⟨j, hj, rfl⟩ | ho
  · have g1 : ¬ ixBad (nI j) 32 := ixg (by omega) (by decide)
    have c : (nI j).toNatClampNeg = j := nI_clamp (by omega)
    rw [X1_isPlace_in hj hm, M_isPlace_in hb hj hm, (hR.mc (hc.bc hb)).col hj]
    simp only [Option.bind_some, g1, c, ↓reduceIte]
    exact ⟨col j, rfl, rfl⟩
  · rw [X1_isPlace_out ho, M_isPlace_out hb (by omega) hm ho]
    exact ⟨-1, rfl, rfl⟩
theorem Q_find (hF : 40 < F) (ha : a < 13) (hs : st a = some g) (hb : MB b n k dat chk) (h : SR n k pr col pl prT bits mea stk syn tal al) (v w : Int32) : ∃ r, p_X10_find F g (nI a) st pl prT v w = some r ∧ p_X11_find F (nI b) al dat chk v w = some r := by
  obtain ⟨h1, hc, ht, ⟨ab, hR⟩, hW, hI⟩ := h
  unfold p_X10_find p_X11_find
  rw [now_eq ha hs, X1_placeWith hc.colB ht, X1_pairWith hc.colB ht, (hR.mc (hc.bc hb)).place hF, (hR.mc (hc.bc hb)).pair hF]
  simp only [Option.bind_some, ite_some]
  exact ⟨_, rfl, rfl⟩
theorem Q_tally (ha : a < 13) (hs : st a = some g) (h : SR n k pr col pl prT bits mea stk syn tal al) (v : Int32) : ∃ r, p_X10_tally F g (nI a) st tal v = some r ∧ p_X11_tally F al v = some r := by
  obtain ⟨h1, hc, ht, ⟨ab, hR⟩, hW, hI⟩ := h
  unfold p_X10_tally p_X11_tally
  rw [now_eq ha hs, show (7 : Int32) = nI 8 - 1 from rfl]
  rcases rng v (N := 8) (by decide) with ⟨j, hj, rfl⟩ | ho
  · have g1 : ¬ ixBad (nI j) 8 := ixg hj (by decide)
    have c : (nI j).toNatClampNeg = j := nI_clamp (by omega)
    have e : (113 : Int32) + nI j = nI (113 + j) := nI_lit 113 j
    have g2 : ¬ ixBad (nI (113 + j)) 121 := ixg (by omega) (by decide)
    have c2 : (nI (113 + j)).toNatClampNeg = 113 + j := nI_clamp (by omega)
    rw [if_neg (nI_pos (by omega)), if_neg (show ¬ (8 : Int32) ≤ nI j from nI_ge (b := 8) hj (by decide)), isIn_in hj (by decide)]
    simp only [Option.bind_some, g1, c, e, g2, c2, hR.2.2.2 j hj, ↓reduceIte]
    exact ⟨tal j, rfl, rfl⟩
  · rw [isIn_out (by decide) (by decide) ho]
    by_cases h1 : v < 0
    · rw [if_pos h1]; exact ⟨-1, rfl, rfl⟩
    · rw [if_neg h1, if_pos (show (8 : Int32) ≤ v from out_neg ho h1)]; exact ⟨-1, rfl, rfl⟩
theorem pcn_split {n : Nat} (hn : n < 32) (x : Int32) : pcn x = pcn (DD n x) + pcn (CC n x) := by
  have e1 : pcn x = fb_ct (fun i => bt x i) (n + (32 - n)) := by rw [show n + (32 - n) = 32 by omega]; rfl
  have e2 : pcn (DD n x) = fb_ct (fun i => bt x i) n := by
    have e : pcn (DD n x) = fb_ct (fun i => bt (DD n x) i) (n + (32 - n)) := by rw [show n + (32 - n) = 32 by omega]; rfl
    have z : fb_ct (fun i => bt (DD n x) (n + i)) (32 - n) = 0 := fb_ct_zero.mpr (fun i _ => by
      have : ¬ n + i < n := by omega
      rw [bt_DD hn]; simp [this])
    have y : fb_ct (fun i => bt (DD n x) i) n = fb_ct (fun i => bt x i) n := fb_ct_cong (fun i hi => by rw [bt_DD hn]; simp [hi])
    rw [e, fb_ct_split, z, y, Nat.add_zero]
  have e3 : pcn (CC n x) = fb_ct (fun i => bt x (n + i)) (32 - n) := by
    have e : pcn (CC n x) = fb_ct (fun i => bt (CC n x) i) ((32 - n) + n) := by rw [show (32 - n) + n = 32 by omega]; rfl
    have z : fb_ct (fun i => bt (CC n x) (32 - n + i)) n = 0 := fb_ct_zero.mpr (fun i _ => by rw [bt_CC hn]; exact b_big (by omega))
    have y : fb_ct (fun i => bt (CC n x) i) (32 - n) = fb_ct (fun i => bt x (n + i)) (32 - n) := fb_ct_cong (fun i hi => bt_CC hn x i)
    rw [e, fb_ct_split, z, y, Nat.add_zero]
  rw [e1, fb_ct_split, e2, e3]
theorem Q_word (hF : 40 < F) (ha : a < 13) (hs : st a = some g) (hb : MB b n k dat chk) (h : SR n k pr col pl prT bits mea stk syn tal al) (v w : Int32) : ∃ r, p_X10_word F g (nI a) st (nI n) bits mea syn v w = some r ∧ p_X11_word F (nI b) al dat v w = some r := by
  obtain ⟨h1, hc, ht, ⟨ab, hR⟩, hW, hI⟩ := h
  have hm := hc.hm
  have hn : n < 31 := by have := hc.2.1; omega
  have hk8 := hc.2.2.2.1
  unfold p_X10_word p_X11_word
  rcases rng v (N := 16) (by decide) with ⟨j, hj, rfl⟩ | ho
  · obtain ⟨q1, q2, q3, q4⟩ := hR.2.2.1 j hj
    have g1 : ¬ ixBad (nI j) 16 := ixg hj (by decide)
    have c : (nI j).toNatClampNeg = j := nI_clamp (by omega)
    have e33 : (33 : Int32) + nI j = nI (33 + j) := nI_lit 33 j
    have e49 : (49 : Int32) + nI j = nI (49 + j) := nI_lit 49 j
    have e65 : (65 : Int32) + nI j = nI (65 + j) := nI_lit 65 j
    have g33 : ¬ ixBad (nI (33 + j)) 121 := ixg (by omega) (by decide)
    have g49 : ¬ ixBad (nI (49 + j)) 121 := ixg (by omega) (by decide)
    have g65 : ¬ ixBad (nI (65 + j)) 121 := ixg (by omega) (by decide)
    have c33 : (nI (33 + j)).toNatClampNeg = 33 + j := nI_clamp (by omega)
    have c49 : (nI (49 + j)).toNatClampNeg = 49 + j := nI_clamp (by omega)
    have c65 : (nI (65 + j)).toNatClampNeg = 65 + j := nI_clamp (by omega)
    rw [(isWord_in hj).1, (isWord_in hj).2, now_eq ha hs, X1_mask hn, bitCount_eq]
    have hsy : p_X11_syndromeOf F (nI b) al dat (DD n (bits j)) (CC n (bits j)) = some (syn j) := by
      rw [(hR.mc (hc.bc hb)).synd hF (hI j hj).1]
      exact congrArg some (hI j hj).2.symm
    have hch : p_X11_checksOf F (nI b) al dat (DD n (mea j)) = some (CC n (mea j)) := by
      rw [(hR.mc (hc.bc hb)).checks hF, whole_CC (by omega) hm hk8 hc.2.2.2.2.2.1 (hW j hj).1 (hW j hj).2]
    have hpc : nI (pcn (DD n (bits j) ^^^ DD n (mea j))) + nI (pcn (CC n (bits j) ^^^ CC n (mea j))) = nI (pcn (bits j ^^^ mea j)) := by
      rw [← DD_xor, ← CC_xor (by omega), nI_add, ← pcn_split (by omega)]
    simp only [Option.bind_some, g1, c, e33, e49, e65, g33, g49, g65, c33, c49, c65, q1, q2, q3, ↓reduceIte, hsy, hch, M_ones hF, hpc, ite_some]
    exact ⟨_, rfl, rfl⟩
  · rw [(isWord_out ho).1, (isWord_out ho).2]
    exact ⟨-1, rfl, rfl⟩
end Qry
