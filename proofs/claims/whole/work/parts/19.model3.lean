/-! the model's words beside the class's -/
def SlotA (m : Nat) (stk s0 s1 a b : Int32) : Prop :=
  (stk = 0 ∧ a = -1 ∧ b = -1 ∧ s0 = 0 ∧ s1 = 0) ∨ (∃ i, i < m ∧ stk = oh i ∧ a = nI i ∧ b = -1 ∧ s0 = nI (i + 1) ∧ s1 = 0) ∨
    ∃ i j, i < j ∧ j < m ∧ stk = oh i ||| oh j ∧ a = nI i ∧ b = nI j ∧ ((s0 = nI (i + 1) ∧ s1 = nI (j + 1)) ∨ (s0 = nI (j + 1) ∧ s1 = nI (i + 1)))
theorem SlotA.stk {m : Nat} {stk s0 s1 a b : Int32} (h : SlotA m stk s0 s1 a b) : Stk m stk a b := by
  rcases h with ⟨h1, h2, h3, _⟩ | ⟨i, h1, h2, h3, h4, _⟩ | ⟨i, j, h1, h2, h3, h4, h5, _⟩
  · exact Or.inl ⟨h1, h2, h3⟩
  · exact Or.inr (Or.inl ⟨i, h1, h2, h3, h4⟩)
  · exact Or.inr (Or.inr ⟨i, j, h1, h2, h3, h4, h5⟩)
def RA (n k : Nat) (all col : Nat → Int32) (pr : Int32) (bits mea stk tal : Nat → Int32) (ab : Nat → Int32 × Int32) : Prop :=
  (∀ p, p < n + k → all p = col p) ∧ all 32 = pr ∧ (∀ w, w < 16 → all (33 + w) = DD n (bits w) ∧ all (49 + w) = CC n (bits w) ∧ all (65 + w) = DD n (mea w) ∧ SlotA (n + k) (stk w) (all (81 + 2 * w)) (all (82 + 2 * w)) (ab w).1 (ab w).2) ∧ ∀ t, t < 8 → all (113 + t) = tal t
def BC (b n k : Nat) (dat chk col : Nat → Int32) : Prop := b < 2 ∧ dat b = nI n ∧ chk b = nI k ∧ 4 ≤ n ∧ n ≤ 24 ∧ 4 ≤ k ∧ k ≤ 8 ∧ (∀ c, c < k → col (n + c) = oh c)
theorem RA.mc {b n k : Nat} {all col dat chk : Nat → Int32} {pr : Int32} {bits mea stk tal : Nat → Int32} {ab : Nat → Int32 × Int32} (h : RA n k all col pr bits mea stk tal ab) (hb : BC b n k dat chk col) : MC b n k all dat chk col pr := by
  obtain ⟨b1, b2, b3, b4, b5, b6, b7, b8⟩ := hb
  exact ⟨b1, b2, b3, b4, b5, b6, b7, h.1, h.2.1, b8⟩
theorem RA.word {n k w : Nat} {all col : Nat → Int32} {pr : Int32} {bits mea stk tal : Nat → Int32} {ab : Nat → Int32 × Int32} (h : RA n k all col pr bits mea stk tal ab) (hm : n + k ≤ 32) (hw : w < 16) (y : Int32) {all' : Nat → Int32}
    (e1 : all' (33 + w) = DD n y) (e2 : all' (49 + w) = CC n y) (e3 : ∀ j, j ≠ 33 + w → j ≠ 49 + w → all' j = all j) : RA n k all' col pr (upd bits w y) mea stk tal ab := by
  refine ⟨fun p hp => ?_, ?_, fun v hv => ?_, fun t ht => ?_⟩
  · rw [e3 p (by omega) (by omega)]; exact h.1 p hp
  · rw [e3 32 (by omega) (by omega)]; exact h.2.1
  · obtain ⟨q1, q2, q3, q4⟩ := h.2.2.1 v hv
    rw [upd_at, e3 (65 + v) (by omega) (by omega), e3 (81 + 2 * v) (by omega) (by omega), e3 (82 + 2 * v) (by omega) (by omega)]
    by_cases e : v = w
    · subst e; rw [if_pos rfl]; exact ⟨e1, e2, q3, q4⟩
    · rw [if_neg e, e3 (33 + v) (by omega) (by omega), e3 (49 + v) (by omega) (by omega)]; exact ⟨q1, q2, q3, q4⟩
  · rw [e3 (113 + t) (by omega) (by omega)]; exact h.2.2.2 t ht
theorem RA.tally {n k t : Nat} {all col : Nat → Int32} {pr : Int32} {bits mea stk tal : Nat → Int32} {ab : Nat → Int32 × Int32} (h : RA n k all col pr bits mea stk tal ab) (hm : n + k ≤ 32) (ht : t < 8) (v : Int32) : RA n k (upd all (113 + t) v) col pr bits mea stk (upd tal t v) ab := by
  have e3 : ∀ j, j ≠ 113 + t → upd all (113 + t) v j = all j := fun j hj => by rw [upd_at, if_neg hj]
  refine ⟨fun p hp => ?_, ?_, fun w hw => ?_, fun q hq => ?_⟩
  · rw [e3 p (by omega)]; exact h.1 p hp
  · rw [e3 32 (by omega)]; exact h.2.1
  · rw [e3 _ (by omega), e3 _ (by omega), e3 _ (by omega), e3 _ (by omega), e3 _ (by omega)]; exact h.2.2.1 w hw
  · rw [upd_at, upd_at]
    by_cases e : q = t
    · subst e; rw [if_pos rfl, if_pos rfl]
    · rw [if_neg (by omega), if_neg e]; exact h.2.2.2 q hq
theorem fit_eq {n k : Nat} {x y : Int32} (hn : n < 32) (h1 : DD n x = DD n y) (h2 : CC n x = CC n y) : x = y := b_ext fun i _ => by
  by_cases h : i < n
  · have := congrArg (fun z => bt z i) h1
    simpa [bt_DD hn, h] using this
  · have := congrArg (fun z => bt z (i - n)) h2
    simp only [bt_CC hn] at this
    rwa [show n + (i - n) = i by omega] at this
theorem whole_CC {n k : Nat} {col : Nat → Int32} {x : Int32} (hn : n < 32) (hm : n + k ≤ 32) (hk8 : k ≤ 8) (hc : ∀ c, c < k → col (n + c) = oh c) (hx : Fit (n + k) x) (h0 : sy col x (n + k) = 0) : sy col (DD n x) n = CC n x := by
  rw [sy_CC hn hm hk8 hc hx] at h0
  exact xo_eq0.mp h0
def WI (n k : Nat) (col mea : Nat → Int32) : Prop := ∀ w, w < 16 → Fit (n + k) (mea w) ∧ sy col (mea w) (n + k) = 0
theorem nI_lit (a i : Nat) : (OfNat.ofNat a : Int32) + nI i = nI (a + i) := by rw [fa_lit, nI_add]
section Mod
variable {F b n k w : Nat} {all col dat chk : Nat → Int32} {pr : Int32} {bits mea stk tal : Nat → Int32} {ab : Nat → Int32 × Int32}
theorem M_stuckAt0 (hw : w < 16) : p_X11_stuckAt F all (nI w) 0 = some (all (81 + 2 * w) - 1) := by
  unfold p_X11_stuckAt
  have e : (81 : Int32) + (2 : Int32) * nI w + 0 = nI (81 + 2 * w) := by
    rw [show (81 : Int32) = nI 81 from rfl, show (2 : Int32) = nI 2 from rfl, show (0 : Int32) = nI 0 from rfl, pk_mul, nI_add, nI_add]; rfl
  have g : ¬ ixBad (nI (81 + 2 * w)) 121 := ixg (by omega) (by decide)
  simp only [e, g, ↓reduceIte]
  rw [nI_clamp (by omega)]
theorem M_stuckAt1 (hw : w < 16) : p_X11_stuckAt F all (nI w) 1 = some (all (82 + 2 * w) - 1) := by
  unfold p_X11_stuckAt
  have e : (81 : Int32) + (2 : Int32) * nI w + 1 = nI (82 + 2 * w) := by
    rw [show (81 : Int32) = nI 81 from rfl, show (2 : Int32) = nI 2 from rfl, show (1 : Int32) = nI 1 from rfl, pk_mul, nI_add, nI_add]; congr 1; omega
  have g : ¬ ixBad (nI (82 + 2 * w)) 121 := ixg (by omega) (by decide)
  simp only [e, g, ↓reduceIte]
  rw [nI_clamp (by omega)]
theorem z1m : (0 : Int32) - 1 = -1 := by decide
theorem M_bitOf (hb : BC b n k dat chk col) (h : RA n k all col pr bits mea stk tal ab) (hw : w < 16) {p : Nat} (hp : p < n + k) : p_X11_bitOf F (nI b) all dat (nI w) (nI p) = some (if bt (bits w) p = true then 1 else 0) := by
  obtain ⟨b1, b2, b3, b4, b5, b6, b7, b8⟩ := hb
  obtain ⟨q1, q2, q3, q4⟩ := h.2.2.1 w hw
  unfold p_X11_bitOf
  rw [M_isData b1 b2 (by omega) (by omega) (by omega), M_data b1 b2]
  simp only [Option.bind_some]
  have e33 : (33 : Int32) + nI w = nI (33 + w) := nI_lit 33 w
  have e49 : (49 : Int32) + nI w = nI (49 + w) := nI_lit 49 w
  have g33 : ¬ ixBad (nI (33 + w)) 121 := ixg (by omega) (by decide)
  have g49 : ¬ ixBad (nI (49 + w)) 121 := ixg (by omega) (by decide)
  simp only [e33, e49, g33, g49, ↓reduceIte]
  rw [nI_clamp (by omega), nI_clamp (by omega), q1, q2]
  by_cases h1 : p < n
  · rw [if_pos h1, if_neg (by decide), bit1s _ (by omega), bt_DD (by omega)]
    simp [h1]
  · rw [if_neg h1, if_pos rfl, nI_sub (by omega), bit1s _ (by omega), bt_CC (by omega), show n + (p - n) = p by omega]
def setb (x : Int32) (p : Nat) (v : Bool) : Int32 := if bt x p = v then x else x ^^^ oh p
theorem bt_setb {x : Int32} {p : Nat} {v : Bool} (hp : p < 32) (q : Nat) : bt (setb x p v) q = if q = p then v else bt x q := by
  unfold setb
  by_cases h : bt x p = v
  · rw [if_pos h]
    by_cases e : q = p
    · subst e; rw [if_pos rfl, h]
    · rw [if_neg e]
  · rw [if_neg h, b_xor, bt_oh hp]
    by_cases e : q = p
    · subst e; rw [if_pos rfl]; cases hb : bt x q <;> cases v <;> simp_all
    · rw [if_neg e]; simp [e]
theorem M_setBit (hb : BC b n k dat chk col) (h : RA n k all col pr bits mea stk tal ab) (hw : w < 16) {p : Nat} (hp : p < n + k) (v : Bool) : ∃ all', p_X11_setBit F (nI b) all dat (nI w) (nI p) (if v = true then 1 else 0) = some all' ∧ RA n k all' col pr (upd bits w (setb (bits w) p v)) mea stk tal ab := by
  have hbit := M_bitOf (F := F) hb h hw hp
  obtain ⟨b1, b2, b3, b4, b5, b6, b7, b8⟩ := hb
  obtain ⟨q1, q2, q3, q4⟩ := h.2.2.1 w hw
  unfold p_X11_setBit
  rw [hbit, M_isData b1 b2 (by omega) (by omega) (by omega), M_data b1 b2]
  simp only [Option.bind_some]
  have e33 : (33 : Int32) + nI w = nI (33 + w) := nI_lit 33 w
  have e49 : (49 : Int32) + nI w = nI (49 + w) := nI_lit 49 w
  have g33 : ¬ ixBad (nI (33 + w)) 121 := ixg (by omega) (by decide)
  have g49 : ¬ ixBad (nI (49 + w)) 121 := ixg (by omega) (by decide)
  simp only [e33, e49, g33, g49, ↓reduceIte]
  rw [nI_clamp (by omega), nI_clamp (by omega), q1, q2]
  by_cases hv : bt (bits w) p = v
  · refine ⟨all, ?_, ?_⟩
    · rw [hv, if_pos rfl]
    · have : upd bits w (setb (bits w) p v) = bits := by rw [setb, if_pos hv, upd_same]
      rw [this]; exact h
  · have hne : ¬ (if bt (bits w) p = true then (1 : Int32) else 0) = if v = true then 1 else 0 := by
      cases h1 : bt (bits w) p <;> cases v <;> simp_all
    rw [if_neg hne]
    have hs : setb (bits w) p v = bits w ^^^ oh p := by rw [setb, if_neg hv]
    rw [hs]
    by_cases h1 : p < n
    · rw [if_pos h1, if_neg (by decide)]
      refine ⟨_, rfl, h.word (by omega) hw _ ?_ ?_ ?_⟩
      · rw [upd_at, if_pos rfl, DD_xor, DD_oh (by omega) (by omega), if_pos h1]; rfl
      · rw [upd_at, if_neg (by omega), q2, CC_xor (by omega), CC_oh (by omega) (by omega), if_pos h1, xo_zero]
      · intro j j1 j2; rw [upd_at, if_neg j1]
    · rw [if_neg h1, if_pos rfl, nI_sub (by omega)]
      refine ⟨_, rfl, h.word (by omega) hw _ ?_ ?_ ?_⟩
      · rw [upd_at, if_neg (by omega), q1, DD_xor, DD_oh (by omega) (by omega), if_neg h1, xo_zero]
      · rw [upd_at, if_pos rfl, CC_xor (by omega), CC_oh (by omega) (by omega), if_neg h1]; rfl
      · intro j j1 j2; rw [upd_at, if_neg j2]
theorem nI_s1 (i : Nat) : nI (i + 1) - 1 = nI i := nI_pred i
theorem upd_upd {f : Nat → Int32} {i : Nat} {x y : Int32} : upd (upd f i x) i y = upd f i y := by
  funext j
  rw [upd_at, upd_at, upd_at]
  by_cases h : j = i
  · rw [if_pos h, if_pos h]
  · rw [if_neg h, if_neg h, if_neg h]
theorem M_writeBits (hb : BC b n k dat chk col) (h : RA n k all col pr bits mea stk tal ab) (hw : w < 16) (y : Int32) : ∃ all', p_X11_writeBits F (nI b) all dat (nI w) (DD n y) (CC n y) = some all' ∧ RA n k all' col pr (upd bits w (putB (stk w) (bits w) y)) mea stk tal ab := by
  have hm : n + k ≤ 32 := by obtain ⟨b1, b2, b3, b4, b5, b6, b7, b8⟩ := hb; omega
  obtain ⟨q1, q2, q3, q4⟩ := h.2.2.1 w hw
  have e33 : (33 : Int32) + nI w = nI (33 + w) := nI_lit 33 w
  have e49 : (49 : Int32) + nI w = nI (49 + w) := nI_lit 49 w
  have g33 : ¬ ixBad (nI (33 + w)) 121 := ixg (by omega) (by decide)
  have g49 : ¬ ixBad (nI (49 + w)) 121 := ixg (by omega) (by decide)
  have c33 : (nI (33 + w)).toNatClampNeg = 33 + w := nI_clamp (by omega)
  have c49 : (nI (49 + w)).toNatClampNeg = 49 + w := nI_clamp (by omega)
  have m1 : (-1 : Int32) < 0 := by decide
  have m2 : ¬ ((0 : Int32) ≤ -1) := by decide
  have h1 : RA n k (upd (upd all (33 + w) (DD n y)) (49 + w) (CC n y)) col pr (upd bits w y) mea stk tal ab :=
    h.word hm hw y (by rw [upd_at, if_neg (by omega), upd_at, if_pos rfl]) (by rw [upd_at, if_pos rfl]) (fun j j1 j2 => by rw [upd_at, if_neg j2, upd_at, if_neg j1])
  have put0 : ∀ x : Int32, putB 0 x y = y := fun x => b_ext fun i hi => by simp [putB, b_or, b_and, b_xor, b_0, b_m1 i hi]
  have put1 : ∀ (x : Int32) (i : Nat), i < 32 → putB (oh i) x y = setb y i (bt x i) := fun x i hi => b_ext fun q hq => by
    rw [bt_setb hi, putB, b_or, b_and, b_and, b_xor, b_m1 q hq, bt_oh hi]
    by_cases e : q = i
    · subst e; simp
    · simp [e]
  have put2 : ∀ (x : Int32) (i j : Nat), i ≠ j → i < 32 → j < 32 → putB (oh i ||| oh j) x y = setb (setb y i (bt x i)) j (bt x j) := fun x i j hij hi hj => b_ext fun q hq => by
    rw [bt_setb hj, bt_setb hi, putB, b_or, b_and, b_and, b_xor, b_m1 q hq, b_or, bt_oh hi, bt_oh hj]
    by_cases e1 : q = j
    · subst e1; simp
    · by_cases e2 : q = i
      · subst e2; simp [e1]
      · simp [e1, e2]
  have put2' : ∀ (x : Int32) (i j : Nat), i ≠ j → i < 32 → j < 32 → putB (oh i ||| oh j) x y = setb (setb y j (bt x j)) i (bt x i) := fun x i j hij hi hj => b_ext fun q hq => by
    rw [bt_setb hi, bt_setb hj, putB, b_or, b_and, b_and, b_xor, b_m1 q hq, b_or, bt_oh hi, bt_oh hj]
    by_cases e1 : q = j
    · subst e1
      have : ¬ q = i := fun e => hij e.symm
      simp [this]
    · by_cases e2 : q = i
      · subst e2; simp
      · simp [e1, e2]
  -- both places are set anew, in the order of the slots
  have two : ∀ (i j : Nat), i ≠ j → i < n + k → j < n + k → ∃ all', (p_X11_writeBits_J32 F (nI b) dat (nI w) (DD n y) (CC n y) (nI i) (nI j) (if bt (bits w) i = true then 1 else 0) all) = some all' ∧ RA n k all' col pr (upd bits w (setb (setb y i (bt (bits w) i)) j (bt (bits w) j))) mea stk tal ab := by
    intro i j hij hi hj
    unfold p_X11_writeBits_J32 p_X11_writeBits_J50 p_X11_writeBits_J86
    rw [if_pos (nI_ge0 (by omega)), M_bitOf hb h hw hj]
    simp only [Option.bind_some, e33, e49, g33, g49, c33, c49, ↓reduceIte]
    rw [if_neg (nI_pos (by omega))]
    obtain ⟨al2, a1, a2⟩ := M_setBit (F := F) hb h1 hw hi (bt (bits w) i)
    rw [a1]
    simp only [Option.bind_some]
    rw [if_neg (nI_pos (by omega))]
    rw [upd_upd, show upd bits w y w = y by rw [upd_at, if_pos rfl]] at a2
    obtain ⟨al3, a3, a4⟩ := M_setBit (F := F) hb a2 hw hj (bt (bits w) j)
    rw [a3]
    rw [upd_upd, show upd bits w (setb y i (bt (bits w) i)) w = setb y i (bt (bits w) i) by rw [upd_at, if_pos rfl]] at a4
    exact ⟨al3, rfl, a4⟩
  unfold p_X11_writeBits
  rw [M_stuckAt0 hw, M_stuckAt1 hw]
  simp only [Option.bind_some]
  rcases q4 with ⟨t1, t2, t3, t4, t5⟩ | ⟨i, hi, t1, t2, t3, t4, t5⟩ | ⟨i, j, hij, hj, t1, t2, t3, ⟨t4, t5⟩ | ⟨t4, t5⟩⟩
  · rw [t4, t5, z1m, if_neg m2]
    unfold p_X11_writeBits_J32 p_X11_writeBits_J50 p_X11_writeBits_J86
    simp only [m1, m2, e33, e49, g33, g49, c33, c49, ↓reduceIte]
    refine ⟨_, rfl, ?_⟩
    rw [t1, put0]
    exact h1
  · rw [t4, t5, z1m, nI_s1, if_pos (nI_ge0 (by omega)), M_bitOf hb h hw hi]
    simp only [Option.bind_some]
    unfold p_X11_writeBits_J32 p_X11_writeBits_J50 p_X11_writeBits_J86
    simp only [m1, m2, e33, e49, g33, g49, c33, c49, ↓reduceIte]
    rw [if_neg (nI_pos (by omega))]
    obtain ⟨al2, a1, a2⟩ := M_setBit (F := F) hb h1 hw hi (bt (bits w) i)
    rw [a1]
    refine ⟨al2, rfl, ?_⟩
    rw [upd_upd, show upd bits w y w = y by rw [upd_at, if_pos rfl]] at a2
    rw [t1, put1 _ _ (by omega)]
    exact a2
  · rw [t4, t5, nI_s1, nI_s1, if_pos (nI_ge0 (by omega)), M_bitOf hb h hw (by omega)]
    simp only [Option.bind_some]
    obtain ⟨al, a1, a2⟩ := two i j (by omega) (by omega) hj
    refine ⟨al, a1, ?_⟩
    rw [t1, put2 _ i j (by omega) (by omega) (by omega)]
    exact a2
  · rw [t4, t5, nI_s1, nI_s1, if_pos (nI_ge0 (by omega)), M_bitOf hb h hw hj]
    simp only [Option.bind_some]
    obtain ⟨al, a1, a2⟩ := two j i (by omega) hj (by omega)
    refine ⟨al, a1, ?_⟩
    rw [t1, put2' _ i j (by omega) (by omega) (by omega)]
    exact a2
end Mod
