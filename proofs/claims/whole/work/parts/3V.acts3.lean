/-! acts that write, slip, free and storm -/
section Act2
variable {F b n k a gc gn : Nat} {dat chk : AA} {la un pr : Int32} {col pl prT bits mea stk syn tal al was : AA} {st : Nat → Option Nat} {o : Nx}
theorem DV_in {j : Nat} (hn24 : n ≤ 24) (hj : j < 2 ^ n) (hb : b < 2) (hd : dat b = nI n) : p_X1_isDataValue F (nI n) (nI j) = some 1 ∧ p_X11_isValue F (nI b) dat (nI j) = some 1 := by
  have h2 : 2 ^ n ≤ 2 ^ 24 := Nat.pow_le_pow_right (by decide) hn24
  constructor
  · unfold p_X1_isDataValue
    rw [X1_mask (by omega), if_neg (nI_pos (by omega))]
    simp only [Option.bind_some]
    rw [if_neg]
    unfold mk
    exact fun q => by rw [fa_lt, nI_toInt (by omega), nI_toInt (by omega)] at q; omega
  · unfold p_X11_isValue
    rw [M_data hb hd]
    simp only [Option.bind_some]
    rw [mk_eq n (by omega), isIn_inL (2 ^ n) (mk n) (by unfold mk; have := nI_pred (2 ^ n - 1); rw [show 2 ^ n - 1 + 1 = 2 ^ n by omega] at this; exact this.symm) hj (by omega)]
    rfl
theorem DV_out {v : Int32} (hn24 : n ≤ 24) (ho : v < 0 ∨ nI (2 ^ n) ≤ v) (hb : b < 2) (hd : dat b = nI n) : p_X1_isDataValue F (nI n) v = some 0 ∧ p_X11_isValue F (nI b) dat v = some 0 := by
  have h2 : 2 ^ n ≤ 2 ^ 24 := Nat.pow_le_pow_right (by decide) hn24
  have h1 : 1 ≤ 2 ^ n := Nat.one_le_two_pow
  constructor
  · unfold p_X1_isDataValue
    by_cases q : v < 0
    · rw [if_pos q]
    · rw [if_neg q, X1_mask (by omega)]
      simp only [Option.bind_some]
      have := out_neg ho q
      rw [if_pos]
      unfold mk
      rw [fa_le, nI_toInt (by omega)] at this
      rw [fa_lt, nI_toInt (by omega)]; omega
  · unfold p_X11_isValue
    rw [M_data hb hd]
    simp only [Option.bind_some]
    rw [mk_eq n (by omega), isIn_outL (2 ^ n) (mk n) (by unfold mk; have := nI_pred (2 ^ n - 1); rw [show 2 ^ n - 1 + 1 = 2 ^ n by omega] at this; exact this.symm) (by omega) (by omega) ho]
    rfl
theorem DD_nI {j : Nat} (hn24 : n ≤ 24) (hj : j < 2 ^ n) : DD n (nI j) = nI j := b_ext fun i hi => by
  have h2 : 2 ^ n ≤ 2 ^ 24 := Nat.pow_le_pow_right (by decide) hn24
  rw [bt_DD (by omega)]
  by_cases q : i < n
  · rw [decide_eq_true q, Bool.and_true]
  · rw [decide_eq_false q, Bool.and_false, bt_nI (by omega)]
    exact (Nat.testBit_lt_two_pow (Nat.lt_of_lt_of_le hj (Nat.pow_le_pow_right (by decide) (by omega)))).symm
theorem RA.meaW {ab : Nat → Int32 × Int32} {w : Nat} (h : RA n k al col pr bits mea stk tal ab) (hm : n + k ≤ 32) (hw : w < 16) {y x : Int32} (hx : x = DD n y) : RA n k (upd al (65 + w) x) col pr bits (upd mea w y) stk tal ab := by
  obtain ⟨r1, r2, r3, r4⟩ := h
  have ne : ∀ j, j ≠ 65 + w → upd al (65 + w) x j = al j := fun j hj => by rw [upd_at, if_neg hj]
  refine ⟨fun p hp => ?_, ?_, fun v hv => ?_, fun t ht => ?_⟩
  · rw [ne p (by omega)]; exact r1 p hp
  · rw [ne 32 (by omega)]; exact r2
  · rw [ne (33 + v) (by omega), ne (49 + v) (by omega), ne (81 + 2 * v) (by omega), ne (82 + 2 * v) (by omega)]
    obtain ⟨q1, q2, q3, q4⟩ := r3 v hv
    refine ⟨q1, q2, ?_, q4⟩
    rw [upd_at, upd_at]
    by_cases e : v = w
    · subst e; rw [if_pos rfl, if_pos rfl]; exact hx
    · rw [if_neg (by omega), if_neg e]; exact q3
  · rw [ne _ (by omega)]; exact r4 t ht
theorem AI_put {w : Nat} {x : Int32} {tal2 : AA} (h : AI n k col (bits, syn, tal)) (hw : w < 16) (hx : Fit (n + k) x) (s : Int32) : AI n k col (upd bits w (putB s (bits w) x), upd syn w (sy col (putB s (bits w) x) (n + k)), tal2) := fun v hv => by
  show Fit (n + k) (upd bits w (putB s (bits w) x) v) ∧ upd syn w (sy col (putB s (bits w) x) (n + k)) v = sy col (upd bits w (putB s (bits w) x) v) (n + k)
  rw [upd_at, upd_at]
  by_cases e : v = w
  · subst e
    rw [if_pos rfl, if_pos rfl]
    exact ⟨fit_put (h v hv).1 hx, rfl⟩
  · rw [if_neg e, if_neg e]
    exact h v hv
theorem WI_put {w : Nat} {x : Int32} (h : WI n k col mea) (hc : CodeOK n k col) : WI n k col (upd mea w (whI n k col x)) := fun v hv => by
  rw [upd_at]
  have hm := hc.hm
  have hn : n < 32 := by have := hc.2.1; omega
  by_cases e : v = w
  · rw [if_pos e]
    exact ⟨wh_fit hn hc.colK, wh_sy hn hm hc.2.2.2.1 hc.colK hc.2.2.2.2.2.1⟩
  · rw [if_neg e]; exact h v hv
theorem A_write (hF : 2000 < F) (ha : a < 13) (hs : st a = some gc) (hn : st (nxA a) = some gn) (hb : MB b n k dat chk) (h : SR n k pr col pl prT bits mea stk syn tal al) (v x : Int32) : ∃ r a1 l1 u1 st1 o1 al1 was1, p_X10_write F gc gn (nI a) la st (nI n) (nI k) pr col pl prT bits mea stk syn tal o.1 o.2.1 o.2.2.1 o.2.2.2.1 o.2.2.2.2.1 o.2.2.2.2.2.1 o.2.2.2.2.2.2.1 o.2.2.2.2.2.2.2.1 o.2.2.2.2.2.2.2.2.1 o.2.2.2.2.2.2.2.2.2.1 o.2.2.2.2.2.2.2.2.2.2 v x = some (r, a1, l1, st1, o1) ∧ p_X11_write F (nI b) (nI a) un al dat was v x = some (r, a1, u1, al1, was1) ∧ StpA n k a la un st o al was a1 l1 u1 st1 o1 al1 was1 := by
  obtain ⟨col', pl', prT', bits', mea', stk', syn', tal', hA, h', hcl, hww⟩ := X8_act (F := F) (la := la) (o := o) ha hs hn h
  have hK := M_keep hF ha un al was
  have hn24 : n ≤ 24 := h.2.1.2.1
  unfold p_X10_write p_X11_write
  rcases rng v (N := 16) (by decide) with ⟨w, hw, rfl⟩ | ho
  · rw [(isWord_in hw).1, (isWord_in hw).2, now_eq ha hs]
    simp only [Option.bind_some, i32_1_0, ↓reduceIte]
    rcases rng x (N := 2 ^ n) (Nat.lt_of_le_of_lt (Nat.pow_le_pow_right (by decide) hn24) (by decide)) with ⟨j, hj, rfl⟩ | ho
    · rw [(DV_in hn24 hj hb.1 hb.2.1).1, (DV_in hn24 hj hb.1 hb.2.1).2]
      simp only [Option.bind_some, i32_1_0, ↓reduceIte]
      rw [hA, hK]
      obtain ⟨h1, hc, ht, ⟨ab, hR⟩, hW, hI⟩ := h'
      have hbc := hc.bc hb
      have hm := hc.hm
      have e65 : (65 : Int32) + nI w = nI (65 + w) := nI_lit 65 w
      have g65 : ¬ ixBad (nI (65 + w)) 121 := ixg (by omega) (by decide)
      have c65 : (nI (65 + w)).toNatClampNeg = 65 + w := nI_clamp (by omega)
      have hR1 : RA n k (upd al (65 + w) (nI j)) col' pr bits' (upd mea' w (whI n k col' (nI j))) stk' tal' ab := hR.meaW hm hw (by rw [wh_DD (by omega), DD_nI hn24 hj])
      obtain ⟨al', hM, hR'⟩ := M_writeWhole (F := F) (by omega) hbc hc.colK hR1 hw (nI j)
      rw [DD_nI hn24 hj] at hM
      simp only [Option.bind_some]
      rw [X9_writeMeant (by omega) (by omega) hm hw]
      simp only [Option.bind_some, e65, g65, c65, hM, ↓reduceIte]
      exact ⟨_, _, _, _, _, _, _, _, rfl, rfl, StpA.yes ⟨rfl, rfl, h1, hc, ht, ⟨ab, hR'⟩, WI_put hW hc, AI_put hI hw (wh_fit (by omega) hc.colK) _⟩⟩
    · rw [(DV_out hn24 ho hb.1 hb.2.1).1, (DV_out hn24 ho hb.1 hb.2.1).2]
      simp only [Option.bind_some, ↓reduceIte]
      exact ⟨_, _, _, _, _, _, _, _, rfl, rfl, StpA.no⟩
  · rw [(isWord_out ho).1, (isWord_out ho).2]
    simp only [Option.bind_some, ↓reduceIte]
    exact ⟨_, _, _, _, _, _, _, _, rfl, rfl, StpA.no⟩
theorem A_slip (hF : 2000 < F) (ha : a < 13) (hs : st a = some gc) (hn : st (nxA a) = some gn) (hb : MB b n k dat chk) (h : SR n k pr col pl prT bits mea stk syn tal al) (v x : Int32) : ∃ r a1 l1 u1 st1 o1 al1 was1, p_X10_slip F gc gn (nI a) la st (nI n) (nI k) pr col pl prT bits mea stk syn tal o.1 o.2.1 o.2.2.1 o.2.2.2.1 o.2.2.2.2.1 o.2.2.2.2.2.1 o.2.2.2.2.2.2.1 o.2.2.2.2.2.2.2.1 o.2.2.2.2.2.2.2.2.1 o.2.2.2.2.2.2.2.2.2.1 o.2.2.2.2.2.2.2.2.2.2 v x = some (r, a1, l1, st1, o1) ∧ p_X11_slip F (nI b) (nI a) un al dat chk was v x = some (r, a1, u1, al1, was1) ∧ StpA n k a la un st o al was a1 l1 u1 st1 o1 al1 was1 := by
  obtain ⟨col', pl', prT', bits', mea', stk', syn', tal', hA, h', hcl, hww⟩ := X8_act (F := F) (la := la) (o := o) ha hs hn h
  have hK := M_keep hF ha un al was
  have hm := h.2.1.hm
  have hn4 := h.2.1.1
  unfold p_X10_slip p_X11_slip
  rcases rng v (N := 16) (by decide) with ⟨w, hw, rfl⟩ | ho
  · rw [(isWord_in hw).1, (isWord_in hw).2, now_eq ha hs]
    simp only [Option.bind_some, i32_1_0, ↓reduceIte]
    rcases rng x (N := n + k) (by omega) with ⟨p, hp, rfl⟩ | ho
    · rw [X1_isPlace_in hp hm, M_isPlace_in hb hp hm]
      simp only [Option.bind_some, i32_1_0, ↓reduceIte]
      rw [hA, hK]
      obtain ⟨h1, hc, ht, ⟨ab, hR⟩, hW, hI⟩ := h'
      have hbc := hc.bc hb
      have g1 : ¬ ixBad (nI w) 16 := ixg hw (by decide)
      have c1 : (nI w).toNatClampNeg = w := nI_clamp (by omega)
      obtain ⟨al', hM, hR'⟩ := M_slip (F := F) (z := (bits', syn', tal')) hbc hR hw hp
      have hAI : AI n k col' (slS col' (n + k) stk' w (oh p) (bits', syn', tal')) := slS_AI hm hp hI
      have hX : p_X9_slipPlaces F bits' stk' syn' tal' (nI n) (nI k) col' (nI w) (1 <<< (nI p &&& 31)) = some (slS col' (n + k) stk' w (oh p) (bits', syn', tal')) := X9_slip (by omega) hm hw
      generalize slS col' (n + k) stk' w (oh p) (bits', syn', tal') = z at hR' hAI hX
      simp only [Option.bind_some]
      rw [hX, hM]
      simp only [Option.bind_some, g1, c1, ↓reduceIte]
      rw [M_bitOf hbc hR' hw hp, bit1u _ (by omega)]
      exact ⟨_, _, _, _, _, _, _, _, rfl, rfl, StpA.yes ⟨rfl, rfl, h1, hc, ht, ⟨ab, hR'⟩, hW, hAI⟩⟩
    · rw [X1_isPlace_out ho, M_isPlace_out hb (by omega) hm ho]
      simp only [Option.bind_some, ↓reduceIte]
      exact ⟨_, _, _, _, _, _, _, _, rfl, rfl, StpA.no⟩
  · rw [(isWord_out ho).1, (isWord_out ho).2]
    simp only [Option.bind_some, ↓reduceIte]
    exact ⟨_, _, _, _, _, _, _, _, rfl, rfl, StpA.no⟩
theorem A_storm (hF : 2000 < F) (ha : a < 13) (hs : st a = some gc) (hn : st (nxA a) = some gn) (hb : MB b n k dat chk) (h : SR n k pr col pl prT bits mea stk syn tal al) (y0 y1 y2 z0 z1 z2 z3 u v w : Int32) : ∃ r a1 l1 u1 st1 o1 al1 was1 x0 x1 x2 w0 w1 w2 w3, p_X10_storm F gc gn (nI a) la st y0 y1 y2 (nI n) (nI k) pr col pl prT bits mea stk syn tal o.1 o.2.1 o.2.2.1 o.2.2.2.1 o.2.2.2.2.1 o.2.2.2.2.2.1 o.2.2.2.2.2.2.1 o.2.2.2.2.2.2.2.1 o.2.2.2.2.2.2.2.2.1 o.2.2.2.2.2.2.2.2.2.1 o.2.2.2.2.2.2.2.2.2.2 u v w = some (r, a1, l1, st1, x0, x1, x2, o1) ∧ p_X11_storm F (nI b) z0 z1 z2 z3 (nI a) un al dat chk was u v w = some (r, w0, w1, w2, w3, a1, u1, al1, was1) ∧ StpA n k a la un st o al was a1 l1 u1 st1 o1 al1 was1 := by
  obtain ⟨col', pl', prT', bits', mea', stk', syn', tal', hA, h', hcl, hww⟩ := X8_act (F := F) (la := la) (o := o) ha hs hn h
  have hK := M_keep hF ha un al was
  have hm := h.2.1.hm
  have hn4 := h.2.1.1
  unfold p_X10_storm p_X11_storm
  rw [X10_isStorm_eq, M_isStorm_eq]
  simp only [Option.bind_some, ite0]
  by_cases c1 : v < 1
  · rw [if_pos c1, if_neg (fun q => by have := q.2.1.1; rw [fa_lt] at c1; rw [fa_le] at this; omega)]
    exact ⟨_, _, _, _, _, _, _, _, _, _, _, _, _, _, _, rfl, rfl, StpA.no⟩
  · rw [if_neg c1]
    have c1' : 1 ≤ v := i32_nlt.mp c1
    by_cases c : (0 ≤ u ∧ u ≤ 9999) ∧ (0 ≤ v ∧ v ≤ 200) ∧ (0 ≤ w ∧ w ≤ 50)
    · rw [if_pos c, if_pos ⟨c.1, ⟨c1', c.2.1.2⟩, c.2.2⟩]
      obtain ⟨sd, hsd, rfl⟩ := rng_of (N := 9999) (by decide) rfl c.1
      obtain ⟨N, hN, rfl⟩ := rng_of (N := 200) (by decide) rfl c.2.1
      obtain ⟨ev, hev, rfl⟩ := rng_of (N := 50) (by decide) rfl c.2.2
      rw [hA, hK]
      obtain ⟨h1, hc, ht, ⟨ab, hR⟩, hW, hI⟩ := h'
      have hbc := hc.bc hb
      obtain ⟨y, hX⟩ := X9_storm (F := F) (N := N) (ev := ev) (sd := sd) (mea := mea') (by omega) hm (by omega) hc.colB ht h1 hR.stk (by omega) (by omega) (by omega) (bits', syn', tal') y0 y1 y2
      obtain ⟨al', w0, w1, w2, w3, hM, hRA, hAI⟩ := M_storm (F := F) (N := N) (ev := ev) (sd := sd) (z := (bits', syn', tal')) (by omega) hbc hW (by omega) (by omega) (by omega) hR hI z0 z1 z2 z3
      generalize fo (stS col' (n + k) pr stk' mea' ab ev) N 1 (sd, bits', syn', tal') = r at hX hM hRA hAI
      have hle := nmN_le r.2.1 mea'
      have e : (16 : Int32) - nI (16 - nmN r.2.1 mea') = nI (nmN r.2.1 mea') := by
        rw [show (16 : Int32) = nI 16 from rfl, nI_sub (by omega), show 16 - (16 - nmN r.2.1 mea') = nmN r.2.1 mea' by omega]
      simp only [Option.bind_some]
      rw [hX, hM]
      simp only [Option.bind_some]
      rw [X9_asMeant (by omega), M_strange (by omega) hbc hRA hW]
      simp only [Option.bind_some, e]
      exact ⟨_, _, _, _, _, _, _, _, _, _, _, _, _, _, _, rfl, rfl, StpA.yes ⟨rfl, rfl, h1, hc, ht, ⟨ab, hRA⟩, hW, hAI⟩⟩
    · rw [if_neg c, if_neg (fun q => c ⟨q.1, ⟨by have := q.2.1.1; rw [fa_le] at this ⊢; exact Int.le_trans (by decide) this, q.2.1.2⟩, q.2.2⟩)]
      exact ⟨_, _, _, _, _, _, _, _, _, _, _, _, _, _, _, rfl, rfl, StpA.no⟩
end Act2
