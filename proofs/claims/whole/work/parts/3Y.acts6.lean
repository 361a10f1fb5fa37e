/-! an act that writes in part; acts on columns -/
section Act5
variable {F b n k a gc gn : Nat} {dat chk : AA} {la un pr : Int32} {col pl prT bits mea stk syn tal al was : AA} {st : Nat → Option Nat} {o : Nx}
theorem DD_part {x y m : Int32} (hn : n < 32) (hy : Fit n y) : DD n ((x &&& (m ^^^ -1)) ||| (y &&& m)) = (y &&& m) ||| (DD n x &&& (m ^^^ -1)) := b_ext fun i _ => by
  rw [bt_DD hn, b_or, b_or, b_and, b_and, b_and, bt_DD hn]
  by_cases q : i < n
  · rw [decide_eq_true q]
    cases bt x i <;> cases bt y i <;> cases bt m i <;> cases bt (m ^^^ -1) i <;> rfl
  · rw [decide_eq_false q, hy i (by omega)]
    cases bt x i <;> cases bt m i <;> cases bt (m ^^^ -1) i <;> rfl
theorem fit_val {j : Nat} (hn24 : n ≤ 24) (hj : j < 2 ^ n) : Fit n (nI j) := fun i hi => by
  have h2 : 2 ^ n ≤ 2 ^ 24 := Nat.pow_le_pow_right (by decide) hn24
  rw [bt_nI (by omega)]
  exact Nat.testBit_lt_two_pow (Nat.lt_of_lt_of_le hj (Nat.pow_le_pow_right (by decide) hi))
theorem A_part (hF : 2000 < F) (ha : a < 13) (hs : st a = some gc) (hn : st (nxA a) = some gn) (hb : MB b n k dat chk) (h : SR n k pr col pl prT bits mea stk syn tal al) (y0 y1 y2 z0 z1 z2 z3 v m x : Int32) : ∃ r a1 l1 u1 st1 o1 al1 was1 x0 x1 x2 w0 w1 w2 w3, p_X10_part F gc gn (nI a) la st y0 y1 y2 (nI n) (nI k) pr col pl prT bits mea stk syn tal o.1 o.2.1 o.2.2.1 o.2.2.2.1 o.2.2.2.2.1 o.2.2.2.2.2.1 o.2.2.2.2.2.2.1 o.2.2.2.2.2.2.2.1 o.2.2.2.2.2.2.2.2.1 o.2.2.2.2.2.2.2.2.2.1 o.2.2.2.2.2.2.2.2.2.2 v m x = some (r, a1, l1, st1, x0, x1, x2, o1) ∧ p_X11_part F (nI b) z0 z1 z2 z3 (nI a) un al dat chk was v m x = some (r, w0, w1, w2, w3, a1, u1, al1, was1) ∧ StpA n k a la un st o al was a1 l1 u1 st1 o1 al1 was1 := by
  obtain ⟨col', pl', prT', bits', mea', stk', syn', tal', hA, h', hcl, hww⟩ := X8_act (F := F) (la := la) (o := o) ha hs hn h
  have hK := M_keep hF ha un al was
  have hn24 : n ≤ 24 := h.2.1.2.1
  have hpw : 2 ^ n < 2 ^ 31 := Nat.lt_of_le_of_lt (Nat.pow_le_pow_right (by decide) hn24) (by decide)
  unfold p_X10_part p_X11_part
  rw [now_eq ha hs]
  rcases rng v (N := 16) (by decide) with ⟨w, hw, rfl⟩ | ho
  rotate_left
  · rw [(isWord_out ho).1, (isWord_out ho).2]
    simp only [Option.bind_some, ↓reduceIte]
    exact ⟨_, _, _, _, _, _, _, _, _, _, _, _, _, _, _, rfl, rfl, StpA.no⟩
  rw [(isWord_in hw).1, (isWord_in hw).2]
  simp only [Option.bind_some, i32_1_0, ↓reduceIte]
  rcases rng m (N := 2 ^ n) hpw with ⟨j1, hj1, rfl⟩ | ho
  rotate_left
  · rw [(DV_out hn24 ho hb.1 hb.2.1).1, (DV_out hn24 ho hb.1 hb.2.1).2]
    simp only [Option.bind_some, ↓reduceIte]
    exact ⟨_, _, _, _, _, _, _, _, _, _, _, _, _, _, _, rfl, rfl, StpA.no⟩
  rw [(DV_in hn24 hj1 hb.1 hb.2.1).1, (DV_in hn24 hj1 hb.1 hb.2.1).2]
  simp only [Option.bind_some, i32_1_0, ↓reduceIte]
  rcases rng x (N := 2 ^ n) hpw with ⟨j2, hj2, rfl⟩ | ho
  rotate_left
  · rw [(DV_out hn24 ho hb.1 hb.2.1).1, (DV_out hn24 ho hb.1 hb.2.1).2]
    simp only [Option.bind_some, ↓reduceIte]
    exact ⟨_, _, _, _, _, _, _, _, _, _, _, _, _, _, _, rfl, rfl, StpA.no⟩
  rw [(DV_in hn24 hj2 hb.1 hb.2.1).1, (DV_in hn24 hj2 hb.1 hb.2.1).2]
  simp only [Option.bind_some, i32_1_0, ↓reduceIte]
  have g1 : ¬ ixBad (nI w) 16 := ixg hw (by decide)
  have c1 : (nI w).toNatClampNeg = w := nI_clamp (by omega)
  obtain ⟨g_1, g_c, g_t, ⟨g_ab, g_R⟩, g_W, g_I⟩ := h
  have hbs := g_c.bc hb
  have hm := g_c.hm
  have hx := g_I w hw
  unfold p_X9_readWord
  simp only [g1, c1, ↓reduceIte]
  rw [X2_read (by omega) hm g_c.colB g_t (g_R.stk w hw) g_1, M_readWord (by omega) hbs g_R hw hx.1, ← show syn w = sy col (bits w) (n + k) from hx.2]
  obtain ⟨q, hq, eq⟩ := rdS_kind col (n + k) pr (syn w) (g_ab w).1 (g_ab w).2
  generalize rdS col (n + k) pr (syn w) (g_ab w).1 (g_ab w).2 = r at eq
  simp only [Option.bind_some, X2_told, M_isTold, rrM, ite0]
  by_cases e : r.1 = 3 ∨ r.1 = 4
  · rw [if_pos e, if_pos e]
    exact ⟨_, _, _, _, _, _, _, _, _, _, _, _, _, _, _, rfl, rfl, StpA.no⟩
  · rw [if_neg e, if_neg e, hA, hK]
    obtain ⟨h1, hc, ht, ⟨ab, hR⟩, hW, hI⟩ := h'
    have hbc := hc.bc hb
    obtain ⟨eb, em, es, ey⟩ := hww w hw
    obtain ⟨al2, hT, hR2⟩ := M_tallies (F := F) (by omega) hbc hR hW hw hq r.2.2
    rw [← eb, eq]
    simp only [Option.bind_some]
    rw [hT]
    have e65 : (65 : Int32) + nI w = nI (65 + w) := nI_lit 65 w
    have g65 : ¬ ixBad (nI (65 + w)) 121 := ixg (by omega) (by decide)
    have c65 : (nI (65 + w)).toNatClampNeg = 65 + w := nI_clamp (by omega)
    have q3 := (hR2.2.2.1 w hw).2.2.1
    simp only [Option.bind_some, e65, g65, c65, q3, ↓reduceIte]
    have hR3 : RA n k (upd al2 (65 + w) ((nI j2 &&& nI j1) ||| (DD n (mea' w) &&& (nI j1 ^^^ -1)))) col' pr bits' (upd mea' w (whI n k col' ((mea' w &&& (nI j1 ^^^ -1)) ||| (nI j2 &&& nI j1)))) stk' (tl1 tal' (nI q) r.2.2 (bits' w ^^^ mea' w)) ab :=
      hR2.meaW hm hw (by rw [wh_DD (by omega), DD_part (by omega) (fit_val hn24 hj2)])
    obtain ⟨al3, hM, hR'⟩ := M_writeWhole (F := F) (by omega) hbc hc.colK hR3 hw (((bits' w ^^^ r.2.2) &&& (nI j1 ^^^ -1)) ||| (nI j2 &&& nI j1))
    rw [DD_part (by omega) (fit_val hn24 hj2)] at hM
    rw [hM]
    have hX : p_X9_writePart F bits' mea' stk' syn' tal' (nI n) (nI k) col' (nI q) r.2.2 (nI w) (nI j1) (nI j2) = some (upd bits' w (putB (stk' w) (bits' w) (whI n k col' (((bits' w ^^^ r.2.2) &&& (nI j1 ^^^ -1)) ||| (nI j2 &&& nI j1)))), upd mea' w (whI n k col' ((mea' w &&& (nI j1 ^^^ -1)) ||| (nI j2 &&& nI j1))), upd syn' w (sy col' (putB (stk' w) (bits' w) (whI n k col' (((bits' w ^^^ r.2.2) &&& (nI j1 ^^^ -1)) ||| (nI j2 &&& nI j1)))) (n + k)), tl1 tal' (nI q) r.2.2 (bits' w ^^^ mea' w)) := by
      unfold p_X9_writePart
      rw [X9_countReading hw (ixg (by omega) (by decide))]
      simp only [Option.bind_some, g1, c1, ↓reduceIte]
      rw [X1_whole (by omega) (by omega) hm, X1_whole (by omega) (by omega) hm]
      simp only [Option.bind_some]
      rw [X9_put (by omega) hm hw]
      rfl
    rw [hX]
    simp only [Option.bind_some]
    exact ⟨_, _, _, _, _, _, _, _, _, _, _, _, _, _, _, rfl, rfl, StpA.yes ⟨rfl, rfl, h1, hc, ht, ⟨ab, hR'⟩, WI_put hW hc, AI_put hI hw (wh_fit (by omega) hc.colK) _⟩⟩
end Act5
