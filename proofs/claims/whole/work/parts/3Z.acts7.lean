/-! acts on columns -/
section Act6
variable {F b n k a gc gn : Nat} {dat chk : AA} {la un pr : Int32} {col pl prT bits mea stk syn tal al was : AA} {st : Nat → Option Nat} {o : Nx}
theorem DP_in {p : Nat} (hn4 : 4 ≤ n) (hn24 : n ≤ 24) (hp : p < n) (hb : b < 2) (hd : dat b = nI n) : p_X1_isDataPlace F (nI n) (nI p) = some 1 ∧ p_X11_isData F (nI b) dat (nI p) = some 1 := by
  constructor
  · unfold p_X1_isDataPlace
    rw [if_neg (nI_pos (by omega)), if_neg (nI_ge hp (by omega))]
  · rw [M_isData hb hd (by omega) (by omega) (by omega), if_pos hp]
theorem DP_out {v : Int32} (hn4 : 4 ≤ n) (hn24 : n ≤ 24) (ho : v < 0 ∨ nI n ≤ v) (hb : b < 2) (hd : dat b = nI n) : p_X1_isDataPlace F (nI n) v = some 0 ∧ p_X11_isData F (nI b) dat v = some 0 := by
  constructor
  · unfold p_X1_isDataPlace
    by_cases q : v < 0
    · rw [if_pos q]
    · rw [if_neg q, if_pos (out_neg ho q)]
  · unfold p_X11_isData
    rw [M_data hb hd]
    simp only [Option.bind_some]
    rw [isIn_out (by omega) (by omega) ho]
    rfl
theorem RA.recol {ab : Nat → Int32 × Int32} {al' col2 : AA} (h : RA n k al col pr bits mea stk tal ab) (e1 : ∀ p, p < n + k → al' p = col2 p) (e2 : ∀ j, 32 ≤ j → al' j = al j) : RA n k al' col2 pr bits mea stk tal ab := by
  obtain ⟨r1, r2, r3, r4⟩ := h
  refine ⟨e1, by rw [e2 32 (by omega)]; exact r2, fun v hv => ?_, fun t ht => ?_⟩
  · rw [e2 _ (by omega), e2 _ (by omega), e2 _ (by omega), e2 _ (by omega), e2 _ (by omega)]; exact r3 v hv
  · rw [e2 _ (by omega)]; exact r4 t ht
/-- all words are written anew under other columns -/
theorem anew {ab : Nat → Int32 × Int32} (hF : 40 < F) (hb : MB b n k dat chk) (h1 : pr = 0 ∨ pr = 1) (hc : CodeOK n k col) (ht : TabOK (n + k) col pl prT) (hR : RA n k al col pr bits mea stk tal ab) (hf : ∀ w, w < 16 → Fit (n + k) (bits w)) :
    ∃ al2, p_X11_writeAnew F (nI b) al dat = some al2 ∧ p_X9_writeAllAnew F bits mea stk syn (nI n) (nI k) col = some (waB n k col stk bits mea, waM n k col mea, waS n k col stk bits mea syn) ∧ SR n k pr col pl prT (waB n k col stk bits mea) (waM n k col mea) stk (waS n k col stk bits mea syn) tal al2 := by
  have hn : n < 31 := by have := hc.2.1; omega
  obtain ⟨al2, hM, hR2⟩ := M_writeAnew hF (hc.bc hb) hc.colK hR
  exact ⟨al2, hM, X9_writeAll' hF hn hc.hm, h1, hc, ht, ⟨ab, hR2⟩, waM_WI (by omega) hc.hm hc.2.2.2.1 hc.colK hc.2.2.2.2.2.1, waB_AI (by omega) hc.colK hf⟩
theorem give_ok {p : Nat} {c : Int32} (hc : CodeOK n k col) (hp : p < n) (hd : DCp k c) (he : plc col (n + k) c = -1) : CodeOK n k (upd col p c) := by
  have hm := hc.hm
  refine hc.give hp (hd.dcol hc.2.2.2.1) (fun q hq _ e => ?_)
  have := (fi_neg (p := fun p => decide (col p = c)) (n := n + k) (by omega)).mp he q (by omega)
  simp [e] at this
theorem M_colUpd {ab : Nat → Int32 × Int32} {p : Nat} {c : Int32} (hR : RA n k al col pr bits mea stk tal ab) (hp : p < n) (hm : n + k ≤ 32) : RA n k (upd al p c) (upd col p c) pr bits mea stk tal ab :=
  hR.recol (fun q hq => by rw [upd_at, upd_at, hR.1 q hq]) (fun j hj => by rw [upd_at, if_neg (by omega)])
theorem A_column (hF : 2000 < F) (ha : a < 13) (hs : st a = some gc) (hn : st (nxA a) = some gn) (hb : MB b n k dat chk) (h : SR n k pr col pl prT bits mea stk syn tal al) (v x : Int32) : ∃ r a1 l1 u1 st1 o1 al1 was1, p_X10_column F gc gn (nI a) la st (nI n) (nI k) pr col pl prT bits mea stk syn tal o.1 o.2.1 o.2.2.1 o.2.2.2.1 o.2.2.2.2.1 o.2.2.2.2.2.1 o.2.2.2.2.2.2.1 o.2.2.2.2.2.2.2.1 o.2.2.2.2.2.2.2.2.1 o.2.2.2.2.2.2.2.2.2.1 o.2.2.2.2.2.2.2.2.2.2 v x = some (r, a1, l1, st1, o1) ∧ p_X11_column F (nI b) (nI a) un al dat chk was v x = some (r, a1, u1, al1, was1) ∧ StpA n k a la un st o al was a1 l1 u1 st1 o1 al1 was1 := by
  obtain ⟨col', pl', prT', bits', mea', stk', syn', tal', hA, h', hcl, hww⟩ := X8_act (F := F) (la := la) (o := o) ha hs hn h
  have hK := M_keep hF ha un al was
  obtain ⟨g_1, g_c, g_t, ⟨g_ab, g_R⟩, g_W, g_I⟩ := h
  have hn4 := g_c.1
  have hn24 := g_c.2.1
  have hk8 := g_c.2.2.2.1
  have hm := g_c.hm
  unfold p_X10_column p_X11_column
  rw [now_eq ha hs]
  rcases rng v (N := n) (by omega) with ⟨p, hp, rfl⟩ | ho
  rotate_left
  · rw [(DP_out hn4 hn24 ho hb.1 hb.2.1).1, (DP_out hn4 hn24 ho hb.1 hb.2.1).2]
    simp only [Option.bind_some, ↓reduceIte]
    exact ⟨_, _, _, _, _, _, _, _, rfl, rfl, StpA.no⟩
  rw [(DP_in hn4 hn24 hp hb.1 hb.2.1).1, (DP_in hn4 hn24 hp hb.1 hb.2.1).2]
  simp only [Option.bind_some, i32_1_0, ↓reduceIte]
  rw [X1_isDataColumn_eq hk8, X1_placeWith g_c.colB g_t, M_isFree (by omega) hb (g_R.mc (g_c.bc hb))]
  simp only [Option.bind_some, ite0]
  by_cases hd : DCp k x
  rotate_left
  · rw [if_neg hd, if_neg (fun q => hd q.1)]
    exact ⟨_, _, _, _, _, _, _, _, rfl, rfl, StpA.no⟩
  rw [if_pos hd]
  by_cases he : plc col (n + k) x = -1
  rotate_left
  · rw [if_neg he, if_neg (fun q => he q.2)]
    exact ⟨_, _, _, _, _, _, _, _, rfl, rfl, StpA.no⟩
  rw [if_pos he, if_pos ⟨hd, he⟩, hA, hK]
  obtain ⟨h1, hc, ht, ⟨ab, hR⟩, hW, hI⟩ := h'
  obtain ⟨⟨c, hcv, rfl⟩, _⟩ := hd.dcol hk8
  have he' : plc col' (n + k) (nI c) = -1 := by rw [plc_cong (fun q hq => hcl q (by omega))]; exact he
  have hc2 := give_ok hc hp hd he'
  obtain ⟨pl2, pr2, hG, ht2⟩ := X1_give (F := F) (a2 := pl') (a3 := prT') (by omega) hm (show p < 32 by omega) hc2.colB
  obtain ⟨al2, hM, hX, hSR⟩ := anew (F := F) (syn := syn') (by omega) hb h1 hc2 ht2 (M_colUpd hR hp hm (c := nI c)) (fun w hw => (hI w hw).1)
  have g121 : ¬ ixBad (nI p) 121 := ixg (by omega) (by decide)
  have c1 : (nI p).toNatClampNeg = p := nI_clamp (by omega)
  simp only [Option.bind_some, nI_z, g121, c1, ↓reduceIte]
  rw [hG, hM]
  simp only [Option.bind_some]
  rw [hX]
  exact ⟨_, _, _, _, _, _, _, _, rfl, rfl, StpA.yes ⟨rfl, rfl, hSR⟩⟩
theorem swp_ok {p q : Nat} (h : CodeOK n k col) (hp : p < n) (hq : q < n) : CodeOK n k (swp col p q) := by
  obtain ⟨h1, h2, h3, h4, h5, h6, h7⟩ := h
  have e : ∀ j, j < n → ∃ i, i < n ∧ swp col p q j = col i ∧ i = (if j = q then p else if j = p then q else j) := fun j hj => by
    refine ⟨if j = q then p else if j = p then q else j, ?_, ?_, rfl⟩
    · by_cases e1 : j = q
      · rw [if_pos e1]; exact hp
      · rw [if_neg e1]
        by_cases e2 : j = p
        · rw [if_pos e2]; exact hq
        · rw [if_neg e2]; exact hj
    · rw [swp_at]
      by_cases e1 : j = q
      · rw [if_pos e1, if_pos e1]
      · rw [if_neg e1, if_neg e1]
        by_cases e2 : j = p
        · rw [if_pos e2, if_pos e2]
        · rw [if_neg e2, if_neg e2]
  refine ⟨h1, h2, h3, h4, fun j hj => ?_, fun x hx => ?_, fun i j hi hj ee => ?_⟩
  · obtain ⟨i, hi, e1, _⟩ := e j hj
    rw [e1]; exact h5 i hi
  · rw [swp_at, if_neg (by omega), if_neg (by omega)]; exact h6 x hx
  · obtain ⟨i', hi', e1, e2⟩ := e i hi
    obtain ⟨j', hj', e3, e4⟩ := e j hj
    rw [e1, e3] at ee
    have := h7 i' j' hi' hj' ee
    rw [e2, e4] at this
    by_cases q1 : i = q
    · rw [if_pos q1] at this
      by_cases q2 : j = q
      · omega
      · rw [if_neg q2] at this
        by_cases q3 : j = p
        · rw [if_pos q3] at this; omega
        · rw [if_neg q3] at this; omega
    · rw [if_neg q1] at this
      by_cases q2 : j = q
      · rw [if_pos q2] at this
        by_cases q3 : i = p
        · rw [if_pos q3] at this; omega
        · rw [if_neg q3] at this; omega
      · rw [if_neg q2] at this
        by_cases q3 : i = p
        · rw [if_pos q3] at this
          by_cases q4 : j = p
          · omega
          · rw [if_neg q4] at this; omega
        · rw [if_neg q3] at this
          by_cases q4 : j = p
          · rw [if_pos q4] at this; omega
          · rw [if_neg q4] at this; omega
theorem A_swap (hF : 2000 < F) (ha : a < 13) (hs : st a = some gc) (hn : st (nxA a) = some gn) (hb : MB b n k dat chk) (h : SR n k pr col pl prT bits mea stk syn tal al) (v x : Int32) : ∃ r a1 l1 u1 st1 o1 al1 was1, p_X10_swap F gc gn (nI a) la st (nI n) (nI k) pr col pl prT bits mea stk syn tal o.1 o.2.1 o.2.2.1 o.2.2.2.1 o.2.2.2.2.1 o.2.2.2.2.2.1 o.2.2.2.2.2.2.1 o.2.2.2.2.2.2.2.1 o.2.2.2.2.2.2.2.2.1 o.2.2.2.2.2.2.2.2.2.1 o.2.2.2.2.2.2.2.2.2.2 v x = some (r, a1, l1, st1, o1) ∧ p_X11_swap F (nI b) (nI a) un al dat was v x = some (r, a1, u1, al1, was1) ∧ StpA n k a la un st o al was a1 l1 u1 st1 o1 al1 was1 := by
  obtain ⟨col', pl', prT', bits', mea', stk', syn', tal', hA, h', hcl, hww⟩ := X8_act (F := F) (la := la) (o := o) ha hs hn h
  have hK := M_keep hF ha un al was
  have g_c := h.2.1
  have hn4 := g_c.1
  have hn24 := g_c.2.1
  have hm := g_c.hm
  unfold p_X10_swap p_X11_swap
  rw [now_eq ha hs]
  rcases rng v (N := n) (by omega) with ⟨p, hp, rfl⟩ | ho
  rotate_left
  · rw [(DP_out hn4 hn24 ho hb.1 hb.2.1).1, (DP_out hn4 hn24 ho hb.1 hb.2.1).2]
    simp only [Option.bind_some, ↓reduceIte]
    exact ⟨_, _, _, _, _, _, _, _, rfl, rfl, StpA.no⟩
  rw [(DP_in hn4 hn24 hp hb.1 hb.2.1).1, (DP_in hn4 hn24 hp hb.1 hb.2.1).2]
  simp only [Option.bind_some, i32_1_0, ↓reduceIte]
  rcases rng x (N := n) (by omega) with ⟨q, hq, rfl⟩ | ho
  rotate_left
  · rw [(DP_out hn4 hn24 ho hb.1 hb.2.1).1, (DP_out hn4 hn24 ho hb.1 hb.2.1).2]
    simp only [Option.bind_some, ↓reduceIte]
    exact ⟨_, _, _, _, _, _, _, _, rfl, rfl, StpA.no⟩
  rw [(DP_in hn4 hn24 hq hb.1 hb.2.1).1, (DP_in hn4 hn24 hq hb.1 hb.2.1).2]
  simp only [Option.bind_some, i32_1_0, ↓reduceIte]
  by_cases e : nI p = nI q
  · rw [if_pos e, if_pos e]
    exact ⟨_, _, _, _, _, _, _, _, rfl, rfl, StpA.no⟩
  rw [if_neg e, if_neg e, hA, hK]
  obtain ⟨h1, hc, ht, ⟨ab, hR⟩, hW, hI⟩ := h'
  have hc2 := swp_ok hc hp hq
  obtain ⟨pl2, pr2, hG, ht2⟩ := X1_exch (F := F) (a2 := pl') (a3 := prT') (by omega) hm hc.colB (show p < n + k by omega) (show q < n + k by omega)
  have hR2 : RA n k (swp al p q) (swp col' p q) pr bits' mea' stk' tal' ab := hR.recol (fun j hj => by rw [swp_at, swp_at, hR.1 j hj, hR.1 p (by omega), hR.1 q (by omega)]) (fun j hj => by rw [swp_at, if_neg (by omega), if_neg (by omega)])
  obtain ⟨al2, hM, hX, hSR⟩ := anew (F := F) (syn := syn') (by omega) hb h1 hc2 ht2 hR2 (fun w hw => (hI w hw).1)
  simp only [Option.bind_some]
  rw [hG, M_exch (by omega) (by omega)]
  simp only [Option.bind_some]
  rw [hX, hM]
  exact ⟨_, _, _, _, _, _, _, _, rfl, rfl, StpA.yes ⟨rfl, rfl, hSR⟩⟩
theorem A_better (hF : 2000 < F) (ha : a < 13) (hs : st a = some gc) (hn : st (nxA a) = some gn) (hb : MB b n k dat chk) (h : SR n k pr col pl prT bits mea stk syn tal al) (y0 y1 y2 : Int32) (A1 A2 : AA) (om cp cc cl : Int32) (ord T : AA) : ∃ r a1 l1 u1 st1 o1 al1 was1 x0 x1 x2 B1 B2 om' cp' cc' cl' ord' T', p_X10_better F gc gn (nI a) la st y0 y1 y2 A1 A2 (nI n) (nI k) pr col pl prT bits mea stk syn tal o.1 o.2.1 o.2.2.1 o.2.2.2.1 o.2.2.2.2.1 o.2.2.2.2.2.1 o.2.2.2.2.2.2.1 o.2.2.2.2.2.2.2.1 o.2.2.2.2.2.2.2.2.1 o.2.2.2.2.2.2.2.2.2.1 o.2.2.2.2.2.2.2.2.2.2 = some (r, a1, l1, st1, x0, x1, x2, B1, B2, o1) ∧ p_X11_better F (nI b) om cp cc cl (nI a) un al dat chk ord T was = some (r, om', cp', cc', cl', a1, u1, al1, ord', T', was1) ∧ StpA n k a la un st o al was a1 l1 u1 st1 o1 al1 was1 := by
  obtain ⟨col', pl', prT', bits', mea', stk', syn', tal', hA, h', hcl, hww⟩ := X8_act (F := F) (la := la) (o := o) ha hs hn h
  have hK := M_keep hF ha un al was
  obtain ⟨g_1, g_c, g_t, ⟨g_ab, g_R⟩, g_W, g_I⟩ := h
  have hn4 := g_c.1
  have hn24 := g_c.2.1
  have hk8 := g_c.2.2.2.1
  have hm := g_c.hm
  obtain ⟨bp', bo', bc', A1', A2', om', cp', cc', cl', ord', T', hor, hC, hL⟩ := seek_change (F := F) (by omega) hb g_c g_t (g_R.mc (g_c.bc hb)) y0 y1 y2 A1 A2 om cp cc cl ord T
  unfold p_X10_better p_X11_better
  rw [now_eq ha hs]
  simp only [Option.bind_some]
  rw [hC, hL]
  simp only [Option.bind_some]
  rcases hor with ⟨e1, e2, e3, e4⟩ | ⟨p, c, hp, hcv, hd, he, e1, e2, e3, e4, e5⟩
  · subst e1 e2 e3 e4
    rw [if_pos rfl, if_pos (show (-1 : Int32) < 0 by decide +kernel), if_pos rfl]
    exact ⟨_, _, _, _, _, _, _, _, _, _, _, _, _, _, _, _, _, _, _, rfl, rfl, StpA.no⟩
  · subst e1 e2 e3 e4 e5
    rw [if_neg (nI_ne_m1 (by omega)), if_neg (nI_pos (by omega)), if_neg i32_1_0, hA, hK]
    obtain ⟨h1, hc, ht, ⟨ab, hR⟩, hW, hI⟩ := h'
    have he' : plc col' (n + k) (nI c) = -1 := by rw [plc_cong (fun q hq => hcl q (by omega))]; exact he
    have hc2 := give_ok hc hp hd he'
    obtain ⟨pl2, pr2, hG, ht2⟩ := X1_give (F := F) (a2 := pl') (a3 := prT') (by omega) hm (show p < 32 by omega) hc2.colB
    obtain ⟨al2, hM, hX, hSR⟩ := anew (F := F) (syn := syn') (by omega) hb h1 hc2 ht2 (M_colUpd hR hp hm (c := nI c)) (fun w hw => (hI w hw).1)
    have g121 : ¬ ixBad (nI p) 121 := ixg (by omega) (by decide)
    have c1 : (nI p).toNatClampNeg = p := nI_clamp (by omega)
    simp only [Option.bind_some, nI_z, g121, c1, ↓reduceIte]
    rw [hG, hM]
    simp only [Option.bind_some]
    rw [hX]
    exact ⟨_, _, _, _, _, _, _, _, _, _, _, _, _, _, _, _, _, _, _, rfl, rfl, StpA.yes ⟨rfl, rfl, hSR⟩⟩
end Act6
