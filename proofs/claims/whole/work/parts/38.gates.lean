/-! gates, shared signals -/
theorem less1L {q : Nat} (h : q < 1000) : (if (0 : Int32) < nI q - 1 then nI q - 1 else 0) = nI (q - 1) := by
  rcases Nat.eq_zero_or_pos q with rfl | hp
  · decide
  · obtain ⟨p, rfl⟩ : ∃ p, q = p + 1 := ⟨q - 1, by omega⟩
    rw [nI_pred, show p + 1 - 1 = p by omega]
    rcases Nat.eq_zero_or_pos p with rfl | hp
    · decide
    · rw [if_pos (show (0 : Int32) < nI p from nI_lt (a := 0) hp (by omega))]
theorem less1M {q : Nat} (h : q < 1000) : (if (0 : Int32) ≤ nI q - 1 then nI q - 1 else 0) = nI (q - 1) := by
  rcases Nat.eq_zero_or_pos q with rfl | hp
  · decide
  · obtain ⟨p, rfl⟩ : ∃ p, q = p + 1 := ⟨q - 1, by omega⟩
    rw [nI_pred, show p + 1 - 1 = p by omega, if_pos (nI_ge0 (by omega))]
section Gat
variable {F b n k g a : Nat} {dat chk : Nat → Int32} {pr : Int32} {col pl prT bits mea stk syn tal al a1 a2 a3 a4 a5 b1 b2 b3 b4 b5 : Nat → Int32} {st : Nat → Option Nat} {τ : SGS}
theorem rowC_lt (R : Nat → Int32) (r : Nat) {s : Nat} (hs : s ≤ 108) : rowC R r s < 1000 := by
  have := fb_ct_le (fun j => bt (R j) r) s
  unfold rowC
  omega
theorem X5_plain (hF : 1000 < F) (hn : n ≤ 24) (hk : k ≤ 8) : p_X5_countPlainGates F (nI n) (nI k) col = some (fo (fun r a => a + nI (wrN col n r - 1)) k 0 0) :=
  fold_loop (fun fuel a r => p_X5_countPlainGates_L4 F (nI n) (nI k) col fuel a r) some (fun r a => a + nI (wrN col n r - 1)) (fun _ _ => True) k
    (fun fuel r a hr _ => by
      show p_X5_countPlainGates_L4b F (nI n) (nI k) col _ a (nI r) = _
      have hw := wrN_le col n r
      unfold p_X5_countPlainGates_L4b
      rw [if_neg (nI_ge hr (by omega)), X1_wires (by omega) (by omega) (by omega)]
      simp only [Option.bind_some, jlet_eq, nI_1, less1L (show wrN col n r < 1000 by omega)])
    (fun fuel a _ => by
      show p_X5_countPlainGates_L4b F (nI n) (nI k) col _ a (nI k) = _
      unfold p_X5_countPlainGates_L4b
      rw [if_pos (nI_le (Nat.le_refl _) (by omega))]) (fun _ _ _ _ => trivial) k 0 F 0 (by omega) (by omega) trivial
theorem X5_gates (hF : 1000 < F) (hk : k ≤ 8) (hI : SgI n τ) (hA : Ag n τ a1 a2 a3 a4 a5) : p_X5_countGates F (nI n) (nI k) (nI τ.1) a1 = some (fo (fun r a => a + nI (rowC τ.2.1 r τ.1 - 1)) k 0 (nI (τ.1 - n))) := by
  have hs := hI.le
  unfold p_X5_countGates p_X5_countMore
  simp only [Option.bind_some]
  rw [nI_sub hI.2.1]
  exact fold_loop (fun fuel a r => p_X5_countGates_L7 F (nI n) (nI k) (nI τ.1) a1 fuel a r) some (fun r a => a + nI (rowC τ.2.1 r τ.1 - 1)) (fun _ _ => True) k
    (fun fuel r a hr _ => by
      show p_X5_countGates_L7b F (nI n) (nI k) (nI τ.1) a1 _ a (nI r) = _
      unfold p_X5_countGates_L7b
      rw [if_neg (nI_ge hr (by omega)), X5_inRow hF hs (by omega) (fun j hj => (hA j hj).1)]
      simp only [Option.bind_some, jlet_eq, nI_1, less1L (rowC_lt τ.2.1 r hs)])
    (fun fuel a _ => by
      show p_X5_countGates_L7b F (nI n) (nI k) (nI τ.1) a1 _ a (nI k) = _
      unfold p_X5_countGates_L7b
      rw [if_pos (nI_le (Nat.le_refl _) (by omega))]) (fun _ _ _ _ => trivial) k 0 F (nI (τ.1 - n)) (by omega) (by omega) trivial
theorem gates_loop (hF : 1000 < F) (hb : MB b n k dat chk) (hk : k ≤ 8) (hI : SgI n τ) (hA : Ag n τ a1 a2 a3 a4 a5) (hB : Ag n τ b1 b2 b3 b4 b5) (v c3 : Int32) : ∀ (d r fx fm u : Nat) (S : Int32) (A B : Nat → Int32), r + d = k → d < fx → d < fm → u ≤ 97 →
    ∃ u' A' B', p_X5_deepestRow_L4 F (nI k) (nI τ.1) a1 a2 fx (nI u) (nI r) A = some (nI u', A') ∧
      p_X11_gates_L72 F (nI b) al dat chk v c3 fm (nI u) S (nI r) (nI τ.1) b1 b2 b3 b4 b5 B = some ((if v = 1 then fo (fun r a => a + nI (rowC τ.2.1 r τ.1 - 1)) d r S else if v = 2 then c3 else nI u'), nI τ.1, b1, b2, b3, b4, b5, B') := by
  have hs := hI.le
  intro d
  induction d with
  | zero =>
    intro r fx fm u S A B hr h1 h2 hu
    obtain ⟨fx, rfl⟩ : ∃ q, fx = q + 1 := ⟨fx - 1, by omega⟩
    obtain ⟨fm, rfl⟩ : ∃ q, fm = q + 1 := ⟨fm - 1, by omega⟩
    have e : r = k := by omega
    subst e
    refine ⟨u, A, B, ?_, ?_⟩
    · show p_X5_deepestRow_L4b F (nI r) (nI τ.1) a1 a2 _ (nI u) (nI r) A = _
      unfold p_X5_deepestRow_L4b
      rw [if_pos (nI_le (Nat.le_refl _) (by omega))]
    · show p_X11_gates_L72b F (nI b) al dat chk v c3 _ (nI u) S (nI r) (nI τ.1) b1 b2 b3 b4 b5 B = _
      unfold p_X11_gates_L72b
      rw [M_chk hb.1 hb.2.2]
      simp only [Option.bind_some]
      rw [if_pos (nI_le (Nat.le_refl _) (by omega))]
      by_cases c1 : v = 1
      · rw [if_pos c1, if_pos c1]; rfl
      · rw [if_neg c1, if_neg c1]
        by_cases c2 : v = 2
        · rw [if_pos c2, if_pos c2]
        · rw [if_neg c2, if_neg c2]
  | succ d ih =>
    intro r fx fm u S A B hr h1 h2 hu
    obtain ⟨fx, rfl⟩ : ∃ q, fx = q + 1 := ⟨fx - 1, by omega⟩
    obtain ⟨fm, rfl⟩ : ∃ q, fm = q + 1 := ⟨fm - 1, by omega⟩
    obtain ⟨q, A1, B1, hq, e1, e2⟩ := deep_both hF hI hA hB (show r < 32 by omega) A B
    obtain ⟨u', A', B', q1, q2⟩ := ih (r + 1) fx fm (max u q) (S + nI (rowC τ.2.1 r τ.1 - 1)) A1 B1 (by omega) (by omega) (by omega) (by omega)
    refine ⟨u', A', B', ?_, ?_⟩
    · rw [← q1]
      show p_X5_deepestRow_L4b F (nI k) (nI τ.1) a1 a2 _ (nI u) (nI r) A = _
      unfold p_X5_deepestRow_L4b
      rw [if_neg (nI_ge (by omega) (by omega)), e1]
      simp only [Option.bind_some, nI_1]
      rw [nI_maxL (by omega) (by omega)]
    · refine Eq.trans ?_ q2
      show p_X11_gates_L72b F (nI b) al dat chk v c3 _ (nI u) S (nI r) (nI τ.1) b1 b2 b3 b4 b5 B = _
      unfold p_X11_gates_L72b
      rw [M_chk hb.1 hb.2.2]
      simp only [Option.bind_some]
      rw [if_neg (nI_ge (by omega) (by omega)), M_hasMany hF hs (by omega) (fun j hj => (hB j hj).1)]
      simp only [Option.bind_some, M_more, e2, less1M (rowC_lt τ.2.1 r hs), nI_maxM (show u < 1000 by omega) (show q < 1000 by omega), nI_1]
theorem Q_gates (hF : 1000 < F) (ha : a < 13) (hs : st a = some g) (hb : MB b n k dat chk) (h : SR n k pr col pl prT bits mea stk syn tal al) (y0 y1 y2 z0 : Int32) (A1 A2 A3 A4 A5 A6 B1 B2 B3 B4 B5 B6 : Nat → Int32) (v : Int32) :
    ∃ r y z, p_X10_gates F g (nI a) st y0 y1 y2 A1 A2 A3 A4 A5 A6 (nI n) (nI k) col v = some (r, y) ∧ p_X11_gates F (nI b) z0 al dat chk B1 B2 B3 B4 B5 B6 v = some (r, z) := by
  obtain ⟨h1, hc, ht, ⟨ab, hR⟩, hW, hI⟩ := h
  have hn := hc.2.1
  have hk : k ≤ 8 := hc.2.2.2.1
  have hmc := hR.mc (hc.bc hb)
  unfold p_X10_gates p_X11_gates
  rw [now_eq ha hs]
  simp only [Option.bind_some]
  rcases rng v (N := 4) (by decide) with ⟨q, hq, rfl⟩ | hv
  · rw [cls_in 4 3 rfl hq (by decide), isIn_inL 4 3 rfl hq (by decide)]
    simp only [Option.bind_some]
    rw [if_neg i32_1_0, X5_plain hF hn hk]
    have key := fold_loop (fun fuel a r => p_X11_gates_L15 F (nI b) al dat chk (nI q) fuel a r z0 B1 B2 B3 B4 B5 B6) (fun a => p_X11_gates_L15 F (nI b) al dat chk (nI q) 1 a (nI k) z0 B1 B2 B3 B4 B5 B6) (fun r a => a + nI (wrN col n r - 1)) (fun _ _ => True) k
      (fun fuel r a hr _ => by
        show p_X11_gates_L15b F (nI b) al dat chk (nI q) _ a (nI r) z0 B1 B2 B3 B4 B5 B6 = _
        have hw := wrN_le col n r
        unfold p_X11_gates_L15b
        rw [M_chk hb.1 hb.2.2]
        simp only [Option.bind_some]
        rw [if_neg (nI_ge hr (by omega)), hmc.wires (by omega) (by omega)]
        simp only [Option.bind_some]
        rw [M_more, less1M (by omega), nI_1]
        rfl)
      (fun fuel a _ => by
        show p_X11_gates_L15b F (nI b) al dat chk (nI q) _ a (nI k) z0 B1 B2 B3 B4 B5 B6 = p_X11_gates_L15b F (nI b) al dat chk (nI q) _ a (nI k) z0 B1 B2 B3 B4 B5 B6
        unfold p_X11_gates_L15b
        rw [M_chk hb.1 hb.2.2]
        simp only [Option.bind_some]
        rw [if_pos (nI_le (Nat.le_refl _) (by omega)), if_pos (nI_le (Nat.le_refl _) (by omega))]) (fun _ _ _ _ => trivial) k 0 F 0 (by omega) (by omega) trivial
    have key2 : p_X11_gates_L15 F (nI b) al dat chk (nI q) F 0 0 z0 B1 B2 B3 B4 B5 B6 = p_X11_gates_L15b F (nI b) al dat chk (nI q) (p_X11_gates_L15 F (nI b) al dat chk (nI q) 0) (fo (fun r a => a + nI (wrN col n r - 1)) k 0 0) (nI k) z0 B1 B2 B3 B4 B5 B6 := key
    rw [key2]
    unfold p_X11_gates_L15b
    rw [M_chk hb.1 hb.2.2]
    simp only [Option.bind_some]
    rw [if_pos (nI_le (Nat.le_refl _) (by omega))]
    by_cases c0 : nI q = 0
    · rw [if_pos c0, if_pos c0]
      exact ⟨_, _, _, rfl, rfl⟩
    · rw [if_neg c0, if_neg c0]
      obtain ⟨τ, a1', a2', a3', a4', a5', b1', b2', b3', b4', b5', q1, q2, q3, q4, q5⟩ := share_both hF hb hc hmc y0 y1 y2 z0 A1 A2 A3 A4 A5 B1 B2 B3 B4 B5
      rw [q4, q5]
      simp only [Option.bind_some]
      rw [M_data hb.1 hb.2.1]
      simp only [Option.bind_some]
      rw [nI_sub q1.2.1, X5_gates hF hk q1 q2]
      obtain ⟨u', A', B', e1, e2⟩ := gates_loop (al := al) hF hb hk q1 q2 q3 (nI q) (nI (τ.1 - n)) k 0 F F 0 (nI (τ.1 - n)) A6 B6 (by omega) (by omega) (by omega) (by omega)
      have e3 : p_X5_deepestRow F (nI k) (nI τ.1) a1' a2' A6 = some (nI u', A') := e1
      have e4 : p_X11_gates_L72 F (nI b) al dat chk (nI q) (nI (τ.1 - n)) F 0 (nI (τ.1 - n)) 0 (nI τ.1) b1' b2' b3' b4' b5' B6 = _ := e2
      rw [e3, e4]
      unfold p_X5_countMore
      simp only [Option.bind_some]
      rw [nI_sub q1.2.1]
      by_cases c1 : nI q = 1
      · rw [if_pos c1, if_pos c1]; exact ⟨_, _, _, rfl, rfl⟩
      · rw [if_neg c1, if_neg c1]
        by_cases c2 : nI q = 2
        · rw [if_pos c2, if_pos c2]; exact ⟨_, _, _, rfl, rfl⟩
        · rw [if_neg c2, if_neg c2]; exact ⟨_, _, _, rfl, rfl⟩
  · rw [cls_out 4 3 rfl (by decide) (by decide) hv, isIn_outL 4 3 rfl (by decide) (by decide) hv]
    exact ⟨-1, _, _, rfl, rfl⟩
theorem Q_shared (hF : 1000 < F) (ha : a < 13) (hs : st a = some g) (hb : MB b n k dat chk) (h : SR n k pr col pl prT bits mea stk syn tal al) (y0 y1 y2 z0 : Int32) (A1 A2 A3 A4 A5 B1 B2 B3 B4 B5 : Nat → Int32) (v w : Int32) :
    ∃ r y z, p_X10_shared F g (nI a) st y0 y1 y2 A1 A2 A3 A4 A5 (nI n) (nI k) col v w = some (r, y) ∧ p_X11_shared F (nI b) z0 al dat B1 B2 B3 B4 B5 v w = some (r, z) := by
  obtain ⟨h1, hc, ht, ⟨ab, hR⟩, hW, hI⟩ := h
  have hn := hc.2.1
  have hk : k ≤ 8 := hc.2.2.2.1
  have hmc := hR.mc (hc.bc hb)
  unfold p_X10_shared p_X11_shared
  by_cases c0 : v < 0
  · rw [if_pos c0]
    rcases rng w (N := 4) (by decide) with ⟨q, hq, rfl⟩ | hv
    · rw [isIn_inL 4 3 rfl hq (by decide)]
      simp only [Option.bind_some]
      rw [if_neg i32_1_0, if_neg (i32_nle.mpr c0)]
      exact ⟨-1, _, _, rfl, rfl⟩
    · rw [isIn_outL 4 3 rfl (by decide) (by decide) hv]
      exact ⟨-1, _, _, rfl, rfl⟩
  · obtain ⟨i, hi, rfl⟩ := nI_of c0
    rw [if_neg c0]
    rcases rng w (N := 4) (by decide) with ⟨q, hq, rfl⟩ | hv
    · rw [cls_in 4 3 rfl hq (by decide), isIn_inL 4 3 rfl hq (by decide), now_eq ha hs]
      simp only [Option.bind_some]
      rw [if_neg i32_1_0, if_pos (nI_ge0 hi)]
      obtain ⟨τ, a1', a2', a3', a4', a5', b1', b2', b3', b4', b5', q1, q2, q3, q4, q5⟩ := share_both hF hb hc hmc y0 y1 y2 z0 A1 A2 A3 A4 A5 B1 B2 B3 B4 B5
      have hs := q1.le
      rw [q4, q5]
      unfold p_X5_told p_X5_countMore
      simp only [Option.bind_some]
      rw [M_data hb.1 hb.2.1]
      simp only [Option.bind_some]
      rw [if_neg c0, nI_sub q1.2.1]
      by_cases c1 : i < τ.1 - n
      · have g1 : ¬ ixBad (nI (n + i)) 128 := ixg (by omega) (by decide)
        have g2 : ¬ ixBad (nI (n + i)) 240 := ixg (by omega) (by decide)
        have c2 : (nI (n + i)).toNatClampNeg = n + i := nI_clamp (by omega)
        obtain ⟨_, x2, x3⟩ := q2 (n + i) (by omega)
        obtain ⟨x4, x5, x6⟩ := x3 (by omega)
        obtain ⟨_, w2, w3⟩ := q3 (n + i) (by omega)
        obtain ⟨w4, w5, w6⟩ := w3 (by omega)
        rw [if_pos (nI_lt c1 (by omega)), if_pos (nI_lt c1 (by omega))]
        simp only [nI_add, g1, g2, c2, ↓reduceIte, x2, x4, x5, x6, w2, w4, w5, w6, ite_some, Option.bind_some]
        rcases (show q = 0 ∨ q = 1 ∨ q = 2 ∨ q = 3 by omega) with rfl | rfl | rfl | rfl <;> exact ⟨_, _, _, rfl, rfl⟩
      · rw [if_neg (nI_nlt (by omega) (by omega)), if_neg (nI_nlt (by omega) (by omega))]
        exact ⟨-1, _, _, rfl, rfl⟩
    · rw [cls_out 4 3 rfl (by decide) (by decide) hv, isIn_outL 4 3 rfl (by decide) (by decide) hv]
      exact ⟨-1, _, _, rfl, rfl⟩
end Gat
