/-! lines side by side: data, checks, way, pairs, none -/
section Lin2
variable {F L b : Nat} {u : Nat → Nat} {tx tm lets : AA}
theorem T2_fail {x6 x7 x8 x9 wy tl ch sj d0 d1 d2 : Int32} {A1 A2 A3 A4 : AA} {q pl : Int32} (hw : p_X3_isNumberWithin F 0 (-1) x7 x8 x9 2 4 24 1 = some (0, q, pl, 2)) : p_X3_takeToken F 0 (-1) x6 x7 x8 x9 2 wy tl ch sj (nI L) tx d0 d1 d2 A1 A2 A3 A4 = some (q, pl, 2, wy, tl, sj, d0, d1, d2, A1, A2, A3, A4) := by
  unfold p_X3_takeToken
  rw [if_neg (show ¬ (2 : Int32) = 0 by decide), if_neg (show ¬ (2 : Int32) = 1 by decide), if_pos (show (2 : Int32) = 2 from rfl), hw]
  rfl
theorem T2_ok {x6 x7 x8 x9 wy tl ch sj d0 d1 d2 : Int32} {A1 A2 A3 A4 : AA} (hw : p_X3_isNumberWithin F 0 (-1) x7 x8 x9 2 4 24 1 = some (1, 0, -1, 1)) : p_X3_takeToken F 0 (-1) x6 x7 x8 x9 2 wy tl ch sj (nI L) tx d0 d1 d2 A1 A2 A3 A4 = some (0, -1, 1, wy, tl, sj, x9, d1, d2, A1, A2, A3, A4) := by
  unfold p_X3_takeToken
  rw [if_neg (show ¬ (2 : Int32) = 0 by decide), if_neg (show ¬ (2 : Int32) = 1 by decide), if_pos (show (2 : Int32) = 2 from rfl), hw]
  rfl
theorem T3_fail {x6 x7 x8 x9 wy tl ch sj d0 d1 d2 : Int32} {A1 A2 A3 A4 : AA} {q pl : Int32} (hw : p_X3_isNumberWithin F 0 (-1) x7 x8 x9 3 4 8 1 = some (0, q, pl, 3)) : p_X3_takeToken F 0 (-1) x6 x7 x8 x9 3 wy tl ch sj (nI L) tx d0 d1 d2 A1 A2 A3 A4 = some (q, pl, 3, wy, tl, sj, d0, d1, d2, A1, A2, A3, A4) := by
  unfold p_X3_takeToken
  rw [if_neg (show ¬ (3 : Int32) = 0 by decide), if_neg (show ¬ (3 : Int32) = 1 by decide), if_neg (show ¬ (3 : Int32) = 2 by decide), if_pos (show (3 : Int32) = 3 from rfl), hw]
  rfl
theorem T3_ok {x6 x7 x8 x9 wy tl ch sj d0 d1 d2 : Int32} {A1 A2 A3 A4 : AA} (hw : p_X3_isNumberWithin F 0 (-1) x7 x8 x9 3 4 8 1 = some (1, 0, -1, 1)) : p_X3_takeToken F 0 (-1) x6 x7 x8 x9 3 wy tl ch sj (nI L) tx d0 d1 d2 A1 A2 A3 A4 = some (0, -1, 1, wy, tl, sj, d0, x9, d2, A1, A2, A3, A4) := by
  unfold p_X3_takeToken
  rw [if_neg (show ¬ (3 : Int32) = 0 by decide), if_neg (show ¬ (3 : Int32) = 1 by decide), if_neg (show ¬ (3 : Int32) = 2 by decide), if_pos (show (3 : Int32) = 3 from rfl), hw]
  rfl
theorem T5_fail {x6 x7 x8 x9 wy tl ch sj d0 d1 d2 : Int32} {A1 A2 A3 A4 : AA} {q pl : Int32} (hw : p_X3_isNumberWithin F 0 (-1) x7 x8 x9 5 0 (d0 - 1) 6 = some (0, q, pl, 5)) : p_X3_takeToken F 0 (-1) x6 x7 x8 x9 5 wy tl ch sj (nI L) tx d0 d1 d2 A1 A2 A3 A4 = some (q, pl, 5, wy, tl, sj, d0, d1, d2, A1, A2, A3, A4) := by
  unfold p_X3_takeToken
  rw [if_neg (show ¬ (5 : Int32) = 0 by decide), if_neg (show ¬ (5 : Int32) = 1 by decide), if_neg (show ¬ (5 : Int32) = 2 by decide), if_neg (show ¬ (5 : Int32) = 3 by decide), if_neg (show ¬ (5 : Int32) = 4 by decide), if_pos (show (5 : Int32) = 5 from rfl), hw]
  rfl
theorem T5_ok {x6 x7 x8 x9 wy tl ch sj d0 d1 d2 : Int32} {A1 A2 A3 A4 : AA} (hw : p_X3_isNumberWithin F 0 (-1) x7 x8 x9 5 0 (d0 - 1) 6 = some (1, 0, -1, 6)) : p_X3_takeToken F 0 (-1) x6 x7 x8 x9 5 wy tl ch sj (nI L) tx d0 d1 d2 A1 A2 A3 A4 = some (0, -1, 6, wy, tl, x9, d0, d1, d2, A1, A2, A3, A4) := by
  unfold p_X3_takeToken
  rw [if_neg (show ¬ (5 : Int32) = 0 by decide), if_neg (show ¬ (5 : Int32) = 1 by decide), if_neg (show ¬ (5 : Int32) = 2 by decide), if_neg (show ¬ (5 : Int32) = 3 by decide), if_neg (show ¬ (5 : Int32) = 4 by decide), if_pos (show (5 : Int32) = 5 from rfl), hw]
  rfl
theorem T7_fail {x6 x7 x8 x9 wy tl ch sj d0 d1 d2 : Int32} {A1 A2 A3 A4 : AA} {q pl : Int32} (hw : p_X3_isNumberWithin F 0 (-1) x7 x8 x9 7 0 15 8 = some (0, q, pl, 7)) : p_X3_takeToken F 0 (-1) x6 x7 x8 x9 7 wy tl ch sj (nI L) tx d0 d1 d2 A1 A2 A3 A4 = some (q, pl, 7, wy, tl, sj, d0, d1, d2, A1, A2, A3, A4) := by
  unfold p_X3_takeToken
  rw [if_neg (show ¬ (7 : Int32) = 0 by decide), if_neg (show ¬ (7 : Int32) = 1 by decide), if_neg (show ¬ (7 : Int32) = 2 by decide), if_neg (show ¬ (7 : Int32) = 3 by decide), if_neg (show ¬ (7 : Int32) = 4 by decide), if_neg (show ¬ (7 : Int32) = 5 by decide), if_neg (show ¬ (7 : Int32) = 6 by decide), if_pos (show (7 : Int32) = 7 from rfl), hw]
  rfl
theorem T7_ok {x6 x7 x8 x9 wy tl ch sj d0 d1 d2 : Int32} {A1 A2 A3 A4 : AA} (hw : p_X3_isNumberWithin F 0 (-1) x7 x8 x9 7 0 15 8 = some (1, 0, -1, 8)) : p_X3_takeToken F 0 (-1) x6 x7 x8 x9 7 wy tl ch sj (nI L) tx d0 d1 d2 A1 A2 A3 A4 = some (0, -1, 8, wy, tl, x9, d0, d1, d2, A1, A2, A3, A4) := by
  unfold p_X3_takeToken
  rw [if_neg (show ¬ (7 : Int32) = 0 by decide), if_neg (show ¬ (7 : Int32) = 1 by decide), if_neg (show ¬ (7 : Int32) = 2 by decide), if_neg (show ¬ (7 : Int32) = 3 by decide), if_neg (show ¬ (7 : Int32) = 4 by decide), if_neg (show ¬ (7 : Int32) = 5 by decide), if_neg (show ¬ (7 : Int32) = 6 by decide), if_pos (show (7 : Int32) = 7 from rfl), hw]
  rfl
theorem S_data (hF : 3000000 < F) (h : TP L u tx tm) (hl : LT lets) (hb : b < 2) {da0 ck0 : AA} {p i f fm : Nat} (IH : GoOnL F L b u tx tm lets da0 ck0 p) (hy : LHy L p i f fm) {J : I3} {wy tl ch sj : Int32} {Q : ChT} {d : I3} {co : CoT} {td : AA} {g : G5} {sn : Int32} {mq : MqT} {da ck mwy to : AA} (hg : MR F L u tm p g) (hP : PR b wy tl ch d co td sn da ck mwy to) (hS : Same b da ck da0 ck0) (hQ : QW L u p 0) : ResR b da0 ck0 (CL F L tx f i p J 0 wy tl ch sj Q d co td) (ML F L tm lets b fm g 0 (-1) sn ch mq da ck mwy to) := by
  have hL := h.1
  obtain ⟨y1, y2, y3, y4⟩ := hy
  have hk1 : tK L u (tJ L u p) = 1 := hQ.1
  obtain ⟨j1, j2⟩ := tJ_le (u := u) y1
  have hj : tJ L u p < L := by
    rcases Nat.lt_or_ge (tJ L u p) L with q | q
    · exact q
    · rw [tK_0.mpr q] at hk1; omega
  obtain ⟨e1, e2⟩ := tE_le (u := u) hj
  have ht0 : ¬ g.2.2.1 = 0 := by rw [hg.2.2.1, hk1]; decide
  have hno : ¬ (ch = 0 ∧ (tK L u (tJ L u p) = 0 ∨ QW L u p 7 ∨ QW L u p 8)) := fun q => q.2.elim (fun r => by omega) (fun r => r.elim (QW_ne (by decide) (by decide) hQ (by decide)) (QW_ne (by decide) (by decide) hQ (by decide)))
  obtain ⟨f, rfl⟩ : ∃ q, f = q + 4 := ⟨f - 4, by omega⟩
  obtain ⟨fm, rfl⟩ : ∃ q, fm = q + 4 := ⟨fm - 4, by omega⟩
  have hT := T_line (F := F) (x9 := nX F L u tx p J.2.2) (wy := wy) (tl := tl) (ch := ch) (sj := sj) (d0 := d.1) (d1 := d.2.1) (d2 := d.2.2) (A1 := co.1) (A2 := co.2.1) (A3 := co.2.2) (A4 := td) (by omega) h y1
  rw [if_pos hQ] at hT
  unfold tellC at hT
  obtain ⟨n, k, w, t, n1, n2, k1, k2, w3, t16, p1, p2, p3, p4, p5, p6, p7, p8, p9, ⟨s0, s1, s2, s6⟩, pc, pcode, ptd, pz⟩ := id hP
  obtain ⟨tt1, tt2, tt3, tt4, to1, to2, to3, to4, tz1, tz2, tz3, tz4⟩ := tl_tab t t16
  have tb := tb_tab t t16
  have oB : ∀ w' x, w' < 32 → bt (sn ||| oh w') x = (bt sn x || decide (x = w')) := fun w' x hw' => by rw [b_or, bt_oh hw']
  by_cases c : ch = 0 ∧ tl &&& 1 = 0
  ·
    rw [if_pos c] at hT
    have c0 := c.1
    have hok : bt sn 0 = false := by
      rw [← s0]
      have := c.2
      rw [p9] at this
      exact tt1.mp this
    obtain ⟨g1, hg1, ho⟩ := (M_isOnce (w := 0) (c := 0) (by omega) h hl y1 (by decide) hg (-1) sn ch rfl).2 hok c0
    rw [C_head (d' := d) (co' := co) (by omega) h y1 (by omega) (by omega) hno hT]
    have hp1 : tE L u (tJ L u p) ≤ L := e2
    obtain ⟨jj1, jj2⟩ := tJ_le (u := u) hp1
    show ResR b da0 ck0 (CL F L tx (f + 3) (i + 1) (tE L u (tJ L u p)) (nI (tJ L u p), nI (tK L u (tJ L u p)), nX F L u tx p J.2.2) 2 wy (tl ||| 1) ch sj Q d co td) _
    rcases N_both (lo := 4) (hi := 24) (loI := 4) (hiI := 24) (by omega) h hl hp1 (by decide) (by decide) hg1 (-1) (nX F L u tx p J.2.2) 2 1 rfl rfl with ⟨q, x, q1, q4, q0, hw, hm⟩ | ⟨v, g2, v1, v2, kd2, ex, hw, hg2, hm⟩
    · refine Or.inl ⟨q, _, q1, q4, C_fault (d' := d) (co' := co) (by omega) h hp1 (by omega) q1 q4 q0 (by decide) (T2_fail hw), _, _, _, _, _, _, _, _, M_line_fail (by omega) hb q1 q4 ht0 (RL_data_num (g2 := g1) hb hg hQ ho hm), fun c' hc' => ?_⟩
      obtain ⟨r1, r2⟩ := hS c' hc'
      refine ⟨?_, ?_⟩
      · first | exact r1 | (rw [upd_at, if_neg hc']; exact r1)
      · first | exact r2 | (rw [upd_at, if_neg hc']; exact r2)
    · have hj1 : tJ L u (tE L u (tJ L u p)) < L := by
        rcases Nat.lt_or_ge (tJ L u (tE L u (tJ L u p))) L with q | q
        · exact q
        · rw [tK_0.mpr q] at kd2; omega
      obtain ⟨ee1, ee2⟩ := tE_le (u := u) hj1
      rw [show f + 3 = (f + 2) + 1 from rfl, X3_go (d' := (nI v, d.2.1, d.2.2)) (co' := co) (by omega) h hp1 (by omega) (by omega) (X3_noHead (by decide)) (by
        have hTk := T2_ok (F := F) (L := L) (tx := tx) (x6 := nI (tE L u (tJ L u (tE L u (tJ L u p))))) (wy := wy) (tl := tl ||| 1) (ch := ch) (sj := sj) (d0 := d.1) (d1 := d.2.1) (d2 := d.2.2) (A1 := co.1) (A2 := co.2.1) (A3 := co.2.2) (A4 := td) hw
        rw [ex] at hTk
        rw [ex]
        exact hTk)]
      refine S_sign (by omega) h hl hb IH (p := tE L u (tJ L u (tE L u (tJ L u p)))) (i := i + 1 + 1) (f := f + 2) (fm := fm + 4) (J := (nI (tJ L u (tE L u (tJ L u p))), nI (tK L u (tJ L u (tE L u (tJ L u p)))), nX F L u tx (tE L u (tJ L u p)) (nX F L u tx p J.2.2))) (d := (nI v, d.2.1, d.2.2)) (co := co) (by omega) ⟨ee2, by omega, by omega, by omega⟩ ht0 (RL_data_num hb hg hQ ho hm) hg2 ?_ ?_
      · refine ⟨v, k, w, t ||| 1, by omega, by omega, by omega, by omega, w3, tz1, rfl, by rw [upd_at, if_pos rfl], p3, p4, p5, p6, p7, p8, by rw [p9]; exact to1, ⟨?_, ?_, ?_, ?_⟩, pc, fun hc1 => ?_, fun w' hw' => ?_, pz⟩
        · rw [(tb 0 (by decide)).1, oB 0 0 (by decide), s0] <;> rfl
        · rw [(tb 1 (by decide)).1, oB 0 1 (by decide), s1] <;> rfl
        · rw [(tb 2 (by decide)).1, oB 0 2 (by decide), s2] <;> rfl
        · rw [(tb 3 (by decide)).1, oB 0 6 (by decide), s6] <;> rfl
        · rw [c0] at hc1; exact absurd hc1 (by decide)
        · obtain ⟨v', r1, r2, r3, r4⟩ := ptd w' hw'
          have r5 := r4 c0
          subst r5
          exact ⟨0, Nat.two_pow_pos _, r2, r3, fun _ => rfl⟩
      · intro c' hc'
        obtain ⟨r1, r2⟩ := hS c' hc'
        refine ⟨?_, ?_⟩
        · first | exact r1 | (rw [upd_at, if_neg hc']; exact r1)
        · first | exact r2 | (rw [upd_at, if_neg hc']; exact r2)
  ·
    rw [if_neg c] at hT
    have hfail : bt sn 0 = true ∨ ¬ ch = 0 := by
      by_cases c0 : ch = 0
      · left
        rw [← s0]
        cases hq : t.testBit 0
        · exact absurd ⟨c0, by rw [p9]; exact tt1.mpr hq⟩ c
        · rfl
      · exact Or.inr c0
    have ho := (M_isOnce (w := 0) (c := 0) (by omega) h hl y1 (by decide) hg (-1) sn ch rfl).1 hfail
    refine Or.inl ⟨3, tJ L u p, by omega, by omega, ?_, _, _, _, _, _, _, _, _, M_line_fail (by omega) hb (by omega) (by omega) ht0 (RL_data_fail hg hQ ho), hS⟩
    unfold CF
    rw [C_head (d' := d) (co' := co) (by omega) h y1 (by omega) (by omega) hno hT]
    exact X3_stop (by omega) (by omega)
theorem S_checks (hF : 3000000 < F) (h : TP L u tx tm) (hl : LT lets) (hb : b < 2) {da0 ck0 : AA} {p i f fm : Nat} (IH : GoOnL F L b u tx tm lets da0 ck0 p) (hy : LHy L p i f fm) {J : I3} {wy tl ch sj : Int32} {Q : ChT} {d : I3} {co : CoT} {td : AA} {g : G5} {sn : Int32} {mq : MqT} {da ck mwy to : AA} (hg : MR F L u tm p g) (hP : PR b wy tl ch d co td sn da ck mwy to) (hS : Same b da ck da0 ck0) (hQ : QW L u p 1) : ResR b da0 ck0 (CL F L tx f i p J 0 wy tl ch sj Q d co td) (ML F L tm lets b fm g 0 (-1) sn ch mq da ck mwy to) := by
  have hL := h.1
  obtain ⟨y1, y2, y3, y4⟩ := hy
  have hk1 : tK L u (tJ L u p) = 1 := hQ.1
  obtain ⟨j1, j2⟩ := tJ_le (u := u) y1
  have hj : tJ L u p < L := by
    rcases Nat.lt_or_ge (tJ L u p) L with q | q
    · exact q
    · rw [tK_0.mpr q] at hk1; omega
  obtain ⟨e1, e2⟩ := tE_le (u := u) hj
  have ht0 : ¬ g.2.2.1 = 0 := by rw [hg.2.2.1, hk1]; decide
  have hno : ¬ (ch = 0 ∧ (tK L u (tJ L u p) = 0 ∨ QW L u p 7 ∨ QW L u p 8)) := fun q => q.2.elim (fun r => by omega) (fun r => r.elim (QW_ne (by decide) (by decide) hQ (by decide)) (QW_ne (by decide) (by decide) hQ (by decide)))
  obtain ⟨f, rfl⟩ : ∃ q, f = q + 4 := ⟨f - 4, by omega⟩
  obtain ⟨fm, rfl⟩ : ∃ q, fm = q + 4 := ⟨fm - 4, by omega⟩
  have hT := T_line (F := F) (x9 := nX F L u tx p J.2.2) (wy := wy) (tl := tl) (ch := ch) (sj := sj) (d0 := d.1) (d1 := d.2.1) (d2 := d.2.2) (A1 := co.1) (A2 := co.2.1) (A3 := co.2.2) (A4 := td) (by omega) h y1
  rw [if_neg (QW_ne (by decide) (by decide) hQ (show 1 ≠ 0 by decide)), if_pos hQ] at hT
  unfold tellC at hT
  obtain ⟨n, k, w, t, n1, n2, k1, k2, w3, t16, p1, p2, p3, p4, p5, p6, p7, p8, p9, ⟨s0, s1, s2, s6⟩, pc, pcode, ptd, pz⟩ := id hP
  obtain ⟨tt1, tt2, tt3, tt4, to1, to2, to3, to4, tz1, tz2, tz3, tz4⟩ := tl_tab t t16
  have tb := tb_tab t t16
  have oB : ∀ w' x, w' < 32 → bt (sn ||| oh w') x = (bt sn x || decide (x = w')) := fun w' x hw' => by rw [b_or, bt_oh hw']
  by_cases c : ch = 0 ∧ tl &&& 2 = 0
  ·
    rw [if_pos c] at hT
    have c0 := c.1
    have hok : bt sn 1 = false := by
      rw [← s1]
      have := c.2
      rw [p9] at this
      exact tt2.mp this
    obtain ⟨g1, hg1, ho⟩ := (M_isOnce (w := 1) (c := 1) (by omega) h hl y1 (by decide) hg (-1) sn ch rfl).2 hok c0
    rw [C_head (d' := d) (co' := co) (by omega) h y1 (by omega) (by omega) hno hT]
    have hp1 : tE L u (tJ L u p) ≤ L := e2
    obtain ⟨jj1, jj2⟩ := tJ_le (u := u) hp1
    show ResR b da0 ck0 (CL F L tx (f + 3) (i + 1) (tE L u (tJ L u p)) (nI (tJ L u p), nI (tK L u (tJ L u p)), nX F L u tx p J.2.2) 3 wy (tl ||| 2) ch sj Q d co td) _
    rcases N_both (lo := 4) (hi := 8) (loI := 4) (hiI := 8) (by omega) h hl hp1 (by decide) (by decide) hg1 (-1) (nX F L u tx p J.2.2) 3 1 rfl rfl with ⟨q, x, q1, q4, q0, hw, hm⟩ | ⟨v, g2, v1, v2, kd2, ex, hw, hg2, hm⟩
    · refine Or.inl ⟨q, _, q1, q4, C_fault (d' := d) (co' := co) (by omega) h hp1 (by omega) q1 q4 q0 (by decide) (T3_fail hw), _, _, _, _, _, _, _, _, M_line_fail (by omega) hb q1 q4 ht0 (RL_checks_num (g2 := g1) hb hg hQ ho hm), fun c' hc' => ?_⟩
      obtain ⟨r1, r2⟩ := hS c' hc'
      refine ⟨?_, ?_⟩
      · first | exact r1 | (rw [upd_at, if_neg hc']; exact r1)
      · first | exact r2 | (rw [upd_at, if_neg hc']; exact r2)
    · have hj1 : tJ L u (tE L u (tJ L u p)) < L := by
        rcases Nat.lt_or_ge (tJ L u (tE L u (tJ L u p))) L with q | q
        · exact q
        · rw [tK_0.mpr q] at kd2; omega
      obtain ⟨ee1, ee2⟩ := tE_le (u := u) hj1
      rw [show f + 3 = (f + 2) + 1 from rfl, X3_go (d' := (d.1, nI v, d.2.2)) (co' := co) (by omega) h hp1 (by omega) (by omega) (X3_noHead (by decide)) (by
        have hTk := T3_ok (F := F) (L := L) (tx := tx) (x6 := nI (tE L u (tJ L u (tE L u (tJ L u p))))) (wy := wy) (tl := tl ||| 2) (ch := ch) (sj := sj) (d0 := d.1) (d1 := d.2.1) (d2 := d.2.2) (A1 := co.1) (A2 := co.2.1) (A3 := co.2.2) (A4 := td) hw
        rw [ex] at hTk
        rw [ex]
        exact hTk)]
      refine S_sign (by omega) h hl hb IH (p := tE L u (tJ L u (tE L u (tJ L u p)))) (i := i + 1 + 1) (f := f + 2) (fm := fm + 4) (J := (nI (tJ L u (tE L u (tJ L u p))), nI (tK L u (tJ L u (tE L u (tJ L u p)))), nX F L u tx (tE L u (tJ L u p)) (nX F L u tx p J.2.2))) (d := (d.1, nI v, d.2.2)) (co := co) (by omega) ⟨ee2, by omega, by omega, by omega⟩ ht0 (RL_checks_num hb hg hQ ho hm) hg2 ?_ ?_
      · refine ⟨n, v, w, t ||| 2, by omega, by omega, by omega, by omega, w3, tz2, p1, p2, rfl, by rw [upd_at, if_pos rfl], p5, p6, p7, p8, by rw [p9]; exact to2, ⟨?_, ?_, ?_, ?_⟩, pc, fun hc1 => ?_, fun w' hw' => ?_, pz⟩
        · rw [(tb 0 (by decide)).2.1, oB 1 0 (by decide), s0] <;> rfl
        · rw [(tb 1 (by decide)).2.1, oB 1 1 (by decide), s1] <;> rfl
        · rw [(tb 2 (by decide)).2.1, oB 1 2 (by decide), s2] <;> rfl
        · rw [(tb 3 (by decide)).2.1, oB 1 6 (by decide), s6] <;> rfl
        · rw [c0] at hc1; exact absurd hc1 (by decide)
        · obtain ⟨v', r1, r2, r3, r4⟩ := ptd w' hw'
          have r5 := r4 c0
          subst r5
          exact ⟨0, Nat.two_pow_pos _, r2, r3, fun _ => rfl⟩
      · intro c' hc'
        obtain ⟨r1, r2⟩ := hS c' hc'
        refine ⟨?_, ?_⟩
        · first | exact r1 | (rw [upd_at, if_neg hc']; exact r1)
        · first | exact r2 | (rw [upd_at, if_neg hc']; exact r2)
  ·
    rw [if_neg c] at hT
    have hfail : bt sn 1 = true ∨ ¬ ch = 0 := by
      by_cases c0 : ch = 0
      · left
        rw [← s1]
        cases hq : t.testBit 1
        · exact absurd ⟨c0, by rw [p9]; exact tt2.mpr hq⟩ c
        · rfl
      · exact Or.inr c0
    have ho := (M_isOnce (w := 1) (c := 1) (by omega) h hl y1 (by decide) hg (-1) sn ch rfl).1 hfail
    refine Or.inl ⟨3, tJ L u p, by omega, by omega, ?_, _, _, _, _, _, _, _, _, M_line_fail (by omega) hb (by omega) (by omega) ht0 (RL_checks_fail hg hQ ho), hS⟩
    unfold CF
    rw [C_head (d' := d) (co' := co) (by omega) h y1 (by omega) (by omega) hno hT]
    exact X3_stop (by omega) (by omega)
theorem S_pairs (hF : 3000000 < F) (h : TP L u tx tm) (hl : LT lets) (hb : b < 2) {da0 ck0 : AA} {p i f fm : Nat} (IH : GoOnL F L b u tx tm lets da0 ck0 p) (hy : LHy L p i f fm) {J : I3} {wy tl ch sj : Int32} {Q : ChT} {d : I3} {co : CoT} {td : AA} {g : G5} {sn : Int32} {mq : MqT} {da ck mwy to : AA} (hg : MR F L u tm p g) (hP : PR b wy tl ch d co td sn da ck mwy to) (hS : Same b da ck da0 ck0) (hQ : QW L u p 6) : ResR b da0 ck0 (CL F L tx f i p J 0 wy tl ch sj Q d co td) (ML F L tm lets b fm g 0 (-1) sn ch mq da ck mwy to) := by
  have hL := h.1
  obtain ⟨y1, y2, y3, y4⟩ := hy
  have hk1 : tK L u (tJ L u p) = 1 := hQ.1
  obtain ⟨j1, j2⟩ := tJ_le (u := u) y1
  have hj : tJ L u p < L := by
    rcases Nat.lt_or_ge (tJ L u p) L with q | q
    · exact q
    · rw [tK_0.mpr q] at hk1; omega
  obtain ⟨e1, e2⟩ := tE_le (u := u) hj
  have ht0 : ¬ g.2.2.1 = 0 := by rw [hg.2.2.1, hk1]; decide
  have hno : ¬ (ch = 0 ∧ (tK L u (tJ L u p) = 0 ∨ QW L u p 7 ∨ QW L u p 8)) := fun q => q.2.elim (fun r => by omega) (fun r => r.elim (QW_ne (by decide) (by decide) hQ (by decide)) (QW_ne (by decide) (by decide) hQ (by decide)))
  obtain ⟨f, rfl⟩ : ∃ q, f = q + 4 := ⟨f - 4, by omega⟩
  obtain ⟨fm, rfl⟩ : ∃ q, fm = q + 4 := ⟨fm - 4, by omega⟩
  have hT := T_line (F := F) (x9 := nX F L u tx p J.2.2) (wy := wy) (tl := tl) (ch := ch) (sj := sj) (d0 := d.1) (d1 := d.2.1) (d2 := d.2.2) (A1 := co.1) (A2 := co.2.1) (A3 := co.2.2) (A4 := td) (by omega) h y1
  rw [if_neg (QW_ne (by decide) (by decide) hQ (show 6 ≠ 0 by decide)), if_neg (QW_ne (by decide) (by decide) hQ (show 6 ≠ 1 by decide)), if_neg (QW_ne (by decide) (by decide) hQ (show 6 ≠ 2 by decide)), if_pos hQ] at hT
  unfold tellC at hT
  obtain ⟨n, k, w, t, n1, n2, k1, k2, w3, t16, p1, p2, p3, p4, p5, p6, p7, p8, p9, ⟨s0, s1, s2, s6⟩, pc, pcode, ptd, pz⟩ := id hP
  obtain ⟨tt1, tt2, tt3, tt4, to1, to2, to3, to4, tz1, tz2, tz3, tz4⟩ := tl_tab t t16
  have tb := tb_tab t t16
  have oB : ∀ w' x, w' < 32 → bt (sn ||| oh w') x = (bt sn x || decide (x = w')) := fun w' x hw' => by rw [b_or, bt_oh hw']
  by_cases c : ch = 0 ∧ tl &&& 8 = 0
  ·
    rw [if_pos c] at hT
    have c0 := c.1
    have hok : bt sn 6 = false := by
      rw [← s6]
      have := c.2
      rw [p9] at this
      exact tt4.mp this
    obtain ⟨g1, hg1, ho⟩ := (M_isOnce (w := 6) (c := 6) (by omega) h hl y1 (by decide) hg (-1) sn ch rfl).2 hok c0
    rw [C_head (d' := (d.1, d.2.1, 1)) (co' := co) (by omega) h y1 (by omega) (by omega) hno hT]
    refine S_sign (by omega) h hl hb IH (p := tE L u (tJ L u p)) (i := i + 1) (f := f + 3) (fm := fm + 4) (J := (nI (tJ L u p), nI (tK L u (tJ L u p)), nX F L u tx p J.2.2)) (d := (d.1, d.2.1, 1)) (co := co) (by omega) ⟨e2, by omega, by omega, by omega⟩ ht0 (RL_pairs_ok hb hg hQ ho) hg1 ?_ hS
    refine ⟨n, k, w, t ||| 8, n1, n2, k1, k2, w3, tz4, p1, p2, p3, p4, Or.inr rfl, by rw [upd_at, if_pos rfl], p7, p8, by rw [p9]; exact to4, ⟨?_, ?_, ?_, ?_⟩, pc, fun hc1 => ?_, fun w' hw' => ?_, fun x x1 x2 => ?_⟩
    · rw [(tb 0 (by decide)).2.2.2, oB 6 0 (by decide), s0] <;> rfl
    · rw [(tb 1 (by decide)).2.2.2, oB 6 1 (by decide), s1] <;> rfl
    · rw [(tb 2 (by decide)).2.2.2, oB 6 2 (by decide), s2] <;> rfl
    · rw [(tb 3 (by decide)).2.2.2, oB 6 6 (by decide), s6] <;> rfl
    · rw [c0] at hc1; exact absurd hc1 (by decide)
    · obtain ⟨v', r1, r2, r3, r4⟩ := ptd w' hw'
      exact ⟨v', r1, r2, by rw [upd_at, if_neg (by omega)]; exact r3, r4⟩
    · rw [upd_at, if_neg (by omega)]; exact pz x x1 x2
  ·
    rw [if_neg c] at hT
    have hfail : bt sn 6 = true ∨ ¬ ch = 0 := by
      by_cases c0 : ch = 0
      · left
        rw [← s6]
        cases hq : t.testBit 3
        · exact absurd ⟨c0, by rw [p9]; exact tt4.mpr hq⟩ c
        · rfl
      · exact Or.inr c0
    have ho := (M_isOnce (w := 6) (c := 6) (by omega) h hl y1 (by decide) hg (-1) sn ch rfl).1 hfail
    refine Or.inl ⟨3, tJ L u p, by omega, by omega, ?_, _, _, _, _, _, _, _, _, M_line_fail (by omega) hb (by omega) (by omega) ht0 (RL_pairs_fail hg hQ ho), hS⟩
    unfold CF
    rw [C_head (d' := (d.1, d.2.1, 1)) (co' := co) (by omega) h y1 (by omega) (by omega) hno hT]
    exact X3_stop (by omega) (by omega)
end Lin2
