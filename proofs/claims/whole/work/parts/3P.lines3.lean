/-! lines side by side: way, none; choosing at the head -/
section Lin3
variable {F L b : Nat} {u : Nat → Nat} {tx tm lets : AA}
theorem M_readWay_ok (hF : 1000 < F) (h : TP L u tx tm) (hl : LT lets) (hb : b < 2) {p w : Nat} (hp : p ≤ L) (hw : w < 3) {g : G5} (hg : MR F L u tm p g) (hQ : QW L u p (3 + w)) (fa : Int32) (wy : AA) : ∃ g' : G5, MR F L u tm (tE L u (tJ L u p)) g' ∧ p_X11_readWay F (nI L) g.1 g.2.1 g.2.2.1 g.2.2.2.1 g.2.2.2.2 0 fa wy tm lets (nI b) = some (g'.1, g'.2.1, g'.2.2.1, g'.2.2.2.1, g'.2.2.2.2, 0, fa, upd wy b (nI w)) := by
  obtain ⟨g', e1, e2⟩ := M_scanR (z10 := g.2.1) (z11 := g.2.2.1) (z12 := g.2.2.2.1) (z13 := g.2.2.2.2) hF h hl (tE_le' (u := u) hp)
  refine ⟨g', e2, ?_⟩
  have hwd : g.2.2.2.2 = nI (3 + w) := by rw [hg.2.2.2.2 hQ.1]; exact (wdI_iff (by omega)).mpr hQ.2
  have hm1 := hg.1
  have J : p_X11_readWay_J29 F (nI L) tm lets (nI b) g.1 g.2.1 g.2.2.1 g.2.2.2.1 g.2.2.2.2 0 fa wy = some (g'.1, g'.2.1, g'.2.2.1, g'.2.2.2.1, g'.2.2.2.2, 0, fa, upd wy b (nI w)) := by
    unfold p_X11_readWay_J29
    rw [if_pos (show (0 : Int32) ≤ 0 by decide), if_neg (ixg hb (by decide)), nI_clamp (by omega), hm1, e1, hwd]
    have e3 : nI (3 + w) - 3 = nI w := by rw [show (3 : Int32) = nI 3 from rfl, nI_sub (by omega)]; congr 1; omega
    rw [e3]
    rfl
  unfold p_X11_readWay
  rw [M_isWord (w := 3) (c := 3) hg (by decide) rfl, M_isWord (w := 4) (c := 4) hg (by decide) rfl, M_isWord (w := 5) (c := 5) hg (by decide) rfl]
  simp only [Option.bind_some, ite0]
  rcases (show w = 0 ∨ w = 1 ∨ w = 2 by omega) with rfl | rfl | rfl
  · rw [if_pos hQ]; exact J
  · rw [if_neg (QW_ne (by decide) (by decide) hQ (by decide)), if_pos hQ]; exact J
  · rw [if_neg (QW_ne (by decide) (by decide) hQ (by decide)), if_neg (QW_ne (by decide) (by decide) hQ (by decide)), if_pos hQ]; exact J
theorem M_readWay_no {p : Nat} {g : G5} (hg : MR F L u tm p g) (h3 : ¬ QW L u p 3) (h4 : ¬ QW L u p 4) (h5 : ¬ QW L u p 5) (fa : Int32) (wy : AA) : p_X11_readWay F (nI L) g.1 g.2.1 g.2.2.1 g.2.2.2.1 g.2.2.2.2 0 fa wy tm lets (nI b) = some (g.1, g.2.1, g.2.2.1, g.2.2.2.1, g.2.2.2.2, nI 1, nI (tJ L u p), wy) := by
  unfold p_X11_readWay p_X11_readWay_J29 p_X11_fail
  rw [M_isWord (w := 3) (c := 3) hg (by decide) rfl, M_isWord (w := 4) (c := 4) hg (by decide) rfl, M_isWord (w := 5) (c := 5) hg (by decide) rfl]
  simp only [Option.bind_some, ite0]
  rw [if_neg h3, if_neg h4, if_neg h5, if_pos (show (0 : Int32) ≤ 0 by decide)]
  simp only [Option.bind_some]
  rw [if_neg (by decide), hg.2.1]
  rfl
theorem T_way (hF : 1000 < F) (h : TP L u tx tm) {p : Nat} (hp : p ≤ L) {x9 wy tl ch sj d0 d1 d2 : Int32} {A1 A2 A3 A4 : AA} : p_X3_takeToken F 0 (-1) (nI (tE L u (tJ L u p))) (nI (tJ L u p)) (nI (tK L u (tJ L u p))) x9 4 wy tl ch sj (nI L) tx d0 d1 d2 A1 A2 A3 A4 =
    if QW L u p 3 then some (0, -1, 1, nI 0, tl, sj, d0, d1, d2, A1, A2, A3, A4) else if QW L u p 4 then some (0, -1, 1, nI 1, tl, sj, d0, d1, d2, A1, A2, A3, A4) else if QW L u p 5 then some (0, -1, 1, nI 2, tl, sj, d0, d1, d2, A1, A2, A3, A4) else some (nI 1, nI (tJ L u p), 1, wy, tl, sj, d0, d1, d2, A1, A2, A3, A4) := by
  unfold p_X3_takeToken p_X3_takeWay p_X3_fail
  rw [if_neg (show ¬ (4 : Int32) = 0 by decide), if_neg (show ¬ (4 : Int32) = 1 by decide), if_neg (show ¬ (4 : Int32) = 2 by decide), if_neg (show ¬ (4 : Int32) = 3 by decide), if_pos (show (4 : Int32) = 4 from rfl), tokIs (w := 3) hF h hp (s := 6) (by decide) rfl, tokIs (w := 4) hF h hp (s := 7) (by decide) rfl, tokIs (w := 5) hF h hp (s := 8) (by decide) rfl]
  simp only [Option.bind_some, ite0]
  by_cases c3 : QW L u p 3
  · rw [if_pos c3, if_pos c3]; rfl
  · rw [if_neg c3, if_neg c3]
    by_cases c4 : QW L u p 4
    · rw [if_pos c4, if_pos c4]; rfl
    · rw [if_neg c4, if_neg c4]
      by_cases c5 : QW L u p 5
      · rw [if_pos c5, if_pos c5]; rfl
      · rw [if_neg c5, if_neg c5]; rfl
theorem S_way (hF : 3000000 < F) (h : TP L u tx tm) (hl : LT lets) (hb : b < 2) {da0 ck0 : AA} {p i f fm : Nat} (IH : GoOnL F L b u tx tm lets da0 ck0 p) (hy : LHy L p i f fm) {J : I3} {wy tl ch sj : Int32} {Q : ChT} {d : I3} {co : CoT} {td : AA} {g : G5} {sn : Int32} {mq : MqT} {da ck mwy to : AA} (hg : MR F L u tm p g) (hP : PR b wy tl ch d co td sn da ck mwy to) (hS : Same b da ck da0 ck0) (hQ : QW L u p 2) : ResR b da0 ck0 (CL F L tx f i p J 0 wy tl ch sj Q d co td) (ML F L tm lets b fm g 0 (-1) sn ch mq da ck mwy to) := by
  have hL := h.1
  obtain ⟨y1, y2, y3, y4⟩ := hy
  have hk1 : tK L u (tJ L u p) = 1 := hQ.1
  obtain ⟨j1, j2⟩ := tJ_le (u := u) y1
  have hj : tJ L u p < L := by
    rcases Nat.lt_or_ge (tJ L u p) L with q | q
    · exact q
    · rw [tK_0.mpr q] at hk1; omega
  obtain ⟨e1, e2⟩ := tE_le (u := u) hj
  have ht0 : ¬ g.2.2.1 = 0 := by rw [hg.2.2.1, hk1]; decide
  have hno : ¬ (ch = 0 ∧ (tK L u (tJ L u p) = 0 ∨ QW L u p 7 ∨ QW L u p 8)) := fun q => q.2.elim (fun r => by omega) (fun r => r.elim (QW_ne (by decide) (by decide) hQ (by decide)) (QW_ne (by decide) (by decide) hQ (by decide)))
  obtain ⟨f, rfl⟩ : ∃ q, f = q + 4 := ⟨f - 4, by omega⟩
  obtain ⟨fm, rfl⟩ : ∃ q, fm = q + 4 := ⟨fm - 4, by omega⟩
  have hT := T_line (F := F) (x9 := nX F L u tx p J.2.2) (wy := wy) (tl := tl) (ch := ch) (sj := sj) (d0 := d.1) (d1 := d.2.1) (d2 := d.2.2) (A1 := co.1) (A2 := co.2.1) (A3 := co.2.2) (A4 := td) (by omega) h y1
  rw [if_neg (QW_ne (by decide) (by decide) hQ (show 2 ≠ 0 by decide)), if_neg (QW_ne (by decide) (by decide) hQ (show 2 ≠ 1 by decide)), if_pos hQ] at hT
  unfold tellC at hT
  obtain ⟨n, k, w, t, n1, n2, k1, k2, w3, t16, p1, p2, p3, p4, p5, p6, p7, p8, p9, ⟨s0, s1, s2, s6⟩, pc, pcode, ptd, pz⟩ := id hP
  obtain ⟨tt1, tt2, tt3, tt4, to1, to2, to3, to4, tz1, tz2, tz3, tz4⟩ := tl_tab t t16
  have tb := tb_tab t t16
  have oB : ∀ w' x, w' < 32 → bt (sn ||| oh w') x = (bt sn x || decide (x = w')) := fun w' x hw' => by rw [b_or, bt_oh hw']
  by_cases c : ch = 0 ∧ tl &&& 4 = 0
  ·
    rw [if_pos c] at hT
    have c0 := c.1
    have hok : bt sn 2 = false := by
      rw [← s2]
      have := c.2
      rw [p9] at this
      exact tt3.mp this
    obtain ⟨g1, hg1, ho⟩ := (M_isOnce (w := 2) (c := 2) (by omega) h hl y1 (by decide) hg (-1) sn ch rfl).2 hok c0
    rw [C_head (d' := d) (co' := co) (by omega) h y1 (by omega) (by omega) hno hT]
    have hp1 : tE L u (tJ L u p) ≤ L := e2
    obtain ⟨jj1, jj2⟩ := tJ_le (u := u) hp1
    show ResR b da0 ck0 (CL F L tx (f + 3) (i + 1) (tE L u (tJ L u p)) (nI (tJ L u p), nI (tK L u (tJ L u p)), nX F L u tx p J.2.2) 4 wy (tl ||| 4) ch sj Q d co td) _
    have hT4 := T_way (F := F) (x9 := nX F L u tx (tE L u (tJ L u p)) (nX F L u tx p J.2.2)) (wy := wy) (tl := tl ||| 4) (ch := ch) (sj := sj) (d0 := d.1) (d1 := d.2.1) (d2 := d.2.2) (A1 := co.1) (A2 := co.2.1) (A3 := co.2.2) (A4 := td) (by omega) h hp1
    have good : ∀ w', w' < 3 → QW L u (tE L u (tJ L u p)) (3 + w') → p_X3_takeToken F 0 (-1) (nI (tE L u (tJ L u (tE L u (tJ L u p))))) (nI (tJ L u (tE L u (tJ L u p)))) (nI (tK L u (tJ L u (tE L u (tJ L u p))))) (nX F L u tx (tE L u (tJ L u p)) (nX F L u tx p J.2.2)) 4 wy (tl ||| 4) ch sj (nI L) tx d.1 d.2.1 d.2.2 co.1 co.2.1 co.2.2 td = some (0, -1, 1, nI w', tl ||| 4, sj, d.1, d.2.1, d.2.2, co.1, co.2.1, co.2.2, td) →
        ResR b da0 ck0 (CL F L tx (f + 3) (i + 1) (tE L u (tJ L u p)) (nI (tJ L u p), nI (tK L u (tJ L u p)), nX F L u tx p J.2.2) 4 wy (tl ||| 4) ch sj Q d co td) (ML F L tm lets b (fm + 4) g 0 (-1) sn ch mq da ck mwy to) := by
      intro w' hw' hQ1 hTw
      have kd2 := hQ1.1
      have hj1 : tJ L u (tE L u (tJ L u p)) < L := by
        rcases Nat.lt_or_ge (tJ L u (tE L u (tJ L u p))) L with q | q
        · exact q
        · rw [tK_0.mpr q] at kd2; omega
      obtain ⟨ee1, ee2⟩ := tE_le (u := u) hj1
      obtain ⟨g2, hg2, hm⟩ := M_readWay_ok (by omega) h hl hb hp1 hw' hg1 hQ1 (-1) mwy
      rw [show f + 3 = (f + 2) + 1 from rfl, X3_go (J := (nI (tJ L u p), nI (tK L u (tJ L u p)), nX F L u tx p J.2.2)) (d' := d) (co' := co) (by omega) h hp1 (by omega) (by omega) (X3_noHead (by decide)) hTw]
      refine S_sign (by omega) h hl hb IH (p := tE L u (tJ L u (tE L u (tJ L u p)))) (i := i + 1 + 1) (f := f + 2) (fm := fm + 4) (J := (nI (tJ L u (tE L u (tJ L u p))), nI (tK L u (tJ L u (tE L u (tJ L u p)))), nX F L u tx (tE L u (tJ L u p)) (nX F L u tx p J.2.2))) (d := d) (co := co) (by omega) ⟨ee2, by omega, by omega, by omega⟩ ht0 (RL_way_ok hg hQ ho hm) hg2 ?_ hS
      refine ⟨n, k, w', t ||| 4, n1, n2, k1, k2, hw', tz3, p1, p2, p3, p4, p5, p6, rfl, by rw [upd_at, if_pos rfl], by rw [p9]; exact to3, ⟨?_, ?_, ?_, ?_⟩, pc, pcode, ptd, pz⟩
      · rw [(tb 0 (by decide)).2.2.1, oB 2 0 (by decide), s0] <;> rfl
      · rw [(tb 1 (by decide)).2.2.1, oB 2 1 (by decide), s1] <;> rfl
      · rw [(tb 2 (by decide)).2.2.1, oB 2 2 (by decide), s2] <;> rfl
      · rw [(tb 3 (by decide)).2.2.1, oB 2 6 (by decide), s6] <;> rfl
    by_cases c3 : QW L u (tE L u (tJ L u p)) 3
    · rw [if_pos c3] at hT4; exact good 0 (by decide) c3 hT4
    · rw [if_neg c3] at hT4
      by_cases c4 : QW L u (tE L u (tJ L u p)) 4
      · rw [if_pos c4] at hT4; exact good 1 (by decide) c4 hT4
      · rw [if_neg c4] at hT4
        by_cases c5 : QW L u (tE L u (tJ L u p)) 5
        · rw [if_pos c5] at hT4; exact good 2 (by decide) c5 hT4
        · rw [if_neg c5] at hT4
          exact Or.inl ⟨1, _, by omega, by omega, C_fault (J := (nI (tJ L u p), nI (tK L u (tJ L u p)), nX F L u tx p J.2.2)) (d' := d) (co' := co) (by omega) h hp1 (by omega) (by omega) (by omega) (fun _ => rfl) (by decide) hT4, _, _, _, _, _, _, _, _, M_line_fail (by omega) hb (by omega) (by omega) ht0 (RL_way_ok hg hQ ho (M_readWay_no hg1 c3 c4 c5 (-1) mwy)), hS⟩
  ·
    rw [if_neg c] at hT
    have hfail : bt sn 2 = true ∨ ¬ ch = 0 := by
      by_cases c0 : ch = 0
      · left
        rw [← s2]
        cases hq : t.testBit 2
        · exact absurd ⟨c0, by rw [p9]; exact tt3.mpr hq⟩ c
        · rfl
      · exact Or.inr c0
    have ho := (M_isOnce (w := 2) (c := 2) (by omega) h hl y1 (by decide) hg (-1) sn ch rfl).1 hfail
    refine Or.inl ⟨3, tJ L u p, by omega, by omega, ?_, _, _, _, _, _, _, _, _, M_line_fail (by omega) hb (by omega) (by omega) ht0 (RL_way_fail hg hQ ho), hS⟩
    unfold CF
    rw [C_head (d' := d) (co' := co) (by omega) h y1 (by omega) (by omega) hno hT]
    exact X3_stop (by omega) (by omega)
theorem S_none (hF : 3000000 < F) (h : TP L u tx tm) (hl : LT lets) (hb : b < 2) {da0 ck0 : AA} {p i f fm : Nat} (IH : GoOnL F L b u tx tm lets da0 ck0 p) (hy : LHy L p i f fm) {J : I3} {wy tl ch sj : Int32} {Q : ChT} {d : I3} {co : CoT} {td : AA} {g : G5} {sn : Int32} {mq : MqT} {da ck mwy to : AA} (hg : MR F L u tm p g) (hP : PR b wy tl ch d co td sn da ck mwy to) (hS : Same b da ck da0 ck0) (hk0 : tK L u (tJ L u p) ≠ 0) (hQ : ∀ w, w = 0 ∨ w = 1 ∨ w = 2 ∨ w = 6 ∨ w = 7 ∨ w = 8 → ¬ QW L u p w) : ResR b da0 ck0 (CL F L tx f i p J 0 wy tl ch sj Q d co td) (ML F L tm lets b fm g 0 (-1) sn ch mq da ck mwy to) := by
  have hL := h.1
  obtain ⟨y1, y2, y3, y4⟩ := hy
  obtain ⟨f, rfl⟩ : ∃ q, f = q + 2 := ⟨f - 2, by omega⟩
  obtain ⟨fm, rfl⟩ : ∃ q, fm = q + 2 := ⟨fm - 2, by omega⟩
  have hT := T_line (F := F) (x9 := nX F L u tx p J.2.2) (wy := wy) (tl := tl) (ch := ch) (sj := sj) (d0 := d.1) (d1 := d.2.1) (d2 := d.2.2) (A1 := co.1) (A2 := co.2.1) (A3 := co.2.2) (A4 := td) (by omega) h y1
  rw [if_neg (hQ 0 (by decide)), if_neg (hQ 1 (by decide)), if_neg (hQ 2 (by decide)), if_neg (hQ 6 (by decide)), if_neg (hQ 7 (by decide)), if_neg (hQ 8 (by decide))] at hT
  have hno : ¬ (ch = 0 ∧ (tK L u (tJ L u p) = 0 ∨ QW L u p 7 ∨ QW L u p 8)) := fun q => q.2.elim hk0 (fun r => r.elim (hQ 7 (by decide)) (hQ 8 (by decide)))
  have ht0 : ¬ g.2.2.1 = 0 := by rw [hg.2.2.1]; exact fun q => hk0 ((kM_tab _ (tK_le (L := L) (u := u) (tJ L u p))).1.mp q)
  refine Or.inl ⟨1, tJ L u p, by omega, by omega, ?_, _, _, _, _, _, _, _, _, M_line_fail (by omega) hb (by omega) (by omega) ht0 (RL_none hg hQ), hS⟩
  unfold CF
  rw [show f + 2 = (f + 1) + 1 from rfl, C_head (d' := d) (co' := co) (by omega) h y1 (by omega) hk0 hno hT]
  exact X3_stop (by omega) (by omega)
/-- the class behind the head of a line -/
def CJ (F L : Nat) (u : Nat → Nat) (tx : AA) (f i p : Nat) (J : I3) (wy tl ch sj : Int32) (q : ChT) (d : I3) (co : CoT) (td : AA) :=
  p_X3_parse_J65 F (nI L) tx (p_X3_parse_L6 F (nI L) tx f) (nI i) 0 (-1) (nI (tE L u (tJ L u p))) (nI (tJ L u p)) (nI (tK L u (tJ L u p))) (nX F L u tx p J.2.2) 0 wy tl ch sj q.1 q.2.1 q.2.2.1 q.2.2.2.1 q.2.2.2.2.1 q.2.2.2.2.2 d.1 d.2.1 d.2.2 co.1 co.2.1 co.2.2 td
theorem CJ_end {f i p : Nat} (hk : tK L u (tJ L u p) = 0) {J : I3} {wy tl ch sj : Int32} {q : ChT} {d : I3} {co : CoT} {td : AA} : CJ F L u tx f i p J wy tl ch sj q d co td = some (1, 0, -1, nI (tE L u (tJ L u p)), nI (tJ L u p), nI 0, nX F L u tx p J.2.2, 0, wy, tl, ch, sj, q.1, q.2.1, q.2.2.1, q.2.2.2.1, q.2.2.2.2.1, q.2.2.2.2.2, d.1, d.2.1, d.2.2, co.1, co.2.1, co.2.2, td) := by
  unfold CJ p_X3_parse_J65 p_X3_parse_J97
  rw [hk, if_pos (show nI 0 = 0 from rfl)]
  rfl
theorem CJ_go {f i p : Nat} (hk : tK L u (tJ L u p) ≠ 0) {J : I3} {wy tl ch sj : Int32} {q : ChT} {d d' : I3} {co co' : CoT} {td td' : AA} {fk fp wt' wy' tl' sj' : Int32}
    (ht : p_X3_takeToken F 0 (-1) (nI (tE L u (tJ L u p))) (nI (tJ L u p)) (nI (tK L u (tJ L u p))) (nX F L u tx p J.2.2) 0 wy tl ch sj (nI L) tx d.1 d.2.1 d.2.2 co.1 co.2.1 co.2.2 td = some (fk, fp, wt', wy', tl', sj', d'.1, d'.2.1, d'.2.2, co'.1, co'.2.1, co'.2.2, td')) :
    CJ F L u tx f i p J wy tl ch sj q d co td = p_X3_parse_L6 F (nI L) tx f (nI (i + 1)) fk fp (nI (tE L u (tJ L u p))) (nI (tJ L u p)) (nI (tK L u (tJ L u p))) (nX F L u tx p J.2.2) wt' wy' tl' ch sj' q.1 q.2.1 q.2.2.1 q.2.2.2.1 q.2.2.2.2.1 q.2.2.2.2.2 d'.1 d'.2.1 d'.2.2 co'.1 co'.2.1 co'.2.2 td' := by
  have hk4 := tK_le (L := L) (u := u) (tJ L u p)
  unfold CJ p_X3_parse_J65
  rw [if_neg (show ¬ nI (tK L u (tJ L u p)) = 0 from nI_ne0 (by omega) (by omega)), ht]
  simp only [Option.bind_some, nI_1]
def mkC (mq : MqT) (fd fa ch : Int32) (to : AA) : Int32 × Int32 × Int32 × Int32 × Int32 × AA × AA × AA × AA × AA × AA × AA := (fd, fa, ch, mq.1, mq.2.1, to, mq.2.2.1, mq.2.2.2.1, mq.2.2.2.2.1, mq.2.2.2.2.2.1, mq.2.2.2.2.2.2.1, mq.2.2.2.2.2.2.2)
def CC5 (F b : Nat) (x10 ch : Int32) (mq : MqT) (da ck wy to : AA) := p_X11_chooses F x10 0 (-1) ch mq.1 mq.2.1 da ck wy to mq.2.2.1 mq.2.2.2.1 mq.2.2.2.2.1 mq.2.2.2.2.2.1 mq.2.2.2.2.2.2.1 mq.2.2.2.2.2.2.2 (nI b)
/-- columns are chosen at the head of a line, or were before -/
theorem head_both (hF : 3000000 < F) (h : TP L u tx tm) (hb : b < 2) {p i f : Nat} (hp : p ≤ L) (hi : i ≤ 600) (hh : tK L u (tJ L u p) = 0 ∨ QW L u p 7 ∨ QW L u p 8) {J : I3} {wy tl ch sj : Int32} {Q : ChT} {d : I3} {co : CoT} {td : AA} {sn : Int32} {mq : MqT} {da ck mwy to : AA} (hP : PR b wy tl ch d co td sn da ck mwy to) (x10 : Int32) :
    (CF (CL F L tx (f + 1) i p J 0 wy tl ch sj Q d co td) 4 (tJ L u p) ∧ ∃ mq' to', CC5 F b x10 ch mq da ck mwy to = some (mkC mq' (nI 4) x10 1 to')) ∨
    ∃ (Q' : ChT) (co' : CoT) (mq' : MqT) (to' : AA), CL F L tx (f + 1) i p J 0 wy tl ch sj Q d co td = CJ F L u tx f i p J wy tl 1 sj Q' d co' td ∧ PR b wy tl 1 d co' td sn da ck mwy to' ∧ CC5 F b x10 ch mq da ck mwy to = some (mkC mq' 0 (-1) 1 to') := by
  obtain ⟨n, k, w, t, n1, n2, k1, k2, w3, t16, p1, p2, p3, p4, p5, p6, p7, p8, p9, ps, pc, pcode, ptd, pz⟩ := id hP
  have hend := X3_head (F := F) (ch := ch) (by omega) h hp
  rcases pc with c0 | c1
  · subst c0
    rw [if_pos ⟨rfl, hh⟩] at hend
    obtain ⟨r, c1, m27, m28, A1, A2, A3, A4, A5, A7, A8, A9, B1, B2, B3, B4, B5, B6, r1, r2, hX, hM⟩ := choose_both hF n1 n2 k1 k2 w3 Q.1 mq.1 mq.2.1 Q.2.1 Q.2.2.1 Q.2.2.2.1 Q.2.2.2.2.1 Q.2.2.2.2.2 co.1 co.2.1 co.2.2 mq.2.2.1 mq.2.2.2.1 mq.2.2.2.2.1 mq.2.2.2.2.2.1 mq.2.2.2.2.2.2.1 mq.2.2.2.2.2.2.2
    rw [← p1, ← p3, ← p7] at hX
    rw [← p2, ← p4, ← p8] at hM
    have hC := M_chooses (x10 := x10) (x15 := -1) (to := to) (by omega) hb hM
    have nr : ¬ ¬ (r = 0 ∨ r = 1) := fun q => q r1
    have hS : CL F L tx (f + 1) i p J 0 wy tl 0 sj Q d co td = p_X3_parse_L6b F (nI L) tx (p_X3_parse_L6 F (nI L) tx f) (nI i) 0 (-1) (nI p) J.1 J.2.1 J.2.2 0 wy tl 0 sj Q.1 Q.2.1 Q.2.2.1 Q.2.2.2.1 Q.2.2.2.2.1 Q.2.2.2.2.2 d.1 d.2.1 d.2.2 co.1 co.2.1 co.2.2 td := rfl
    have step : ∀ X : CRT, (if r = 0 then ((p_X3_fail F 0 (-1) (nI (tJ L u p)) 4).bind fun z => p_X3_parse_J97 F (nI L) tx z.1 z.2 (nI (tE L u (tJ L u p))) (nI (tJ L u p)) (nI (tK L u (tJ L u p))) (nX F L u tx p J.2.2) 0 wy tl r sj c1 A1 A2 A3 A4 A5 d.1 d.2.1 d.2.2 A7 A8 A9 td) else CJ F L u tx f i p J wy tl r sj (c1, A1, A2, A3, A4, A5) d (A7, A8, A9) td) = X → CL F L tx (f + 1) i p J 0 wy tl 0 sj Q d co td = X := by
      intro X hX'
      rw [hS]
      unfold p_X3_parse_L6b
      rw [if_neg (show ¬ (600 : Int32) < nI i from nI_nlt (a := 600) hi (by decide)), if_pos rfl, X3_next (by omega) h hp]
      simp only [Option.bind_some]
      rw [hend]
      simp only [Option.bind_some]
      rw [if_neg i32_1_0, hX]
      simp only [Option.bind_some]
      rw [if_neg nr]
      exact hX'
    rcases r1 with e0 | e1
    · left
      rw [if_pos e0, if_pos e0] at hC
      refine ⟨?_, (m27, m28, B1, B2, B3, B4, B5, B6), stC b to B2, hC⟩
      refine ⟨(nI (tE L u (tJ L u p)), nI (tJ L u p), nI (tK L u (tJ L u p)), nX F L u tx p J.2.2, 0, wy, tl, r, sj, c1, A1, A2, A3, A4, A5, d.1, d.2.1, d.2.2, A7, A8, A9, td), step _ ?_⟩
      rw [if_pos e0]
      rfl
    · right
      have ne : ¬ r = 0 := by rw [e1]; decide
      rw [if_neg ne, if_neg ne] at hC
      obtain ⟨hcode, htab, hch⟩ := r2 e1
      refine ⟨(c1, A1, A2, A3, A4, A5), (A7, A8, A9), (m27, m28, B1, B2, B3, B4, B5, B6), stC b to B2, step _ ?_, ?_, hC⟩
      · rw [if_neg ne, e1]
      · have so : ∀ x, 32 ≤ x → stC b to B2 (121 * b + x) = to (121 * b + x) := fun x hx => by unfold stC; rw [if_neg (by omega)]
        refine ⟨n, k, w, t, n1, n2, k1, k2, w3, t16, p1, p2, p3, p4, p5, by rw [so 32 (by omega)]; exact p6, p7, p8, p9, ps, Or.inr rfl, fun _ => ⟨hcode, htab, fun p hp => ?_⟩, fun w' hw' => ?_, fun x x1 x2 => by rw [so x (by omega)]; exact pz x x1 x2⟩
        · unfold stC
          rw [if_pos (by omega), show 121 * b + p - 121 * b = p by omega]
          exact hch p hp
        · obtain ⟨v', q1, q2, q3, q4⟩ := ptd w' hw'
          have e := so (65 + w') (by omega)
          rw [← Nat.add_assoc] at e
          exact ⟨v', q1, q2, by rw [e]; exact q3, fun q => absurd q (by decide)⟩
  · subst c1
    right
    rw [if_neg (fun q => absurd q.1 (by decide))] at hend
    refine ⟨Q, co, mq, to, ?_, hP, M_chosen⟩
    show p_X3_parse_L6b F (nI L) tx _ (nI i) 0 (-1) (nI p) J.1 J.2.1 J.2.2 0 wy tl 1 sj Q.1 Q.2.1 Q.2.2.1 Q.2.2.2.1 Q.2.2.2.2.1 Q.2.2.2.2.2 d.1 d.2.1 d.2.2 co.1 co.2.1 co.2.2 td = _
    unfold p_X3_parse_L6b
    rw [if_neg (show ¬ (600 : Int32) < nI i from nI_nlt (a := 600) hi (by decide)), if_pos rfl, X3_next (by omega) h hp]
    simp only [Option.bind_some]
    rw [hend]
    simp only [Option.bind_some, ↓reduceIte]
    rfl
end Lin3
