/-! both parsers, whole -/
section Lin5
variable {F L b : Nat} {u : Nat → Nat} {tx tm lets : AA}
set_option maxHeartbeats 4000000 in
theorem S_col (hF : 3000000 < F) (h : TP L u tx tm) (hl : LT lets) (hb : b < 2) {da0 ck0 : AA} {p i f fm : Nat} (IH : GoOnL F L b u tx tm lets da0 ck0 p) (hy : LHy L p i f fm) {J : I3} {wy tl ch sj : Int32} {Q : ChT} {d : I3} {co : CoT} {td : AA} {g : G5} {sn : Int32} {mq : MqT} {da ck mwy to : AA} (hg : MR F L u tm p g) (hP : PR b wy tl ch d co td sn da ck mwy to) (hS : Same b da ck da0 ck0) (hQ : QW L u p 7) : ResR b da0 ck0 (CL F L tx f i p J 0 wy tl ch sj Q d co td) (ML F L tm lets b fm g 0 (-1) sn ch mq da ck mwy to) := by
  have hL := h.1
  obtain ⟨y1, y2, y3, y4⟩ := hy
  have hk1 : tK L u (tJ L u p) = 1 := hQ.1
  obtain ⟨j1, j2⟩ := tJ_le (u := u) y1
  have hj : tJ L u p < L := by
    rcases Nat.lt_or_ge (tJ L u p) L with q | q
    · exact q
    · rw [tK_0.mpr q] at hk1; omega
  obtain ⟨e1, e2⟩ := tE_le (u := u) hj
  have ht0 : ¬ g.2.2.1 = 0 := by rw [hg.2.2.1, hk1]; decide
  obtain ⟨f, rfl⟩ : ∃ q, f = q + 4 := ⟨f - 4, by omega⟩
  obtain ⟨fm, rfl⟩ : ∃ q, fm = q + 4 := ⟨fm - 4, by omega⟩
  rcases head_both (i := i) (f := f + 3) (mq := mq) (Q := Q) (sj := sj) (J := J) hF h hb y1 (by omega) (Or.inr (Or.inl hQ)) hP g.2.1 with ⟨hfail, mq', to', hC⟩ | ⟨Q', co', mq', to', hX, hP', hC⟩
  · refine Or.inl ⟨4, tJ L u p, by omega, by omega, hfail, g, sn, 1, mq', da, ck, mwy, cpW b to', ?_, hS⟩
    rw [← hg.2.1]
    exact M_line_fail (by omega) hb (by omega) (by omega) ht0 (RL_col hg hQ (RC_head hC))
  have hT := T_line (F := F) (x9 := nX F L u tx p J.2.2) (wy := wy) (tl := tl) (ch := 1) (sj := sj) (d0 := d.1) (d1 := d.2.1) (d2 := d.2.2) (A1 := co'.1) (A2 := co'.2.1) (A3 := co'.2.2) (A4 := td) (by omega) h y1
  rw [if_neg (QW_ne (by decide) (by decide) hQ (show 7 ≠ 0 by decide)), if_neg (QW_ne (by decide) (by decide) hQ (show 7 ≠ 1 by decide)), if_neg (QW_ne (by decide) (by decide) hQ (show 7 ≠ 2 by decide)), if_neg (QW_ne (by decide) (by decide) hQ (show 7 ≠ 6 by decide)), if_pos hQ] at hT
  obtain ⟨n, k, w, t, n1, n2, k1, k2, w3, t16, p1, p2, p3, p4, p5, p6, p7, p8, p9, ps, pc, pcode, ptd, pz⟩ := id hP'
  obtain ⟨hcode, htab, hcol⟩ := pcode rfl
  have hp1 : tE L u (tJ L u p) ≤ L := e2
  obtain ⟨jj1, jj2⟩ := tJ_le (u := u) hp1
  rw [show f + 4 = f + 3 + 1 from rfl, hX, CJ_go (d' := d) (co' := co') (by omega) hT]
  obtain ⟨g1, hs1, hg1⟩ := M_scanR (F := F) (lets := lets) (z10 := g.2.1) (z11 := g.2.2.1) (z12 := g.2.2.2.1) (z13 := g.2.2.2.2) (by omega) h hl hp1
  rw [← hg.1] at hs1
  show ResR b da0 ck0 (CL F L tx (f + 3) (i + 1) (tE L u (tJ L u p)) (nI (tJ L u p), nI (tK L u (tJ L u p)), nX F L u tx p J.2.2) 5 wy tl 1 sj Q' d co' td) _
  have ehi : d.1 - 1 = nI (n - 1) := by rw [p1]; have := nI_pred (n - 1); rw [show n - 1 + 1 = n by omega] at this; exact this
  have ehi2 : da b - 1 = nI (n - 1) := by rw [p2, ← p1]; exact ehi
  rcases N_both (lo := 0) (hi := n - 1) (loI := 0) (hiI := nI (n - 1)) (by omega) h hl hp1 (by omega) (by decide) hg1 (-1) (nX F L u tx p J.2.2) 5 6 rfl rfl with ⟨q, x, q1, q4, q0, hw, hm⟩ | ⟨v, g2, v1, v2, kd2, ex, hw, hg2, hm⟩
  · have hR := RC_num (wy := mwy) hb hC hs1 ehi2 hm
    rw [if_neg (nI_nle (by omega) (by omega))] at hR
    rw [← ehi] at hw
    exact Or.inl ⟨q, _, q1, q4, C_fault (J := (nI (tJ L u p), nI (tK L u (tJ L u p)), nX F L u tx p J.2.2)) (d' := d) (co' := co') (by omega) h hp1 (by omega) q1 q4 q0 (by decide) (T5_fail hw), _, _, _, _, _, _, _, _, M_line_fail (by omega) hb q1 q4 ht0 (RL_col hg hQ hR), hS⟩
  have hj1 : tJ L u (tE L u (tJ L u p)) < L := by
    rcases Nat.lt_or_ge (tJ L u (tE L u (tJ L u p))) L with q | q
    · exact q
    · rw [tK_0.mpr q] at kd2; omega
  obtain ⟨ee1, ee2⟩ := tE_le (u := u) hj1
  have hT5 := T5_ok (F := F) (L := L) (tx := tx) (x6 := nI (tE L u (tJ L u (tE L u (tJ L u p))))) (wy := wy) (tl := tl) (ch := 1) (sj := sj) (d0 := d.1) (d1 := d.2.1) (d2 := d.2.2) (A1 := co'.1) (A2 := co'.2.1) (A3 := co'.2.2) (A4 := td) (by rw [ehi]; exact hw)
  rw [show f + 3 = (f + 2) + 1 from rfl, X3_go (J := (nI (tJ L u p), nI (tK L u (tJ L u p)), nX F L u tx p J.2.2)) (d' := d) (co' := co') (by omega) h hp1 (by omega) (by omega) (X3_noHead (by decide)) hT5]
  have hp2 : (tE L u (tJ L u (tE L u (tJ L u p)))) ≤ L := ee2
  obtain ⟨kk1, kk2⟩ := tJ_le (u := u) hp2
  have hk4 := tK_le (L := L) (u := u) (tJ L u (tE L u (tJ L u (tE L u (tJ L u p)))))
  rw [ex]
  show ResR b da0 ck0 (CL F L tx (f + 2) (i + 1 + 1) (tE L u (tJ L u (tE L u (tJ L u p)))) (nI (tJ L u (tE L u (tJ L u p))), nI (tK L u (tJ L u (tE L u (tJ L u p)))), nI v) 6 wy tl 1 (nI v) Q' d co' td) _
  have hR := RC_num (wy := mwy) hb hC hs1 ehi2 hm
  rw [if_pos (show (0 : Int32) ≤ 0 by decide)] at hR
  obtain ⟨⟨a, bv, ea, eb, hr⟩, _, _⟩ := num_at (F := F) (by omega) h kk2
  have ha : a < 2 ^ 31 := by rcases hr with ⟨q1, q2⟩ | ⟨q1, q2, q3⟩ <;> omega
  have hbv : bv < 2 ^ 31 := by rcases hr with ⟨q1, q2⟩ | ⟨q1, q2, q3⟩ <;> omega
  have hxa : tK L u (tJ L u (tE L u (tJ L u (tE L u (tJ L u p))))) = 2 → nX F L u tx (tE L u (tJ L u (tE L u (tJ L u p)))) (nI v) = nI a := fun q => by unfold nX; rw [if_pos q, ea]
  have hX6 := X3_within (F := F) (lo := 0) (hi := 255) (j := tJ L u (tE L u (tJ L u (tE L u (tJ L u p))))) (wt := 6) (nx := 1) (by decide) (by decide) hk4 ha hxa
  have hp8 := pow_le8 k2
  by_cases c2 : tK L u (tJ L u (tE L u (tJ L u (tE L u (tJ L u p))))) = 2
  · rw [if_pos c2] at hX6
    have t3 : g2.2.2.1 = 3 := by rw [hg2.2.2.1, c2]; rfl
    have enum : g2.2.2.2.1 = nI bv := by rw [hg2.2.2.2.1 c2]; exact eb
    rw [if_pos t3, enum, p4, M_isOfData_eq (by omega) k2] at hR
    simp only [Option.bind_some, ite0] at hR
    have n0 : ¬ nI 2 ≤ 0 := by decide
    -- a fault: the number can't be a column of that place
    have bad : CF (CL F L tx (f + 2) (i + 1 + 1) (tE L u (tJ L u (tE L u (tJ L u p)))) (nI (tJ L u (tE L u (tJ L u p))), nI (tK L u (tJ L u (tE L u (tJ L u p)))), nI v) 6 wy tl 1 (nI v) Q' d co' td) 2 (tJ L u (tE L u (tJ L u (tE L u (tJ L u p))))) → RC F L tm lets b g ch mq da ck mwy to = p_X11_readColumn_J84 F (nI L) da ck mwy tm lets (nI b) (nI v) g2.1 g2.2.1 g2.2.2.1 g2.2.2.2.1 g2.2.2.2.2 0 (-1) 1 mq'.1 mq'.2.1 to' mq'.2.2.1 mq'.2.2.2.1 mq'.2.2.2.2.1 mq'.2.2.2.2.2.1 mq'.2.2.2.2.2.2.1 mq'.2.2.2.2.2.2.2 →
        ResR b da0 ck0 (CL F L tx (f + 2) (i + 1 + 1) (tE L u (tJ L u (tE L u (tJ L u p)))) (nI (tJ L u (tE L u (tJ L u p))), nI (tK L u (tJ L u (tE L u (tJ L u p)))), nI v) 6 wy tl 1 (nI v) Q' d co' td) (ML F L tm lets b (fm + 4) g 0 (-1) sn ch mq da ck mwy to) := fun b1 b2 => by
      refine Or.inl ⟨2, _, by omega, by omega, b1, g2, sn, 1, mq', da, ck, mwy, cpW b to', ?_, hS⟩
      rw [← hg2.2.1]
      refine M_line_fail (by omega) hb (by omega) (by omega) ht0 (RL_col hg hQ ?_)
      rw [b2]
      unfold p_X11_readColumn_J84 p_X11_fail
      rw [if_pos (show (0 : Int32) ≤ 0 by decide)]
      simp only [Option.bind_some]
      exact RC_J89_fail n0
    have cfault : ∀ {wt' : Int32}, p_X3_takeToken F 0 (-1) (nI (tE L u (tJ L u (tE L u (tJ L u (tE L u (tJ L u p))))))) (nI (tJ L u (tE L u (tJ L u (tE L u (tJ L u p)))))) (nI (tK L u (tJ L u (tE L u (tJ L u (tE L u (tJ L u p))))))) (nX F L u tx (tE L u (tJ L u (tE L u (tJ L u p)))) (nI v)) 6 wy tl 1 (nI v) (nI L) tx d.1 d.2.1 d.2.2 co'.1 co'.2.1 co'.2.2 td = some (nI 2, nI (tJ L u (tE L u (tJ L u (tE L u (tJ L u p))))), wt', wy, tl, nI v, d.1, d.2.1, d.2.2, co'.1, co'.2.1, co'.2.2, td) → CF (CL F L tx (f + 2) (i + 1 + 1) (tE L u (tJ L u (tE L u (tJ L u p)))) (nI (tJ L u (tE L u (tJ L u p))), nI (tK L u (tJ L u (tE L u (tJ L u p)))), nI v) 6 wy tl 1 (nI v) Q' d co' td) 2 (tJ L u (tE L u (tJ L u (tE L u (tJ L u p))))) := fun hTq =>
      C_fault (J := (nI (tJ L u (tE L u (tJ L u p))), nI (tK L u (tJ L u (tE L u (tJ L u p)))), nI v)) (d' := d) (co' := co') (by omega) h hp2 (by omega) (by omega) (by omega) (fun q => by omega) (by decide) hTq
    by_cases c3 : a ≤ 255
    · have eab : a = bv := (num_rng (lo := 0) (hi := 255) hr (by decide)).2 c3
      subst eab
      rw [if_pos ⟨Nat.zero_le _, c3⟩] at hX6
      obtain ⟨x1, x2⟩ := X3_col (F := F) (n := n) (k := k) (v := v) (a := a) (j := tJ L u (tE L u (tJ L u (tE L u (tJ L u p))))) (by omega) hcode htab (by omega)
      rw [← p1, ← p3] at x1 x2
      by_cases c4 : DCp k (nI a)
      · rw [if_pos c4, M_isElsewhere (by omega) hb n2 p2 (by omega)] at hR
        simp only [Option.bind_some] at hR
        have agree := col_agree (b := b) hcode hcol (show v < n by omega) c4
        by_cases c5 : plc co'.1 (n + k) (nI a) = -1 ∨ plc co'.1 (n + k) (nI a) = nI v
        · rw [if_pos (agree.mp c5), if_pos rfl] at hR
          obtain ⟨co2, z1, z2, z3, z4⟩ := x2 c4 c5
          have hj2 : tJ L u (tE L u (tJ L u (tE L u (tJ L u p)))) < L := by
            rcases Nat.lt_or_ge (tJ L u (tE L u (tJ L u (tE L u (tJ L u p))))) L with q | q
            · exact q
            · rw [tK_0.mpr q] at c2; omega
          obtain ⟨eee1, eee2⟩ := tE_le (u := u) hj2
          obtain ⟨g3, hs3, hg3⟩ := M_scanR (F := F) (lets := lets) (z10 := g2.2.1) (z11 := g2.2.2.1) (z12 := g2.2.2.2.1) (z13 := g2.2.2.2.2) (by omega) h hl eee2
          rw [← hg2.1] at hs3
          rw [← enum, RC_J89_ok hb (by omega) hs3, enum] at hR
          have hT6 := T6_ok (F := F) (L := L) (tx := tx) (x6 := nI (tE L u (tJ L u (tE L u (tJ L u (tE L u (tJ L u p))))))) (x7 := nI (tJ L u (tE L u (tJ L u (tE L u (tJ L u p)))))) (x8 := nI (tK L u (tJ L u (tE L u (tJ L u (tE L u (tJ L u p))))))) (x9 := nX F L u tx (tE L u (tJ L u (tE L u (tJ L u p)))) (nI v)) (wy := wy) (tl := tl) (ch := 1) (sj := nI v) (d0 := d.1) (d1 := d.2.1) (d2 := d.2.2) (A1 := co'.1) (A2 := co'.2.1) (A3 := co'.2.2) (A4 := td) hX6 (by rw [hxa c2]; exact z4)
          rw [show f + 2 = (f + 1) + 1 from rfl, X3_go (J := (nI (tJ L u (tE L u (tJ L u p))), nI (tK L u (tJ L u (tE L u (tJ L u p)))), nI v)) (d' := d) (co' := co2) (by omega) h hp2 (by omega) (by omega) (X3_noHead (by decide)) hT6]
          refine S_sign (by omega) h hl hb IH (p := (tE L u (tJ L u (tE L u (tJ L u (tE L u (tJ L u p))))))) (i := i + 1 + 1 + 1) (f := f + 1) (fm := fm + 4) (J := (nI (tJ L u (tE L u (tJ L u (tE L u (tJ L u p))))), nI (tK L u (tJ L u (tE L u (tJ L u (tE L u (tJ L u p)))))), nX F L u tx (tE L u (tJ L u (tE L u (tJ L u p)))) (nI v))) (d := d) (co := co2) (by omega) ⟨eee2, by omega, by omega, by omega⟩ ht0 (RL_col hg hQ hR) hg3 ?_ hS
          refine ⟨n, k, w, t, n1, n2, k1, k2, w3, t16, p1, p2, p3, p4, p5, ?_, p7, p8, p9, ps, Or.inr rfl, fun _ => ⟨z1, z2, fun p' hp' => ?_⟩, fun w' hw' => ?_, fun x0 q1 q2 => ?_⟩
          · rw [upd_at, if_neg (by omega)]; exact p6
          · rw [z3, upd_at, upd_at]
            by_cases e : p' = v
            · rw [if_pos (by omega), if_pos e]
            · rw [if_neg (by omega), if_neg e]; exact hcol p' hp'
          · obtain ⟨v', q1, q2, q3, q4⟩ := ptd w' hw'
            exact ⟨v', q1, q2, by rw [upd_at, if_neg (by omega)]; exact q3, q4⟩
          · rw [upd_at, if_neg (by omega)]; exact pz x0 q1 q2
        · rw [if_neg (fun q => c5 (agree.mpr q)), if_neg i32_1_0, ← enum] at hR
          exact bad (cfault (T6_ok hX6 (by rw [hxa c2]; exact x1 (Or.inr c5)))) hR
      · rw [if_neg c4, ← enum] at hR
        exact bad (cfault (T6_ok hX6 (by rw [hxa c2]; exact x1 (Or.inl c4)))) hR
    · rw [if_neg (fun q => c3 q.2)] at hX6
      have c4 : ¬ DCp k (nI bv) := fun q => by
        have h2 := q.2.1
        rw [nI_ltI hbv (by omega)] at h2
        have := (num_rng (lo := 0) (hi := 255) hr (by decide)).1.mpr ⟨Nat.zero_le _, by omega⟩
        exact c3 this.2
      rw [if_neg c4, ← enum] at hR
      exact bad (cfault (T6_fail hX6)) hR
  · rw [if_neg c2] at hX6
    have t3 : ¬ g2.2.2.1 = 3 := by rw [hg2.2.2.1]; exact fun q => c2 ((kM_tab _ hk4).2.2.1.mp q)
    rw [if_neg t3] at hR
    refine Or.inl ⟨1, tJ L u (tE L u (tJ L u (tE L u (tJ L u p)))), by omega, by omega, C_fault (J := (nI (tJ L u (tE L u (tJ L u p))), nI (tK L u (tJ L u (tE L u (tJ L u p)))), nI v)) (d' := d) (co' := co') (by omega) h hp2 (by omega) (by omega) (by omega) (fun _ => rfl) (by decide) (T6_fail hX6), g2, sn, 1, mq', da, ck, mwy, cpW b to', ?_, hS⟩
    rw [← hg2.2.1]
    refine M_line_fail (by omega) hb (by omega) (by omega) ht0 (RL_col hg hQ ?_)
    rw [hR]
    unfold p_X11_fail
    rw [if_pos (show (0 : Int32) ≤ 0 by decide)]
    simp only [Option.bind_some]
    exact RC_J89_fail (by decide)
end Lin5
