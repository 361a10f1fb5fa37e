/-! both parsers, whole: words, the end -/
section Lin6
variable {F L b : Nat} {u : Nat → Nat} {tx tm lets : AA}
set_option maxHeartbeats 4000000 in
theorem S_word (hF : 3000000 < F) (h : TP L u tx tm) (hl : LT lets) (hb : b < 2) {da0 ck0 : AA} {p i f fm : Nat} (IH : GoOnL F L b u tx tm lets da0 ck0 p) (hy : LHy L p i f fm) {J : I3} {wy tl ch sj : Int32} {Q : ChT} {d : I3} {co : CoT} {td : AA} {g : G5} {sn : Int32} {mq : MqT} {da ck mwy to : AA} (hg : MR F L u tm p g) (hP : PR b wy tl ch d co td sn da ck mwy to) (hS : Same b da ck da0 ck0) (hQ : QW L u p 8) : ResR b da0 ck0 (CL F L tx f i p J 0 wy tl ch sj Q d co td) (ML F L tm lets b fm g 0 (-1) sn ch mq da ck mwy to) := by
  have hL := h.1
  obtain ⟨y1, y2, y3, y4⟩ := hy
  have hk1 : tK L u (tJ L u p) = 1 := hQ.1
  obtain ⟨j1, j2⟩ := tJ_le (u := u) y1
  have hj : tJ L u p < L := by
    rcases Nat.lt_or_ge (tJ L u p) L with q | q
    · exact q
    · rw [tK_0.mpr q] at hk1; omega
  obtain ⟨e1, e2⟩ := tE_le (u := u) hj
  have ht0 : ¬ g.2.2.1 = 0 := by rw [hg.2.2.1, hk1]; decide
  obtain ⟨f, rfl⟩ : ∃ q, f = q + 4 := ⟨f - 4, by omega⟩
  obtain ⟨fm, rfl⟩ : ∃ q, fm = q + 4 := ⟨fm - 4, by omega⟩
  rcases head_both (i := i) (f := f + 3) (mq := mq) (Q := Q) (sj := sj) (J := J) hF h hb y1 (by omega) (Or.inr (Or.inr hQ)) hP g.2.1 with ⟨hfail, mq', to', hC⟩ | ⟨Q', co', mq', to', hX, hP', hC⟩
  · refine Or.inl ⟨4, tJ L u p, by omega, by omega, hfail, g, sn, 1, mq', da, ck, mwy, cpW b to', ?_, hS⟩
    rw [← hg.2.1]
    exact M_line_fail (by omega) hb (by omega) (by omega) ht0 (RL_word hg hQ (RW_head hC))
  have hT := T_line (F := F) (x9 := nX F L u tx p J.2.2) (wy := wy) (tl := tl) (ch := 1) (sj := sj) (d0 := d.1) (d1 := d.2.1) (d2 := d.2.2) (A1 := co'.1) (A2 := co'.2.1) (A3 := co'.2.2) (A4 := td) (by omega) h y1
  rw [if_neg (QW_ne (by decide) (by decide) hQ (show 8 ≠ 0 by decide)), if_neg (QW_ne (by decide) (by decide) hQ (show 8 ≠ 1 by decide)), if_neg (QW_ne (by decide) (by decide) hQ (show 8 ≠ 2 by decide)), if_neg (QW_ne (by decide) (by decide) hQ (show 8 ≠ 6 by decide)), if_neg (QW_ne (by decide) (by decide) hQ (show 8 ≠ 7 by decide)), if_pos hQ] at hT
  obtain ⟨n, k, w, t, n1, n2, k1, k2, w3, t16, p1, p2, p3, p4, p5, p6, p7, p8, p9, ps, pc, pcode, ptd, pz⟩ := id hP'
  obtain ⟨hcode, htab, hcol⟩ := pcode rfl
  have hp1 : tE L u (tJ L u p) ≤ L := e2
  obtain ⟨jj1, jj2⟩ := tJ_le (u := u) hp1
  rw [show f + 4 = f + 3 + 1 from rfl, hX, CJ_go (d' := d) (co' := co') (by omega) hT]
  obtain ⟨g1, hs1, hg1⟩ := M_scanR (F := F) (lets := lets) (z10 := g.2.1) (z11 := g.2.2.1) (z12 := g.2.2.2.1) (z13 := g.2.2.2.2) (by omega) h hl hp1
  rw [← hg.1] at hs1
  show ResR b da0 ck0 (CL F L tx (f + 3) (i + 1) (tE L u (tJ L u p)) (nI (tJ L u p), nI (tK L u (tJ L u p)), nX F L u tx p J.2.2) 7 wy tl 1 sj Q' d co' td) _
  have emask : ((1 : Int32) <<< (da b &&& 31)) - 1 = mk n := by rw [p2]; exact mk_eq n (by omega)
  have hmk : mk n = nI (2 ^ n - 1) := rfl
  have h24 : 2 ^ n ≤ 2 ^ 24 := Nat.pow_le_pow_right (by decide) n2
  have h1p : 1 ≤ 2 ^ n := Nat.two_pow_pos n
  rcases N_both (lo := 0) (hi := 15) (loI := 0) (hiI := 15) (by omega) h hl hp1 (by decide) (by decide) hg1 (-1) (nX F L u tx p J.2.2) 7 8 rfl rfl with ⟨q, x, q1, q4, q0, hw, hm⟩ | ⟨v, g2, v1, v2, kd2, ex, hw, hg2, hm⟩
  · have hR := RW_num (g3 := g1) (wy := mwy) hb hC hs1 hm emask (M_numeral_f q1 q4)
    rw [if_neg (nI_ne0 (by omega) (by omega))] at hR
    exact Or.inl ⟨q, _, q1, q4, C_fault (J := (nI (tJ L u p), nI (tK L u (tJ L u p)), nX F L u tx p J.2.2)) (d' := d) (co' := co') (by omega) h hp1 (by omega) q1 q4 q0 (by decide) (T7_fail hw), _, _, _, _, _, _, _, _, M_line_fail (by omega) hb q1 q4 ht0 (RL_word hg hQ hR), hS⟩
  have hj1 : tJ L u (tE L u (tJ L u p)) < L := by
    rcases Nat.lt_or_ge (tJ L u (tE L u (tJ L u p))) L with q | q
    · exact q
    · rw [tK_0.mpr q] at kd2; omega
  obtain ⟨ee1, ee2⟩ := tE_le (u := u) hj1
  have hT7 := T7_ok (F := F) (L := L) (tx := tx) (x6 := nI (tE L u (tJ L u (tE L u (tJ L u p))))) (wy := wy) (tl := tl) (ch := 1) (sj := sj) (d0 := d.1) (d1 := d.2.1) (d2 := d.2.2) (A1 := co'.1) (A2 := co'.2.1) (A3 := co'.2.2) (A4 := td) hw
  rw [show f + 3 = (f + 2) + 1 from rfl, X3_go (J := (nI (tJ L u p), nI (tK L u (tJ L u p)), nX F L u tx p J.2.2)) (d' := d) (co' := co') (by omega) h hp1 (by omega) (by omega) (X3_noHead (by decide)) hT7]
  have hp2 : (tE L u (tJ L u (tE L u (tJ L u p)))) ≤ L := ee2
  obtain ⟨kk1, kk2⟩ := tJ_le (u := u) hp2
  rw [ex]
  show ResR b da0 ck0 (CL F L tx (f + 2) (i + 1 + 1) (tE L u (tJ L u (tE L u (tJ L u p)))) (nI (tJ L u (tE L u (tJ L u p))), nI (tK L u (tJ L u (tE L u (tJ L u p)))), nI v) 8 wy tl 1 (nI v) Q' d co' td) _
  rcases N_both (lo := 0) (hi := 2 ^ n - 1) (loI := 0) (hiI := mk n) (by omega) h hl hp2 (by omega) (by decide) hg2 (-1) (nI v) 8 1 rfl rfl with ⟨q, x, q1, q4, q0, hw2, hm2⟩ | ⟨v', g3, v1', v2', kd3, ex', hw2, hg3, hm2⟩
  · have hR := RW_num (wy := mwy) hb hC hs1 hm emask hm2
    rw [if_neg (nI_ne0 (by omega) (by omega))] at hR
    exact Or.inl ⟨q, _, q1, q4, C_fault (J := (nI (tJ L u (tE L u (tJ L u p))), nI (tK L u (tJ L u (tE L u (tJ L u p)))), nI v)) (d' := d) (co' := co') (by omega) h hp2 (by omega) q1 q4 q0 (by decide) (T8_fail (by omega) p1 hw2), _, _, _, _, _, _, _, _, M_line_fail (by omega) hb q1 q4 ht0 (RL_word hg hQ hR), hS⟩
  have hj2 : tJ L u (tE L u (tJ L u (tE L u (tJ L u p)))) < L := by
    rcases Nat.lt_or_ge (tJ L u (tE L u (tJ L u (tE L u (tJ L u p))))) L with q | q
    · exact q
    · rw [tK_0.mpr q] at kd3; omega
  obtain ⟨eee1, eee2⟩ := tE_le (u := u) hj2
  have eix : (121 : Int32) * nI b + 65 + nI v = nI (121 * b + 65 + v) := by rw [show (121 : Int32) = nI 121 from rfl, show (65 : Int32) = nI 65 from rfl, pk_mul, nI_add, nI_add]
  have hR := RW_num (wy := mwy) hb hC hs1 hm emask hm2
  rw [if_pos rfl, eix, if_neg (ixg (by omega) (by decide)), nI_clamp (by omega)] at hR
  have hT8 := T8_ok (F := F) (L := L) (tx := tx) (n := n) (v := v) (x6 := nI (tE L u (tJ L u (tE L u (tJ L u (tE L u (tJ L u p))))))) (wy := wy) (tl := tl) (ch := 1) (d1 := d.2.1) (d2 := d.2.2) (A1 := co'.1) (A2 := co'.2.1) (A3 := co'.2.2) (A4 := td) (by omega) (by omega) p1 hw2
  rw [show f + 2 = (f + 1) + 1 from rfl, X3_go (J := (nI (tJ L u (tE L u (tJ L u p))), nI (tK L u (tJ L u (tE L u (tJ L u p)))), nI v)) (d' := d) (co' := co') (by omega) h hp2 (by omega) (by omega) (X3_noHead (by decide)) hT8]
  refine S_sign (by omega) h hl hb IH (p := (tE L u (tJ L u (tE L u (tJ L u (tE L u (tJ L u p))))))) (i := i + 1 + 1 + 1) (f := f + 1) (fm := fm + 4) (J := (nI (tJ L u (tE L u (tJ L u (tE L u (tJ L u p))))), nI (tK L u (tJ L u (tE L u (tJ L u (tE L u (tJ L u p)))))), nX F L u tx (tE L u (tJ L u (tE L u (tJ L u p)))) (nI v))) (d := d) (co := co') (by omega) ⟨eee2, by omega, by omega, by omega⟩ ht0 (RL_word hg hQ hR) hg3 ?_ hS
  refine ⟨n, k, w, t, n1, n2, k1, k2, w3, t16, p1, p2, p3, p4, p5, ?_, p7, p8, p9, ps, Or.inr rfl, fun _ => ⟨hcode, htab, fun p' hp' => ?_⟩, fun w' hw' => ?_, fun x0 q1 q2 => ?_⟩
  · rw [upd_at, if_neg (by omega)]; exact p6
  · have := hcode.hm
    rw [upd_at, if_neg (by omega)]; exact hcol p' hp'
  · rw [ex', upd_at, upd_at]
    by_cases e : w' = v
    · subst e
      rw [if_pos rfl, if_pos rfl]
      exact ⟨v', by omega, rfl, rfl, fun q => absurd q (by decide)⟩
    · obtain ⟨v9, q1, q2, q3, q4⟩ := ptd w' hw'
      rw [if_neg e, if_neg (by omega)]
      exact ⟨v9, q1, q2, q3, q4⟩
  · rw [upd_at, if_neg (by omega)]; exact pz x0 q1 q2
theorem S_end (hF : 3000000 < F) (h : TP L u tx tm) (hl : LT lets) (hb : b < 2) {da0 ck0 : AA} {p i f fm : Nat} (IH : GoOnL F L b u tx tm lets da0 ck0 p) (hy : LHy L p i f fm) {J : I3} {wy tl ch sj : Int32} {Q : ChT} {d : I3} {co : CoT} {td : AA} {g : G5} {sn : Int32} {mq : MqT} {da ck mwy to : AA} (hg : MR F L u tm p g) (hP : PR b wy tl ch d co td sn da ck mwy to) (hS : Same b da ck da0 ck0) (hk0 : tK L u (tJ L u p) = 0) : ResR b da0 ck0 (CL F L tx f i p J 0 wy tl ch sj Q d co td) (ML F L tm lets b fm g 0 (-1) sn ch mq da ck mwy to) := by
  have hL := h.1
  obtain ⟨y1, y2, y3, y4⟩ := hy
  have ht0 : g.2.2.1 = 0 := by rw [hg.2.2.1, hk0]; rfl
  obtain ⟨f, rfl⟩ : ∃ q, f = q + 1 := ⟨f - 1, by omega⟩
  obtain ⟨fm, rfl⟩ : ∃ q, fm = q + 1 := ⟨fm - 1, by omega⟩
  rcases head_both (i := i) (f := f) (mq := mq) (Q := Q) (sj := sj) (J := J) hF h hb y1 (by omega) (Or.inl hk0) hP g.2.1 with ⟨hfail, mq', to', hC⟩ | ⟨Q', co', mq', to', hX, hP', hC⟩
  · refine Or.inl ⟨4, tJ L u p, by omega, by omega, hfail, g, sn, 1, mq', da, ck, mwy, cpW b to', ?_, hS⟩
    rw [← hg.2.1]
    exact ML_end (by omega) hb ht0 hC
  · obtain ⟨n, k, w, t, n1, n2, k1, k2, w3, t16, p1, p2, p3, p4, p5, p6, p7, p8, p9, ps, pc, pcode, ptd, pz⟩ := id hP'
    obtain ⟨hcode, htab, hcol⟩ := pcode rfl
    have hm := hcode.hm
    refine Or.inr ⟨nI (tE L u (tJ L u p)), nI (tJ L u p), nI 0, nX F L u tx p J.2.2, 0, wy, tl, sj, Q', n, k, d.2.2, co'.1, co'.2.1, co'.2.2, td, ?_, g, sn, mq', da, ck, mwy, cpW b to', ML_end (by omega) hb ht0 hC, ⟨hcode, htab, p5, p2, p4, fun p' hp' => ?_, ?_, fun w' hw' => ?_, fun x q1 q2 => ?_⟩, hS⟩
    · rw [hX, CJ_end hk0, p1, p3]
    · unfold cpW; rw [if_neg (by omega)]; exact hcol p' hp'
    · unfold cpW; rw [if_neg (by omega)]; exact p6
    · obtain ⟨v9, q1, q2, q3, q4⟩ := ptd w' hw'
      refine ⟨v9, q1, q2, ?_, ?_⟩
      · unfold cpW; rw [if_neg (by omega)]; exact q3
      · unfold cpW; rw [if_pos (by omega), show 121 * b + 33 + w' + 32 = 121 * b + 65 + w' by omega]; exact q3
    · unfold cpW; rw [if_neg (by omega)]; exact pz x q1 q2
theorem parse_sim (hF : 3000000 < F) (h : TP L u tx tm) (hl : LT lets) (hb : b < 2) (da0 ck0 : AA) : ∀ (dd p i f fm : Nat) (J : I3) (wy tl ch sj : Int32) (Q : ChT) (d : I3) (co : CoT) (td : AA) (g : G5) (sn : Int32) (mq : MqT) (da ck mwy to : AA), L - p < dd → LHy L p i f fm → MR F L u tm p g → PR b wy tl ch d co td sn da ck mwy to → Same b da ck da0 ck0 →
    ResR b da0 ck0 (CL F L tx f i p J 0 wy tl ch sj Q d co td) (ML F L tm lets b fm g 0 (-1) sn ch mq da ck mwy to) := by
  intro dd
  induction dd with
  | zero => intro p i f fm J wy tl ch sj Q d co td g sn mq da ck mwy to hd; exact absurd hd (by omega)
  | succ dd ih =>
    intro p i f fm J wy tl ch sj Q d co td g sn mq da ck mwy to hd hy hg hP hS
    have IH : GoOnL F L b u tx tm lets da0 ck0 p := fun p' i' f' fm' J' wy' tl' ch' sj' Q' d' co' td' g' sn' mq' da' ck' mwy' to' hlt hy' hg' hP' hS' => ih p' i' f' fm' J' wy' tl' ch' sj' Q' d' co' td' g' sn' mq' da' ck' mwy' to' (by have := hy.1; have := hy'.1; omega) hy' hg' hP' hS'
    by_cases k0 : tK L u (tJ L u p) = 0
    · exact S_end hF h hl hb IH hy hg hP hS k0
    by_cases q0 : QW L u p 0
    · exact S_data hF h hl hb IH hy hg hP hS q0
    by_cases q1 : QW L u p 1
    · exact S_checks hF h hl hb IH hy hg hP hS q1
    by_cases q2 : QW L u p 2
    · exact S_way hF h hl hb IH hy hg hP hS q2
    by_cases q6 : QW L u p 6
    · exact S_pairs hF h hl hb IH hy hg hP hS q6
    by_cases q7 : QW L u p 7
    · exact S_col hF h hl hb IH hy hg hP hS q7
    by_cases q8 : QW L u p 8
    · exact S_word hF h hl hb IH hy hg hP hS q8
    exact S_none hF h hl hb IH hy hg hP hS k0 (fun w hw => by rcases hw with rfl | rfl | rfl | rfl | rfl | rfl <;> assumption)
end Lin6
