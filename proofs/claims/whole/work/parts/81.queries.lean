/-! the law's cases -/
section Cases81
variable {p : Program} {l : Launch} {e : Env} {s : State} {m : MethodId} {below : List Frame} {meth : Method} {c : Code} {H : Heap} {locs : List Loc} {ls : Array Slot} {G : GG} {b L i : Nat} {xs : Nat → Int32}
set_option maxRecDepth 100000 in
set_option maxHeartbeats 4000000 in
theorem case_reading (K : lwK p s m meth c b L xs G) (hi : i + 6 ≤ L) (hI : LI G s b i H locs ls) (kk : ∀ (H : Heap) (locs : List Loc), LI G s b i H locs ls → WL p l e s m below meth c b H locs 1519 ls []) : WL p l e s m below meth c b H locs 926 ls [] := by
  obtain ⟨⟨hx, hb, hr, hml, hown, hts, hX, hbl, hlocks, hgv⟩, hL, hN, hT, hK⟩ := K
  have ht0 : ∀ w ∈ gtbl, w.before #[Value.ref b] s = true := fun w hw => hts w (gtbl_sub hw)
  have hA : ∀ q : Nat, s.heap.size ≤ q → lwA s q := fun _ h => h
  obtain ⟨ca, ci, cf, st, bx, hm, ma, mi, mf, tl, sv, hP, hD, hS, ⟨n, k, bk, a, u, Lt, uu, pos, h⟩, hl⟩ := hI
  have hs : st a = some (tl (pos a)).1 := h.hs
  have hn : st (nxA a) = some (tl (pos (nxA a))).1 := h.hn
  have hz : st 0 = some (tl (pos 0)).1 := h.ps 0 (by decide)
  have hk1 : pos a < 15 := by have := h.pl; omega
  have hk2 : pos (nxA a) < 15 := by have := h.pn; omega
  have hk0 : pos 0 < 15 := by have := h.gl.2.1 0 (by decide); omega
  obtain ⟨e1, e2, hSR⟩ := h.cur
  obtain ⟨F, hF⟩ : ∃ F : Nat, 3000000 < F := ⟨3000001, by decide⟩
  obtain ⟨r, y, z, q1, q2⟩ := Q_reading (F := F) (by omega) h.ha hs h.hb hSR (ci 20) (ci 21) (ci 22) (mi 29) (mi 30) (mi 31) (mi 32) (xs (i + 1)) (xs (i + 2))
  try simp only [← h.at_, ← h.last, ← e1, ← e2] at q1
  try simp only [← h.bank, ← h.acts, ← h.und] at q2
  refine lv_aload_n hx hb dL_926 rfl (lv_at hl 1 rfl) ?_
  refine arg_push (j := 1) hx hb hX hbl hS (lv_at hl 0 rfl) (lv_at hl 3 rfl) hL hi (by decide) rfl dL_927 dL_928 dL_929 dL_930 dL_931 ?_
  refine arg_push (j := 2) hx hb hX hbl hS (lv_at hl 0 rfl) (lv_at hl 3 rfl) hL hi (by decide) rfl dL_932 dL_933 dL_934 dL_935 dL_936 ?_
  have hpm := pool1 (G := G) (tl := tl) (sv := sv) hk1 (wC G ca ci cf st bx) (wM G hm ma mi mf)
  have hP := hP.perm hpm
  have hD := hD.perm hpm
  refine cl_FS (w2 := wC G ca (updI (updI (updI ci 20 y.1) 21 y.2.1) 22 y.2.2) cf st bx ++ clu G (tl (pos a)) (sv (pos a))) (As := [.int (xs (i + 1)), .int (xs (i + 2))]) (rest := []) ⟨hx, hb, hml, hown, ht0⟩ (c_X10_reading l (gWith G (allS tl)) (ca 0) (ca 15) (ca 16) (ca 19) ((tl (pos a)).2.1) ((tl (pos a)).2.2.1.1) ((tl (pos a)).2.2.1.2.1) ((tl (pos a)).2.2.1.2.2) ((tl (pos a)).2.2.2.1) ((tl (pos a)).2.2.2.2.1) ((tl (pos a)).2.2.2.2.2.1) ((tl (pos a)).2.2.2.2.2.2.1) ((tl (pos a)).2.2.2.2.2.2.2.1) (ca 2) (ca 1) (ca 4) (ca 17) (ca 18) (ca 20) (ca 28) (ca 35) (ca 39) ((tl (pos a)).2.2.2.2.2.2.2.2) ((tl (pos a)).1) _ (ci 0) (ci 1) (ci 18) (ci 19) st (ci 20) (ci 21) (ci 22) ((sv (pos a)).1) ((sv (pos a)).2.1) ((sv (pos a)).2.2.1) ((sv (pos a)).2.2.2.1) ((sv (pos a)).2.2.2.2.1) ((sv (pos a)).2.2.2.2.2.1) ((sv (pos a)).2.2.2.2.2.2.1) ((sv (pos a)).2.2.2.2.2.2.2.1) ((sv (pos a)).2.2.2.2.2.2.2.2.1) ((sv (pos a)).2.2.2.2.2.2.2.2.2.1) F (xs (i + 1)) (xs (i + 2)) (tri_in hk1) _ _ _ _ q1) yk_X10_reading wd_1057 ⟨rfl, rfl, Nat.le_of_ble_eq_true rfl, Nat.le_of_ble_eq_true rfl⟩ ⟨Nat.le_of_ble_eq_true rfl, Nat.le_of_ble_eq_true rfl⟩ hN hT hK hP hD hS hA [true, false, false, false, false, false, false, false, false, false, false, false, false, false, false, true, true, false, false, true, false, false, false, false, false, false, false, false, false, false, false, false, false, false, false, false, false, false, false, false, false, false, false, false, false, false, true, true, true, true, true, true, true, true, true] (va_recv hK hP (ci := 10) (q0 := 0) rfl rfl) hpm rfl rfl (Nat.le_of_ble_eq_true rfl) rfl rfl rfl rfl hl.1 rfl (Nat.le_of_ble_eq_true rfl) dL_937 (fun H locs hP hD hS => ?_)
  have hpb := (pool1 (G := G) (tl := tl) (sv := sv) hk1 (wC G ca (updI (updI (updI ci 20 y.1) 21 y.2.1) 22 y.2.2) cf st bx) (wM G hm ma mi mf)).symm
  have hP := (hP.perm hpb).perm pmod
  have hD := (hD.perm hpb).perm pmod
  refine lv_aload_n hx hb dL_940 rfl (lv_at hl 2 rfl) ?_
  refine arg_push (j := 1) hx hb hX hbl hS (lv_at hl 0 rfl) (lv_at hl 3 rfl) hL hi (by decide) rfl dL_941 dL_942 dL_943 dL_944 dL_945 ?_
  refine arg_push (j := 2) hx hb hX hbl hS (lv_at hl 0 rfl) (lv_at hl 3 rfl) hL hi (by decide) rfl dL_946 dL_947 dL_948 dL_949 dL_950 ?_
  refine cl_F0 (w2 := wM G hm ma (updI (updI (updI (updI mi 29 z.1) 30 z.2.1) 31 z.2.2.1) 32 z.2.2.2) mf) (As := [.int (xs (i + 1)), .int (xs (i + 2))]) (rest := [.int r]) ⟨hx, hb, hml, hown, ht0⟩ (c_X11_reading l (gWith G []) hm (ma 0) (ma 1) (ma 2) (ma 3) (ma 4) (ma 6) (ma 18) (ma 21) (ma 22) (ma 23) (ma 24) (ma 25) (ma 26) (ma 33) (ma 34) (ma 38) (ma 39) (ma 40) (ma 41) (ma 42) (ma 43) (ma 45) (ma 46) (ma 47) (ma 48) _ (mi 5) (mi 7) (mi 8) (mi 9) (mi 10) (mi 11) (mi 12) (mi 13) (mi 14) (mi 15) (mi 16) (mi 17) (mi 19) (mi 20) (mi 27) (mi 28) (mi 29) (mi 30) (mi 31) (mi 32) (mi 35) (mi 36) (mi 37) (mi 44) (mi 49) (mi 50) (mf 0) (mf 1) (mf 2) F (xs (i + 1)) (xs (i + 2)) _ _ _ _ _ q2) yk_X11_reading wd_1809 ⟨rfl, rfl, Nat.le_of_ble_eq_true rfl, Nat.le_of_ble_eq_true rfl⟩ ⟨Nat.le_of_ble_eq_true rfl, Nat.le_of_ble_eq_true rfl⟩ hN hT hK hP hD hS hA [true, true, true, true] (va_recv hK hP (ci := 11) (q0 := 0) rfl rfl) rfl (Nat.le_of_ble_eq_true rfl) rfl rfl rfl rfl hl.1 rfl (Nat.le_of_ble_eq_true rfl) dL_951 (fun H locs hP hD hS => ?_)
  have hP := hP.perm (pmod (a := wC G ca (updI (updI (updI ci 20 y.1) 21 y.2.1) 22 y.2.2) cf st bx)).symm
  have hD := hD.perm (pmod (a := wC G ca (updI (updI (updI ci 20 y.1) 21 y.2.1) 22 y.2.2) cf st bx)).symm
  refine lv_icmp_eq (tgt := 1519) hx hb dL_954 (by decide) (fun _ => kk _ _ ⟨ca, (updI (updI (updI ci 20 y.1) 21 y.2.1) 22 y.2.2), cf, st, bx, hm, ma, (updI (updI (updI (updI mi 29 z.1) 30 z.2.1) 31 z.2.2.1) 32 z.2.2.2), mf, tl, sv, hP, hD, hS, ?_, hl⟩) (fun q => absurd rfl q)
  exact h.same (fun _ _ => rfl) ⟨⟨rfl, rfl, rfl, rfl, rfl, rfl, rfl, rfl, rfl, rfl, rfl, rfl⟩, ⟨rfl, rfl, rfl⟩, rfl, rfl, rfl, rfl, rfl⟩
set_option maxRecDepth 100000 in
set_option maxHeartbeats 4000000 in
theorem case_change (K : lwK p s m meth c b L xs G) (hi : i + 6 ≤ L) (hI : LI G s b i H locs ls) (kk : ∀ (H : Heap) (locs : List Loc), LI G s b i H locs ls → WL p l e s m below meth c b H locs 1519 ls []) : WL p l e s m below meth c b H locs 1117 ls [] := by
  obtain ⟨⟨hx, hb, hr, hml, hown, hts, hX, hbl, hlocks, hgv⟩, hL, hN, hT, hK⟩ := K
  have ht0 : ∀ w ∈ gtbl, w.before #[Value.ref b] s = true := fun w hw => hts w (gtbl_sub hw)
  have hA : ∀ q : Nat, s.heap.size ≤ q → lwA s q := fun _ h => h
  obtain ⟨ca, ci, cf, st, bx, hm, ma, mi, mf, tl, sv, hP, hD, hS, ⟨n, k, bk, a, u, Lt, uu, pos, h⟩, hl⟩ := hI
  have hs : st a = some (tl (pos a)).1 := h.hs
  have hn : st (nxA a) = some (tl (pos (nxA a))).1 := h.hn
  have hz : st 0 = some (tl (pos 0)).1 := h.ps 0 (by decide)
  have hk1 : pos a < 15 := by have := h.pl; omega
  have hk2 : pos (nxA a) < 15 := by have := h.pn; omega
  have hk0 : pos 0 < 15 := by have := h.gl.2.1 0 (by decide); omega
  obtain ⟨e1, e2, hSR⟩ := h.cur
  obtain ⟨F, hF⟩ : ∃ F : Nat, 3000000 < F := ⟨3000001, by decide⟩
  obtain ⟨r, y, z, q1, q2⟩ := Q_change (F := F) (by omega) h.ha hs h.hb hSR (ci 23) (ci 24) (ci 25) (cf 21) (cf 22) (mi 27) (mi 35) (mi 36) (mi 37) (mf 21) (mf 34) (xs (i + 1))
  try simp only [← h.at_, ← h.last, ← e1, ← e2] at q1
  try simp only [← h.bank, ← h.acts, ← h.und] at q2
  refine lv_aload_n hx hb dL_1117 rfl (lv_at hl 1 rfl) ?_
  refine arg_push (j := 1) hx hb hX hbl hS (lv_at hl 0 rfl) (lv_at hl 3 rfl) hL hi (by decide) rfl dL_1118 dL_1119 dL_1120 dL_1121 dL_1122 ?_
  have hpm := pool1 (G := G) (tl := tl) (sv := sv) hk1 (wC G ca ci cf st bx) (wM G hm ma mi mf)
  have hP := hP.perm hpm
  have hD := hD.perm hpm
  refine cl_FS (w2 := wC G ca (updI (updI (updI ci 23 y.1) 24 y.2.1) 25 y.2.2.1) (updA (updA cf 21 y.2.2.2.1) 22 y.2.2.2.2) st bx ++ clu G (tl (pos a)) (sv (pos a))) (As := [.int (xs (i + 1))]) (rest := []) ⟨hx, hb, hml, hown, ht0⟩ (c_X10_change l (gWith G (allS tl)) (ca 0) (ca 15) (ca 16) (ca 20) (ca 21) (ca 22) ((tl (pos a)).2.1) ((tl (pos a)).2.2.1.1) ((tl (pos a)).2.2.1.2.1) (ca 2) (ca 1) (ca 4) (ca 17) (ca 18) (ca 19) (ca 28) (ca 35) (ca 39) (ca 23) (ca 27) ((tl (pos a)).2.2.1.2.2) ((tl (pos a)).1) ((tl (pos a)).2.2.2.1) _ (ci 0) (ci 1) (ci 18) (ci 19) st (ci 23) (ci 24) (ci 25) (cf 21) (cf 22) ((sv (pos a)).1) ((sv (pos a)).2.1) ((sv (pos a)).2.2.1) ((sv (pos a)).2.2.2.1) ((sv (pos a)).2.2.2.2.1) F (xs (i + 1)) (tri_in hk1) _ _ _ _ _ _ q1) yk_X10_change wd_1105 ⟨rfl, rfl, Nat.le_of_ble_eq_true rfl, Nat.le_of_ble_eq_true rfl⟩ ⟨Nat.le_of_ble_eq_true rfl, Nat.le_of_ble_eq_true rfl⟩ hN hT hK hP hD hS hA [true, false, false, false, false, false, false, false, false, false, false, false, false, false, false, true, true, false, false, false, true, true, true, false, false, false, false, false, false, false, false, false, false, false, false, false, false, false, false, false, false, false, false, false, false, false, true, true, true] (va_recv hK hP (ci := 10) (q0 := 0) rfl rfl) hpm rfl rfl (Nat.le_of_ble_eq_true rfl) rfl rfl rfl rfl hl.1 rfl (Nat.le_of_ble_eq_true rfl) dL_1123 (fun H locs hP hD hS => ?_)
  have hpb := (pool1 (G := G) (tl := tl) (sv := sv) hk1 (wC G ca (updI (updI (updI ci 23 y.1) 24 y.2.1) 25 y.2.2.1) (updA (updA cf 21 y.2.2.2.1) 22 y.2.2.2.2) st bx) (wM G hm ma mi mf)).symm
  have hP := (hP.perm hpb).perm pmod
  have hD := (hD.perm hpb).perm pmod
  refine lv_aload_n hx hb dL_1126 rfl (lv_at hl 2 rfl) ?_
  refine arg_push (j := 1) hx hb hX hbl hS (lv_at hl 0 rfl) (lv_at hl 3 rfl) hL hi (by decide) rfl dL_1127 dL_1128 dL_1129 dL_1130 dL_1131 ?_
  refine cl_F0 (w2 := wM G hm ma (updI (updI (updI (updI mi 27 z.1) 35 z.2.1) 36 z.2.2.1) 37 z.2.2.2.1) (updA (updA mf 21 z.2.2.2.2.1) 34 z.2.2.2.2.2)) (As := [.int (xs (i + 1))]) (rest := [.int r]) ⟨hx, hb, hml, hown, ht0⟩ (c_X11_change l (gWith G []) hm (ma 0) (ma 1) (ma 2) (ma 21) (ma 34) (ma 3) (ma 4) (ma 6) (ma 18) (ma 22) (ma 23) (ma 24) (ma 25) (ma 26) (ma 33) (ma 38) (ma 39) (ma 40) (ma 41) (ma 42) (ma 43) (ma 45) (ma 46) (ma 47) (ma 48) _ (mi 5) (mi 7) (mi 8) (mi 9) (mi 10) (mi 11) (mi 12) (mi 13) (mi 14) (mi 15) (mi 16) (mi 17) (mi 19) (mi 20) (mi 27) (mi 28) (mi 29) (mi 30) (mi 31) (mi 32) (mi 35) (mi 36) (mi 37) (mi 44) (mi 49) (mi 50) (mf 0) (mf 1) (mf 2) (mf 21) (mf 34) F (xs (i + 1)) _ _ _ _ _ _ _ q2) yk_X11_change wd_1861 ⟨rfl, rfl, Nat.le_of_ble_eq_true rfl, Nat.le_of_ble_eq_true rfl⟩ ⟨Nat.le_of_ble_eq_true rfl, Nat.le_of_ble_eq_true rfl⟩ hN hT hK hP hD hS hA [true, true, true, true, false, false, false, false, true, false, false, false, false, false, false, true] (va_recv hK hP (ci := 11) (q0 := 0) rfl rfl) rfl (Nat.le_of_ble_eq_true rfl) rfl rfl rfl rfl hl.1 rfl (Nat.le_of_ble_eq_true rfl) dL_1132 (fun H locs hP hD hS => ?_)
  have hP := hP.perm (pmod (a := wC G ca (updI (updI (updI ci 23 y.1) 24 y.2.1) 25 y.2.2.1) (updA (updA cf 21 y.2.2.2.1) 22 y.2.2.2.2) st bx)).symm
  have hD := hD.perm (pmod (a := wC G ca (updI (updI (updI ci 23 y.1) 24 y.2.1) 25 y.2.2.1) (updA (updA cf 21 y.2.2.2.1) 22 y.2.2.2.2) st bx)).symm
  refine lv_icmp_eq (tgt := 1519) hx hb dL_1135 (by decide) (fun _ => kk _ _ ⟨ca, (updI (updI (updI ci 23 y.1) 24 y.2.1) 25 y.2.2.1), (updA (updA cf 21 y.2.2.2.1) 22 y.2.2.2.2), st, bx, hm, ma, (updI (updI (updI (updI mi 27 z.1) 35 z.2.1) 36 z.2.2.1) 37 z.2.2.2.1), (updA (updA mf 21 z.2.2.2.2.1) 34 z.2.2.2.2.2), tl, sv, hP, hD, hS, ?_, hl⟩) (fun q => absurd rfl q)
  exact h.same (fun _ _ => rfl) ⟨⟨rfl, rfl, rfl, rfl, rfl, rfl, rfl, rfl, rfl, rfl, rfl, rfl⟩, ⟨rfl, rfl, rfl⟩, rfl, rfl, rfl, rfl, rfl⟩
set_option maxRecDepth 100000 in
set_option maxHeartbeats 4000000 in
theorem case_chip (K : lwK p s m meth c b L xs G) (hi : i + 6 ≤ L) (hI : LI G s b i H locs ls) (kk : ∀ (H : Heap) (locs : List Loc), LI G s b i H locs ls → WL p l e s m below meth c b H locs 1519 ls []) : WL p l e s m below meth c b H locs 1196 ls [] := by
  obtain ⟨⟨hx, hb, hr, hml, hown, hts, hX, hbl, hlocks, hgv⟩, hL, hN, hT, hK⟩ := K
  have ht0 : ∀ w ∈ gtbl, w.before #[Value.ref b] s = true := fun w hw => hts w (gtbl_sub hw)
  have hA : ∀ q : Nat, s.heap.size ≤ q → lwA s q := fun _ h => h
  obtain ⟨ca, ci, cf, st, bx, hm, ma, mi, mf, tl, sv, hP, hD, hS, ⟨n, k, bk, a, u, Lt, uu, pos, h⟩, hl⟩ := hI
  have hs : st a = some (tl (pos a)).1 := h.hs
  have hn : st (nxA a) = some (tl (pos (nxA a))).1 := h.hn
  have hz : st 0 = some (tl (pos 0)).1 := h.ps 0 (by decide)
  have hk1 : pos a < 15 := by have := h.pl; omega
  have hk2 : pos (nxA a) < 15 := by have := h.pn; omega
  have hk0 : pos 0 < 15 := by have := h.gl.2.1 0 (by decide); omega
  obtain ⟨e1, e2, hSR⟩ := h.cur
  obtain ⟨F, hF⟩ : ∃ F : Nat, 3000000 < F := ⟨3000001, by decide⟩
  obtain ⟨r, y, z, q1, q2⟩ := Q_chip (F := F) (by omega) h.ha hs h.hb hSR (ci 29) (ci 30) (ci 31) (mf 33) (xs (i + 1)) (xs (i + 2))
  try simp only [← h.at_, ← h.last, ← e1, ← e2] at q1
  try simp only [← h.bank, ← h.acts, ← h.und] at q2
  refine lv_aload_n hx hb dL_1196 rfl (lv_at hl 1 rfl) ?_
  refine arg_push (j := 1) hx hb hX hbl hS (lv_at hl 0 rfl) (lv_at hl 3 rfl) hL hi (by decide) rfl dL_1197 dL_1198 dL_1199 dL_1200 dL_1201 ?_
  refine arg_push (j := 2) hx hb hX hbl hS (lv_at hl 0 rfl) (lv_at hl 3 rfl) hL hi (by decide) rfl dL_1202 dL_1203 dL_1204 dL_1205 dL_1206 ?_
  have hpm := pool1 (G := G) (tl := tl) (sv := sv) hk1 (wC G ca ci cf st bx) (wM G hm ma mi mf)
  have hP := hP.perm hpm
  have hD := hD.perm hpm
  refine cl_FS (w2 := wC G ca (updI (updI (updI ci 29 y.1) 30 y.2.1) 31 y.2.2) cf st bx ++ clu G (tl (pos a)) (sv (pos a))) (As := [.int (xs (i + 1)), .int (xs (i + 2))]) (rest := []) ⟨hx, hb, hml, hown, ht0⟩ (c_X10_chip l (gWith G (allS tl)) (ca 0) (ca 15) (ca 16) (ca 20) (ca 27) ((tl (pos a)).2.1) ((tl (pos a)).2.2.1.1) ((tl (pos a)).2.2.1.2.1) ((tl (pos a)).2.2.1.2.2) (ca 2) (ca 1) (ca 4) (ca 17) (ca 18) (ca 19) (ca 28) (ca 35) (ca 39) (ca 21) (ca 22) (ca 23) ((tl (pos a)).1) ((tl (pos a)).2.2.2.1) _ (ci 0) (ci 1) (ci 18) (ci 19) st (ci 23) (ci 24) (ci 25) (ci 29) (ci 30) (ci 31) ((sv (pos a)).1) ((sv (pos a)).2.1) ((sv (pos a)).2.2.1) ((sv (pos a)).2.2.2.1) ((sv (pos a)).2.2.2.2.1) ((sv (pos a)).2.2.2.2.2.1) F (xs (i + 1)) (xs (i + 2)) (tri_in hk1) _ _ _ _ q1) yk_X10_chip wd_1166 ⟨rfl, rfl, Nat.le_of_ble_eq_true rfl, Nat.le_of_ble_eq_true rfl⟩ ⟨Nat.le_of_ble_eq_true rfl, Nat.le_of_ble_eq_true rfl⟩ hN hT hK hP hD hS hA [true, false, false, false, false, false, false, false, false, false, false, false, false, false, false, true, true, false, false, false, true, false, false, false, false, false, false, true, false, false, false, false, false, false, false, false, false, false, false, false, false, false, false, false, false, false, true, true, true, true] (va_recv hK hP (ci := 10) (q0 := 0) rfl rfl) hpm rfl rfl (Nat.le_of_ble_eq_true rfl) rfl rfl rfl rfl hl.1 rfl (Nat.le_of_ble_eq_true rfl) dL_1207 (fun H locs hP hD hS => ?_)
  have hpb := (pool1 (G := G) (tl := tl) (sv := sv) hk1 (wC G ca (updI (updI (updI ci 29 y.1) 30 y.2.1) 31 y.2.2) cf st bx) (wM G hm ma mi mf)).symm
  have hP := (hP.perm hpb).perm pmod
  have hD := (hD.perm hpb).perm pmod
  refine lv_aload_n hx hb dL_1210 rfl (lv_at hl 2 rfl) ?_
  refine arg_push (j := 1) hx hb hX hbl hS (lv_at hl 0 rfl) (lv_at hl 3 rfl) hL hi (by decide) rfl dL_1211 dL_1212 dL_1213 dL_1214 dL_1215 ?_
  refine arg_push (j := 2) hx hb hX hbl hS (lv_at hl 0 rfl) (lv_at hl 3 rfl) hL hi (by decide) rfl dL_1216 dL_1217 dL_1218 dL_1219 dL_1220 ?_
  refine cl_F0 (w2 := wM G hm ma mi (updA mf 33 z)) (As := [.int (xs (i + 1)), .int (xs (i + 2))]) (rest := [.int r]) ⟨hx, hb, hml, hown, ht0⟩ (c_X11_chip l (gWith G []) hm (ma 0) (ma 1) (ma 2) (ma 33) (ma 3) (ma 4) (ma 6) (ma 18) (ma 21) (ma 22) (ma 23) (ma 24) (ma 25) (ma 26) (ma 34) (ma 38) (ma 39) (ma 40) (ma 41) (ma 42) (ma 43) (ma 45) (ma 46) (ma 47) (ma 48) _ (mi 5) (mi 7) (mi 8) (mi 9) (mi 10) (mi 11) (mi 12) (mi 13) (mi 14) (mi 15) (mi 16) (mi 17) (mi 19) (mi 20) (mi 27) (mi 28) (mi 29) (mi 30) (mi 31) (mi 32) (mi 35) (mi 36) (mi 37) (mi 44) (mi 49) (mi 50) (mf 0) (mf 1) (mf 2) (mf 33) F (xs (i + 1)) (xs (i + 2)) _ _ q2) yk_X11_chip wd_1865 ⟨rfl, rfl, Nat.le_of_ble_eq_true rfl, Nat.le_of_ble_eq_true rfl⟩ ⟨Nat.le_of_ble_eq_true rfl, Nat.le_of_ble_eq_true rfl⟩ hN hT hK hP hD hS hA [true, true, true, true, false, false, false, false, false, false, false, false, false, false, true] (va_recv hK hP (ci := 11) (q0 := 0) rfl rfl) rfl (Nat.le_of_ble_eq_true rfl) rfl rfl rfl rfl hl.1 rfl (Nat.le_of_ble_eq_true rfl) dL_1221 (fun H locs hP hD hS => ?_)
  have hP := hP.perm (pmod (a := wC G ca (updI (updI (updI ci 29 y.1) 30 y.2.1) 31 y.2.2) cf st bx)).symm
  have hD := hD.perm (pmod (a := wC G ca (updI (updI (updI ci 29 y.1) 30 y.2.1) 31 y.2.2) cf st bx)).symm
  refine lv_icmp_eq (tgt := 1519) hx hb dL_1224 (by decide) (fun _ => kk _ _ ⟨ca, (updI (updI (updI ci 29 y.1) 30 y.2.1) 31 y.2.2), cf, st, bx, hm, ma, mi, (updA mf 33 z), tl, sv, hP, hD, hS, ?_, hl⟩) (fun q => absurd rfl q)
  exact h.same (fun _ _ => rfl) ⟨⟨rfl, rfl, rfl, rfl, rfl, rfl, rfl, rfl, rfl, rfl, rfl, rfl⟩, ⟨rfl, rfl, rfl⟩, rfl, rfl, rfl, rfl, rfl⟩
set_option maxRecDepth 100000 in
set_option maxHeartbeats 4000000 in
theorem case_gates (K : lwK p s m meth c b L xs G) (hi : i + 6 ≤ L) (hI : LI G s b i H locs ls) (kk : ∀ (H : Heap) (locs : List Loc), LI G s b i H locs ls → WL p l e s m below meth c b H locs 1519 ls []) : WL p l e s m below meth c b H locs 1140 ls [] := by
  obtain ⟨⟨hx, hb, hr, hml, hown, hts, hX, hbl, hlocks, hgv⟩, hL, hN, hT, hK⟩ := K
  have ht0 : ∀ w ∈ gtbl, w.before #[Value.ref b] s = true := fun w hw => hts w (gtbl_sub hw)
  have hA : ∀ q : Nat, s.heap.size ≤ q → lwA s q := fun _ h => h
  obtain ⟨ca, ci, cf, st, bx, hm, ma, mi, mf, tl, sv, hP, hD, hS, ⟨n, k, bk, a, u, Lt, uu, pos, h⟩, hl⟩ := hI
  have hs : st a = some (tl (pos a)).1 := h.hs
  have hn : st (nxA a) = some (tl (pos (nxA a))).1 := h.hn
  have hz : st 0 = some (tl (pos 0)).1 := h.ps 0 (by decide)
  have hk1 : pos a < 15 := by have := h.pl; omega
  have hk2 : pos (nxA a) < 15 := by have := h.pn; omega
  have hk0 : pos 0 < 15 := by have := h.gl.2.1 0 (by decide); omega
  obtain ⟨e1, e2, hSR⟩ := h.cur
  obtain ⟨F, hF⟩ : ∃ F : Nat, 3000000 < F := ⟨3000001, by decide⟩
  obtain ⟨r, y, z, q1, q2⟩ := Q_gates (F := F) (by omega) h.ha hs h.hb hSR (ci 32) (ci 33) (ci 34) (mi 44) (cf 29) (cf 30) (cf 31) (cf 32) (cf 33) (cf 34) (mf 38) (mf 39) (mf 40) (mf 41) (mf 42) (mf 43) (xs (i + 1))
  try simp only [← h.at_, ← h.last, ← e1, ← e2] at q1
  try simp only [← h.bank, ← h.acts, ← h.und] at q2
  refine lv_aload_n hx hb dL_1140 rfl (lv_at hl 1 rfl) ?_
  refine arg_push (j := 1) hx hb hX hbl hS (lv_at hl 0 rfl) (lv_at hl 3 rfl) hL hi (by decide) rfl dL_1141 dL_1142 dL_1143 dL_1144 dL_1145 ?_
  have hpm := pool1 (G := G) (tl := tl) (sv := sv) hk1 (wC G ca ci cf st bx) (wM G hm ma mi mf)
  have hP := hP.perm hpm
  have hD := hD.perm hpm
  refine cl_FS (w2 := wC G ca (updI (updI (updI ci 32 y.1) 33 y.2.1) 34 y.2.2.1) (updA (updA (updA (updA (updA (updA cf 29 y.2.2.2.1) 30 y.2.2.2.2.1) 31 y.2.2.2.2.2.1) 32 y.2.2.2.2.2.2.1) 33 y.2.2.2.2.2.2.2.1) 34 y.2.2.2.2.2.2.2.2) st bx ++ clu G (tl (pos a)) (sv (pos a))) (As := [.int (xs (i + 1))]) (rest := []) ⟨hx, hb, hml, hown, ht0⟩ (c_X10_gates l (gWith G (allS tl)) (ca 0) (ca 15) (ca 16) (ca 28) (ca 29) (ca 30) (ca 31) (ca 32) (ca 33) (ca 34) ((tl (pos a)).2.1) ((tl (pos a)).2.2.1.1) (ca 2) (ca 1) (ca 4) (ca 17) (ca 18) (ca 19) (ca 20) (ca 35) (ca 39) ((tl (pos a)).2.2.1.2.1) ((tl (pos a)).2.2.1.2.2) ((tl (pos a)).1) ((tl (pos a)).2.2.2.1) _ (ci 0) (ci 1) (ci 18) (ci 19) st (ci 32) (ci 33) (ci 34) (cf 29) (cf 30) (cf 31) (cf 32) (cf 33) (cf 34) ((sv (pos a)).1) ((sv (pos a)).2.1) ((sv (pos a)).2.2.1) ((sv (pos a)).2.2.2.1) F (xs (i + 1)) (tri_in hk1) _ _ _ _ _ _ _ _ _ _ q1) yk_X10_gates wd_1113 ⟨rfl, rfl, Nat.le_of_ble_eq_true rfl, Nat.le_of_ble_eq_true rfl⟩ ⟨Nat.le_of_ble_eq_true rfl, Nat.le_of_ble_eq_true rfl⟩ hN hT hK hP hD hS hA [true, false, false, false, false, false, false, false, false, false, false, false, false, false, false, true, true, false, false, false, false, false, false, false, false, false, false, false, true, true, true, true, true, true, true, false, false, false, false, false, false, false, false, false, false, false, true, true] (va_recv hK hP (ci := 10) (q0 := 0) rfl rfl) hpm rfl rfl (Nat.le_of_ble_eq_true rfl) rfl rfl rfl rfl hl.1 rfl (Nat.le_of_ble_eq_true rfl) dL_1146 (fun H locs hP hD hS => ?_)
  have hpb := (pool1 (G := G) (tl := tl) (sv := sv) hk1 (wC G ca (updI (updI (updI ci 32 y.1) 33 y.2.1) 34 y.2.2.1) (updA (updA (updA (updA (updA (updA cf 29 y.2.2.2.1) 30 y.2.2.2.2.1) 31 y.2.2.2.2.2.1) 32 y.2.2.2.2.2.2.1) 33 y.2.2.2.2.2.2.2.1) 34 y.2.2.2.2.2.2.2.2) st bx) (wM G hm ma mi mf)).symm
  have hP := (hP.perm hpb).perm pmod
  have hD := (hD.perm hpb).perm pmod
  refine lv_aload_n hx hb dL_1149 rfl (lv_at hl 2 rfl) ?_
  refine arg_push (j := 1) hx hb hX hbl hS (lv_at hl 0 rfl) (lv_at hl 3 rfl) hL hi (by decide) rfl dL_1150 dL_1151 dL_1152 dL_1153 dL_1154 ?_
  refine cl_F0 (w2 := wM G hm ma (updI mi 44 z.1) (updA (updA (updA (updA (updA (updA mf 38 z.2.1) 39 z.2.2.1) 40 z.2.2.2.1) 41 z.2.2.2.2.1) 42 z.2.2.2.2.2.1) 43 z.2.2.2.2.2.2)) (As := [.int (xs (i + 1))]) (rest := [.int r]) ⟨hx, hb, hml, hown, ht0⟩ (c_X11_gates l (gWith G []) hm (ma 0) (ma 1) (ma 2) (ma 38) (ma 39) (ma 40) (ma 41) (ma 42) (ma 43) (ma 3) (ma 4) (ma 6) (ma 18) (ma 21) (ma 22) (ma 23) (ma 24) (ma 25) (ma 26) (ma 33) (ma 34) (ma 45) (ma 46) (ma 47) (ma 48) _ (mi 5) (mi 7) (mi 8) (mi 9) (mi 10) (mi 11) (mi 12) (mi 13) (mi 14) (mi 15) (mi 16) (mi 17) (mi 19) (mi 20) (mi 27) (mi 28) (mi 29) (mi 30) (mi 31) (mi 32) (mi 35) (mi 36) (mi 37) (mi 44) (mi 49) (mi 50) (mf 0) (mf 1) (mf 2) (mf 38) (mf 39) (mf 40) (mf 41) (mf 42) (mf 43) F (xs (i + 1)) _ _ _ _ _ _ _ _ q2) yk_X11_gates wd_1889 ⟨rfl, rfl, Nat.le_of_ble_eq_true rfl, Nat.le_of_ble_eq_true rfl⟩ ⟨Nat.le_of_ble_eq_true rfl, Nat.le_of_ble_eq_true rfl⟩ hN hT hK hP hD hS hA [true, true, true, true, false, false, false, false, false, false, false, false, false, false, false, false, true, true, true, true, true, true] (va_recv hK hP (ci := 11) (q0 := 0) rfl rfl) rfl (Nat.le_of_ble_eq_true rfl) rfl rfl rfl rfl hl.1 rfl (Nat.le_of_ble_eq_true rfl) dL_1155 (fun H locs hP hD hS => ?_)
  have hP := hP.perm (pmod (a := wC G ca (updI (updI (updI ci 32 y.1) 33 y.2.1) 34 y.2.2.1) (updA (updA (updA (updA (updA (updA cf 29 y.2.2.2.1) 30 y.2.2.2.2.1) 31 y.2.2.2.2.2.1) 32 y.2.2.2.2.2.2.1) 33 y.2.2.2.2.2.2.2.1) 34 y.2.2.2.2.2.2.2.2) st bx)).symm
  have hD := hD.perm (pmod (a := wC G ca (updI (updI (updI ci 32 y.1) 33 y.2.1) 34 y.2.2.1) (updA (updA (updA (updA (updA (updA cf 29 y.2.2.2.1) 30 y.2.2.2.2.1) 31 y.2.2.2.2.2.1) 32 y.2.2.2.2.2.2.1) 33 y.2.2.2.2.2.2.2.1) 34 y.2.2.2.2.2.2.2.2) st bx)).symm
  refine lv_icmp_eq (tgt := 1519) hx hb dL_1158 (by decide) (fun _ => kk _ _ ⟨ca, (updI (updI (updI ci 32 y.1) 33 y.2.1) 34 y.2.2.1), (updA (updA (updA (updA (updA (updA cf 29 y.2.2.2.1) 30 y.2.2.2.2.1) 31 y.2.2.2.2.2.1) 32 y.2.2.2.2.2.2.1) 33 y.2.2.2.2.2.2.2.1) 34 y.2.2.2.2.2.2.2.2), st, bx, hm, ma, (updI mi 44 z.1), (updA (updA (updA (updA (updA (updA mf 38 z.2.1) 39 z.2.2.1) 40 z.2.2.2.1) 41 z.2.2.2.2.1) 42 z.2.2.2.2.2.1) 43 z.2.2.2.2.2.2), tl, sv, hP, hD, hS, ?_, hl⟩) (fun q => absurd rfl q)
  exact h.same (fun _ _ => rfl) ⟨⟨rfl, rfl, rfl, rfl, rfl, rfl, rfl, rfl, rfl, rfl, rfl, rfl⟩, ⟨rfl, rfl, rfl⟩, rfl, rfl, rfl, rfl, rfl⟩
set_option maxRecDepth 100000 in
set_option maxHeartbeats 4000000 in
theorem case_shared (K : lwK p s m meth c b L xs G) (hi : i + 6 ≤ L) (hI : LI G s b i H locs ls) (kk : ∀ (H : Heap) (locs : List Loc), LI G s b i H locs ls → WL p l e s m below meth c b H locs 1519 ls []) : WL p l e s m below meth c b H locs 1163 ls [] := by
  obtain ⟨⟨hx, hb, hr, hml, hown, hts, hX, hbl, hlocks, hgv⟩, hL, hN, hT, hK⟩ := K
  have ht0 : ∀ w ∈ gtbl, w.before #[Value.ref b] s = true := fun w hw => hts w (gtbl_sub hw)
  have hA : ∀ q : Nat, s.heap.size ≤ q → lwA s q := fun _ h => h
  obtain ⟨ca, ci, cf, st, bx, hm, ma, mi, mf, tl, sv, hP, hD, hS, ⟨n, k, bk, a, u, Lt, uu, pos, h⟩, hl⟩ := hI
  have hs : st a = some (tl (pos a)).1 := h.hs
  have hn : st (nxA a) = some (tl (pos (nxA a))).1 := h.hn
  have hz : st 0 = some (tl (pos 0)).1 := h.ps 0 (by decide)
  have hk1 : pos a < 15 := by have := h.pl; omega
  have hk2 : pos (nxA a) < 15 := by have := h.pn; omega
  have hk0 : pos 0 < 15 := by have := h.gl.2.1 0 (by decide); omega
  obtain ⟨e1, e2, hSR⟩ := h.cur
  obtain ⟨F, hF⟩ : ∃ F : Nat, 3000000 < F := ⟨3000001, by decide⟩
  obtain ⟨r, y, z, q1, q2⟩ := Q_shared (F := F) (by omega) h.ha hs h.hb hSR (ci 32) (ci 33) (ci 34) (mi 44) (cf 29) (cf 30) (cf 31) (cf 32) (cf 33) (mf 38) (mf 39) (mf 40) (mf 41) (mf 42) (xs (i + 1)) (xs (i + 2))
  try simp only [← h.at_, ← h.last, ← e1, ← e2] at q1
  try simp only [← h.bank, ← h.acts, ← h.und] at q2
  refine lv_aload_n hx hb dL_1163 rfl (lv_at hl 1 rfl) ?_
  refine arg_push (j := 1) hx hb hX hbl hS (lv_at hl 0 rfl) (lv_at hl 3 rfl) hL hi (by decide) rfl dL_1164 dL_1165 dL_1166 dL_1167 dL_1168 ?_
  refine arg_push (j := 2) hx hb hX hbl hS (lv_at hl 0 rfl) (lv_at hl 3 rfl) hL hi (by decide) rfl dL_1169 dL_1170 dL_1171 dL_1172 dL_1173 ?_
  have hpm := pool1 (G := G) (tl := tl) (sv := sv) hk1 (wC G ca ci cf st bx) (wM G hm ma mi mf)
  have hP := hP.perm hpm
  have hD := hD.perm hpm
  refine cl_FS (w2 := wC G ca (updI (updI (updI ci 32 y.1) 33 y.2.1) 34 y.2.2.1) (updA (updA (updA (updA (updA cf 29 y.2.2.2.1) 30 y.2.2.2.2.1) 31 y.2.2.2.2.2.1) 32 y.2.2.2.2.2.2.1) 33 y.2.2.2.2.2.2.2) st bx ++ clu G (tl (pos a)) (sv (pos a))) (As := [.int (xs (i + 1)), .int (xs (i + 2))]) (rest := []) ⟨hx, hb, hml, hown, ht0⟩ (c_X10_shared l (gWith G (allS tl)) (ca 0) (ca 15) (ca 16) (ca 28) (ca 29) (ca 30) (ca 31) (ca 32) (ca 33) ((tl (pos a)).2.1) ((tl (pos a)).2.2.1.1) (ca 2) (ca 1) (ca 4) (ca 17) (ca 18) (ca 19) (ca 20) (ca 35) (ca 39) (ca 34) ((tl (pos a)).2.2.1.2.1) ((tl (pos a)).2.2.1.2.2) ((tl (pos a)).1) ((tl (pos a)).2.2.2.1) _ (ci 0) (ci 1) (ci 18) (ci 19) st (ci 32) (ci 33) (ci 34) (cf 29) (cf 30) (cf 31) (cf 32) (cf 33) ((sv (pos a)).1) ((sv (pos a)).2.1) ((sv (pos a)).2.2.1) ((sv (pos a)).2.2.2.1) F (xs (i + 1)) (xs (i + 2)) (tri_in hk1) _ _ _ _ _ _ _ _ _ q1) yk_X10_shared wd_1158 ⟨rfl, rfl, Nat.le_of_ble_eq_true rfl, Nat.le_of_ble_eq_true rfl⟩ ⟨Nat.le_of_ble_eq_true rfl, Nat.le_of_ble_eq_true rfl⟩ hN hT hK hP hD hS hA [true, false, false, false, false, false, false, false, false, false, false, false, false, false, false, true, true, false, false, false, false, false, false, false, false, false, false, false, true, true, true, true, true, true, false, false, false, false, false, false, false, false, false, false, false, false, true, true] (va_recv hK hP (ci := 10) (q0 := 0) rfl rfl) hpm rfl rfl (Nat.le_of_ble_eq_true rfl) rfl rfl rfl rfl hl.1 rfl (Nat.le_of_ble_eq_true rfl) dL_1174 (fun H locs hP hD hS => ?_)
  have hpb := (pool1 (G := G) (tl := tl) (sv := sv) hk1 (wC G ca (updI (updI (updI ci 32 y.1) 33 y.2.1) 34 y.2.2.1) (updA (updA (updA (updA (updA cf 29 y.2.2.2.1) 30 y.2.2.2.2.1) 31 y.2.2.2.2.2.1) 32 y.2.2.2.2.2.2.1) 33 y.2.2.2.2.2.2.2) st bx) (wM G hm ma mi mf)).symm
  have hP := (hP.perm hpb).perm pmod
  have hD := (hD.perm hpb).perm pmod
  refine lv_aload_n hx hb dL_1177 rfl (lv_at hl 2 rfl) ?_
  refine arg_push (j := 1) hx hb hX hbl hS (lv_at hl 0 rfl) (lv_at hl 3 rfl) hL hi (by decide) rfl dL_1178 dL_1179 dL_1180 dL_1181 dL_1182 ?_
  refine arg_push (j := 2) hx hb hX hbl hS (lv_at hl 0 rfl) (lv_at hl 3 rfl) hL hi (by decide) rfl dL_1183 dL_1184 dL_1185 dL_1186 dL_1187 ?_
  refine cl_F0 (w2 := wM G hm ma (updI mi 44 z.1) (updA (updA (updA (updA (updA mf 38 z.2.1) 39 z.2.2.1) 40 z.2.2.2.1) 41 z.2.2.2.2.1) 42 z.2.2.2.2.2)) (As := [.int (xs (i + 1)), .int (xs (i + 2))]) (rest := [.int r]) ⟨hx, hb, hml, hown, ht0⟩ (c_X11_shared l (gWith G []) hm (ma 0) (ma 1) (ma 38) (ma 39) (ma 40) (ma 41) (ma 42) (ma 2) (ma 3) (ma 4) (ma 6) (ma 18) (ma 21) (ma 22) (ma 23) (ma 24) (ma 25) (ma 26) (ma 33) (ma 34) (ma 43) (ma 45) (ma 46) (ma 47) (ma 48) _ (mi 5) (mi 7) (mi 8) (mi 9) (mi 10) (mi 11) (mi 12) (mi 13) (mi 14) (mi 15) (mi 16) (mi 17) (mi 19) (mi 20) (mi 27) (mi 28) (mi 29) (mi 30) (mi 31) (mi 32) (mi 35) (mi 36) (mi 37) (mi 44) (mi 49) (mi 50) (mf 0) (mf 1) (mf 38) (mf 39) (mf 40) (mf 41) (mf 42) F (xs (i + 1)) (xs (i + 2)) _ _ _ _ _ _ _ q2) yk_X11_shared wd_1909 ⟨rfl, rfl, Nat.le_of_ble_eq_true rfl, Nat.le_of_ble_eq_true rfl⟩ ⟨Nat.le_of_ble_eq_true rfl, Nat.le_of_ble_eq_true rfl⟩ hN hT hK hP hD hS hA [true, true, true, false, false, false, false, false, false, false, false, false, false, false, false, false, true, true, true, true, true] (va_recv hK hP (ci := 11) (q0 := 0) rfl rfl) rfl (Nat.le_of_ble_eq_true rfl) rfl rfl rfl rfl hl.1 rfl (Nat.le_of_ble_eq_true rfl) dL_1188 (fun H locs hP hD hS => ?_)
  have hP := hP.perm (pmod (a := wC G ca (updI (updI (updI ci 32 y.1) 33 y.2.1) 34 y.2.2.1) (updA (updA (updA (updA (updA cf 29 y.2.2.2.1) 30 y.2.2.2.2.1) 31 y.2.2.2.2.2.1) 32 y.2.2.2.2.2.2.1) 33 y.2.2.2.2.2.2.2) st bx)).symm
  have hD := hD.perm (pmod (a := wC G ca (updI (updI (updI ci 32 y.1) 33 y.2.1) 34 y.2.2.1) (updA (updA (updA (updA (updA cf 29 y.2.2.2.1) 30 y.2.2.2.2.1) 31 y.2.2.2.2.2.1) 32 y.2.2.2.2.2.2.1) 33 y.2.2.2.2.2.2.2) st bx)).symm
  refine lv_icmp_eq (tgt := 1519) hx hb dL_1191 (by decide) (fun _ => kk _ _ ⟨ca, (updI (updI (updI ci 32 y.1) 33 y.2.1) 34 y.2.2.1), (updA (updA (updA (updA (updA cf 29 y.2.2.2.1) 30 y.2.2.2.2.1) 31 y.2.2.2.2.2.1) 32 y.2.2.2.2.2.2.1) 33 y.2.2.2.2.2.2.2), st, bx, hm, ma, (updI mi 44 z.1), (updA (updA (updA (updA (updA mf 38 z.2.1) 39 z.2.2.1) 40 z.2.2.2.1) 41 z.2.2.2.2.1) 42 z.2.2.2.2.2), tl, sv, hP, hD, hS, ?_, hl⟩) (fun q => absurd rfl q)
  exact h.same (fun _ _ => rfl) ⟨⟨rfl, rfl, rfl, rfl, rfl, rfl, rfl, rfl, rfl, rfl, rfl, rfl⟩, ⟨rfl, rfl, rfl⟩, rfl, rfl, rfl, rfl, rfl⟩
set_option maxRecDepth 100000 in
set_option maxHeartbeats 4000000 in
theorem case_threes (K : lwK p s m meth c b L xs G) (hi : i + 6 ≤ L) (hI : LI G s b i H locs ls) (kk : ∀ (H : Heap) (locs : List Loc), LI G s b i H locs ls → WL p l e s m below meth c b H locs 1519 ls []) : WL p l e s m below meth c b H locs 1058 ls [] := by
  obtain ⟨⟨hx, hb, hr, hml, hown, hts, hX, hbl, hlocks, hgv⟩, hL, hN, hT, hK⟩ := K
  have ht0 : ∀ w ∈ gtbl, w.before #[Value.ref b] s = true := fun w hw => hts w (gtbl_sub hw)
  have hA : ∀ q : Nat, s.heap.size ≤ q → lwA s q := fun _ h => h
  obtain ⟨ca, ci, cf, st, bx, hm, ma, mi, mf, tl, sv, hP, hD, hS, ⟨n, k, bk, a, u, Lt, uu, pos, h⟩, hl⟩ := hI
  have hs : st a = some (tl (pos a)).1 := h.hs
  have hn : st (nxA a) = some (tl (pos (nxA a))).1 := h.hn
  have hz : st 0 = some (tl (pos 0)).1 := h.ps 0 (by decide)
  have hk1 : pos a < 15 := by have := h.pl; omega
  have hk2 : pos (nxA a) < 15 := by have := h.pn; omega
  have hk0 : pos 0 < 15 := by have := h.gl.2.1 0 (by decide); omega
  obtain ⟨e1, e2, hSR⟩ := h.cur
  obtain ⟨F, hF⟩ : ∃ F : Nat, 3000000 < F := ⟨3000001, by decide⟩
  obtain ⟨r, T', q1, q2⟩ := Q_threes (F := F) (by omega) h.ha hs h.hb hSR (mf 34) (xs (i + 1))
  try simp only [← h.at_, ← h.last, ← e1, ← e2] at q1
  try simp only [← h.bank, ← h.acts, ← h.und] at q2
  refine lv_aload_n hx hb dL_1058 rfl (lv_at hl 1 rfl) ?_
  refine arg_push (j := 1) hx hb hX hbl hS (lv_at hl 0 rfl) (lv_at hl 3 rfl) hL hi (by decide) rfl dL_1059 dL_1060 dL_1061 dL_1062 dL_1063 ?_
  have hpm := pool1 (G := G) (tl := tl) (sv := sv) hk1 (wC G ca ci cf st bx) (wM G hm ma mi mf)
  have hP := hP.perm hpm
  have hD := hD.perm hpm
  refine cl_FS (w2 := wC G ca ci cf st bx ++ clu G (tl (pos a)) (sv (pos a))) (As := [.int (xs (i + 1))]) (rest := []) ⟨hx, hb, hml, hown, ht0⟩ (c_X10_threes l (gWith G (allS tl)) (ca 0) (ca 15) (ca 16) (ca 20) ((tl (pos a)).2.1) ((tl (pos a)).2.2.1.1) ((tl (pos a)).2.2.1.2.1) (ca 2) (ca 1) (ca 4) (ca 17) (ca 18) (ca 19) (ca 28) (ca 35) (ca 39) (ca 21) (ca 22) (ca 23) (ca 27) ((tl (pos a)).2.2.1.2.2) ((tl (pos a)).1) ((tl (pos a)).2.2.2.1) _ (ci 0) (ci 1) (ci 18) (ci 19) st (ci 23) (ci 24) (ci 25) ((sv (pos a)).1) ((sv (pos a)).2.1) ((sv (pos a)).2.2.1) ((sv (pos a)).2.2.2.1) ((sv (pos a)).2.2.2.2.1) F (xs (i + 1)) (tri_in hk1) _ q1) yk_X10_threes wd_1079 ⟨rfl, rfl, Nat.le_of_ble_eq_true rfl, Nat.le_of_ble_eq_true rfl⟩ ⟨Nat.le_of_ble_eq_true rfl, Nat.le_of_ble_eq_true rfl⟩ hN hT hK hP hD hS hA [true, false, false, false, false, false, false, false, false, false, false, false, false, false, false, true, true, false, false, false, true, false, false, false, false, false, false, false, false, false, false, false, false, false, false, false, false, false, false, false, false, false, false, false, false, false, true, true, true] (va_recv hK hP (ci := 10) (q0 := 0) rfl rfl) hpm rfl rfl (Nat.le_of_ble_eq_true rfl) rfl rfl rfl rfl hl.1 rfl (Nat.le_of_ble_eq_true rfl) dL_1064 (fun H locs hP hD hS => ?_)
  have hpb := (pool1 (G := G) (tl := tl) (sv := sv) hk1 (wC G ca ci cf st bx) (wM G hm ma mi mf)).symm
  have hP := (hP.perm hpb).perm pmod
  have hD := (hD.perm hpb).perm pmod
  refine lv_aload_n hx hb dL_1067 rfl (lv_at hl 2 rfl) ?_
  refine arg_push (j := 1) hx hb hX hbl hS (lv_at hl 0 rfl) (lv_at hl 3 rfl) hL hi (by decide) rfl dL_1068 dL_1069 dL_1070 dL_1071 dL_1072 ?_
  refine cl_F0 (w2 := wM G hm ma mi (updA mf 34 T')) (As := [.int (xs (i + 1))]) (rest := [.int r]) ⟨hx, hb, hml, hown, ht0⟩ (c_X11_threes l (gWith G []) hm (ma 0) (ma 1) (ma 2) (ma 34) (ma 3) (ma 4) (ma 6) (ma 18) (ma 21) (ma 22) (ma 23) (ma 24) (ma 25) (ma 26) (ma 33) (ma 38) (ma 39) (ma 40) (ma 41) (ma 42) (ma 43) (ma 45) (ma 46) (ma 47) (ma 48) _ (mi 5) (mi 7) (mi 8) (mi 9) (mi 10) (mi 11) (mi 12) (mi 13) (mi 14) (mi 15) (mi 16) (mi 17) (mi 19) (mi 20) (mi 27) (mi 28) (mi 29) (mi 30) (mi 31) (mi 32) (mi 35) (mi 36) (mi 37) (mi 44) (mi 49) (mi 50) (mf 0) (mf 1) (mf 2) (mf 34) F (xs (i + 1)) _ _ q2) yk_X11_threes wd_1837 ⟨rfl, rfl, Nat.le_of_ble_eq_true rfl, Nat.le_of_ble_eq_true rfl⟩ ⟨Nat.le_of_ble_eq_true rfl, Nat.le_of_ble_eq_true rfl⟩ hN hT hK hP hD hS hA [true, true, true, true, false, false, false, false, false, false, false, false, false, false, false, true] (va_recv hK hP (ci := 11) (q0 := 0) rfl rfl) rfl (Nat.le_of_ble_eq_true rfl) rfl rfl rfl rfl hl.1 rfl (Nat.le_of_ble_eq_true rfl) dL_1073 (fun H locs hP hD hS => ?_)
  have hP := hP.perm (pmod (a := wC G ca ci cf st bx)).symm
  have hD := hD.perm (pmod (a := wC G ca ci cf st bx)).symm
  refine lv_icmp_eq (tgt := 1519) hx hb dL_1076 (by decide) (fun _ => kk _ _ ⟨ca, ci, cf, st, bx, hm, ma, mi, (updA mf 34 T'), tl, sv, hP, hD, hS, ?_, hl⟩) (fun q => absurd rfl q)
  exact h.same (fun _ _ => rfl) ⟨⟨rfl, rfl, rfl, rfl, rfl, rfl, rfl, rfl, rfl, rfl, rfl, rfl⟩, ⟨rfl, rfl, rfl⟩, rfl, rfl, rfl, rfl, rfl⟩
set_option maxRecDepth 100000 in
set_option maxHeartbeats 4000000 in
theorem case_fours (K : lwK p s m meth c b L xs G) (hi : i + 6 ≤ L) (hI : LI G s b i H locs ls) (kk : ∀ (H : Heap) (locs : List Loc), LI G s b i H locs ls → WL p l e s m below meth c b H locs 1519 ls []) : WL p l e s m below meth c b H locs 1081 ls [] := by
  obtain ⟨⟨hx, hb, hr, hml, hown, hts, hX, hbl, hlocks, hgv⟩, hL, hN, hT, hK⟩ := K
  have ht0 : ∀ w ∈ gtbl, w.before #[Value.ref b] s = true := fun w hw => hts w (gtbl_sub hw)
  have hA : ∀ q : Nat, s.heap.size ≤ q → lwA s q := fun _ h => h
  obtain ⟨ca, ci, cf, st, bx, hm, ma, mi, mf, tl, sv, hP, hD, hS, ⟨n, k, bk, a, u, Lt, uu, pos, h⟩, hl⟩ := hI
  have hs : st a = some (tl (pos a)).1 := h.hs
  have hn : st (nxA a) = some (tl (pos (nxA a))).1 := h.hn
  have hz : st 0 = some (tl (pos 0)).1 := h.ps 0 (by decide)
  have hk1 : pos a < 15 := by have := h.pl; omega
  have hk2 : pos (nxA a) < 15 := by have := h.pn; omega
  have hk0 : pos 0 < 15 := by have := h.gl.2.1 0 (by decide); omega
  obtain ⟨e1, e2, hSR⟩ := h.cur
  obtain ⟨F, hF⟩ : ∃ F : Nat, 3000000 < F := ⟨3000001, by decide⟩
  obtain ⟨r, T', q1, q2⟩ := Q_fours (F := F) (by omega) h.ha hs h.hb hSR (mf 34)
  try simp only [← h.at_, ← h.last, ← e1, ← e2] at q1
  try simp only [← h.bank, ← h.acts, ← h.und] at q2
  refine lv_aload_n hx hb dL_1081 rfl (lv_at hl 1 rfl) ?_
  have hpm := pool1 (G := G) (tl := tl) (sv := sv) hk1 (wC G ca ci cf st bx) (wM G hm ma mi mf)
  have hP := hP.perm hpm
  have hD := hD.perm hpm
  refine cl_FS (w2 := wC G ca ci cf st bx ++ clu G (tl (pos a)) (sv (pos a))) (As := []) (rest := []) ⟨hx, hb, hml, hown, ht0⟩ (c_X10_fours l (gWith G (allS tl)) (ca 0) (ca 15) (ca 16) (ca 20) ((tl (pos a)).2.1) ((tl (pos a)).2.2.1.1) ((tl (pos a)).2.2.1.2.1) (ca 2) (ca 1) (ca 4) (ca 17) (ca 18) (ca 19) (ca 28) (ca 35) (ca 39) (ca 21) (ca 22) (ca 23) (ca 27) ((tl (pos a)).2.2.1.2.2) ((tl (pos a)).1) ((tl (pos a)).2.2.2.1) _ (ci 0) (ci 1) (ci 18) (ci 19) st (ci 23) (ci 24) (ci 25) ((sv (pos a)).1) ((sv (pos a)).2.1) ((sv (pos a)).2.2.1) ((sv (pos a)).2.2.2.1) ((sv (pos a)).2.2.2.2.1) F (tri_in hk1) _ q1) yk_X10_fours wd_1087 ⟨rfl, rfl, Nat.le_of_ble_eq_true rfl, Nat.le_of_ble_eq_true rfl⟩ ⟨Nat.le_of_ble_eq_true rfl, Nat.le_of_ble_eq_true rfl⟩ hN hT hK hP hD hS hA [true, false, false, false, false, false, false, false, false, false, false, false, false, false, false, true, true, false, false, false, true, false, false, false, false, false, false, false, false, false, false, false, false, false, false, false, false, false, false, false, false, false, false, false, false, false, true, true, true] (va_recv hK hP (ci := 10) (q0 := 0) rfl rfl) hpm rfl rfl (Nat.le_of_ble_eq_true rfl) rfl rfl rfl rfl hl.1 rfl (Nat.le_of_ble_eq_true rfl) dL_1082 (fun H locs hP hD hS => ?_)
  have hpb := (pool1 (G := G) (tl := tl) (sv := sv) hk1 (wC G ca ci cf st bx) (wM G hm ma mi mf)).symm
  have hP := (hP.perm hpb).perm pmod
  have hD := (hD.perm hpb).perm pmod
  refine lv_aload_n hx hb dL_1085 rfl (lv_at hl 2 rfl) ?_
  refine cl_F0 (w2 := wM G hm ma mi (updA mf 34 T')) (As := []) (rest := [.int r]) ⟨hx, hb, hml, hown, ht0⟩ (c_X11_fours l (gWith G []) hm (ma 0) (ma 1) (ma 2) (ma 34) (ma 3) (ma 4) (ma 6) (ma 18) (ma 21) (ma 22) (ma 23) (ma 24) (ma 25) (ma 26) (ma 33) (ma 38) (ma 39) (ma 40) (ma 41) (ma 42) (ma 43) (ma 45) (ma 46) (ma 47) (ma 48) _ (mi 5) (mi 7) (mi 8) (mi 9) (mi 10) (mi 11) (mi 12) (mi 13) (mi 14) (mi 15) (mi 16) (mi 17) (mi 19) (mi 20) (mi 27) (mi 28) (mi 29) (mi 30) (mi 31) (mi 32) (mi 35) (mi 36) (mi 37) (mi 44) (mi 49) (mi 50) (mf 0) (mf 1) (mf 2) (mf 34) F _ _ q2) yk_X11_fours wd_1833 ⟨rfl, rfl, Nat.le_of_ble_eq_true rfl, Nat.le_of_ble_eq_true rfl⟩ ⟨Nat.le_of_ble_eq_true rfl, Nat.le_of_ble_eq_true rfl⟩ hN hT hK hP hD hS hA [true, true, true, true, false, false, false, false, false, false, false, false, false, false, false, true] (va_recv hK hP (ci := 11) (q0 := 0) rfl rfl) rfl (Nat.le_of_ble_eq_true rfl) rfl rfl rfl rfl hl.1 rfl (Nat.le_of_ble_eq_true rfl) dL_1086 (fun H locs hP hD hS => ?_)
  have hP := hP.perm (pmod (a := wC G ca ci cf st bx)).symm
  have hD := hD.perm (pmod (a := wC G ca ci cf st bx)).symm
  refine lv_icmp_eq (tgt := 1519) hx hb dL_1089 (by decide) (fun _ => kk _ _ ⟨ca, ci, cf, st, bx, hm, ma, mi, (updA mf 34 T'), tl, sv, hP, hD, hS, ?_, hl⟩) (fun q => absurd rfl q)
  exact h.same (fun _ _ => rfl) ⟨⟨rfl, rfl, rfl, rfl, rfl, rfl, rfl, rfl, rfl, rfl, rfl, rfl⟩, ⟨rfl, rfl, rfl⟩, rfl, rfl, rfl, rfl, rfl⟩
set_option maxRecDepth 100000 in
set_option maxHeartbeats 4000000 in
theorem case_twos (K : lwK p s m meth c b L xs G) (hi : i + 6 ≤ L) (hI : LI G s b i H locs ls) (kk : ∀ (H : Heap) (locs : List Loc), LI G s b i H locs ls → WL p l e s m below meth c b H locs 1519 ls []) : WL p l e s m below meth c b H locs 1094 ls [] := by
  obtain ⟨⟨hx, hb, hr, hml, hown, hts, hX, hbl, hlocks, hgv⟩, hL, hN, hT, hK⟩ := K
  have ht0 : ∀ w ∈ gtbl, w.before #[Value.ref b] s = true := fun w hw => hts w (gtbl_sub hw)
  have hA : ∀ q : Nat, s.heap.size ≤ q → lwA s q := fun _ h => h
  obtain ⟨ca, ci, cf, st, bx, hm, ma, mi, mf, tl, sv, hP, hD, hS, ⟨n, k, bk, a, u, Lt, uu, pos, h⟩, hl⟩ := hI
  have hs : st a = some (tl (pos a)).1 := h.hs
  have hn : st (nxA a) = some (tl (pos (nxA a))).1 := h.hn
  have hz : st 0 = some (tl (pos 0)).1 := h.ps 0 (by decide)
  have hk1 : pos a < 15 := by have := h.pl; omega
  have hk2 : pos (nxA a) < 15 := by have := h.pn; omega
  have hk0 : pos 0 < 15 := by have := h.gl.2.1 0 (by decide); omega
  obtain ⟨e1, e2, hSR⟩ := h.cur
  obtain ⟨F, hF⟩ : ∃ F : Nat, 3000000 < F := ⟨3000001, by decide⟩
  obtain ⟨r, T', q1, q2⟩ := Q_twos (F := F) (by omega) h.ha hs h.hb hSR (cf 22) (xs (i + 1))
  try simp only [← h.at_, ← h.last, ← e1, ← e2] at q1
  try simp only [← h.bank, ← h.acts, ← h.und] at q2
  refine lv_aload_n hx hb dL_1094 rfl (lv_at hl 1 rfl) ?_
  refine arg_push (j := 1) hx hb hX hbl hS (lv_at hl 0 rfl) (lv_at hl 3 rfl) hL hi (by decide) rfl dL_1095 dL_1096 dL_1097 dL_1098 dL_1099 ?_
  have hpm := pool1 (G := G) (tl := tl) (sv := sv) hk1 (wC G ca ci cf st bx) (wM G hm ma mi mf)
  have hP := hP.perm hpm
  have hD := hD.perm hpm
  refine cl_FS (w2 := wC G ca ci (updA cf 22 T') st bx ++ clu G (tl (pos a)) (sv (pos a))) (As := [.int (xs (i + 1))]) (rest := []) ⟨hx, hb, hml, hown, ht0⟩ (c_X10_twos l (gWith G (allS tl)) (ca 0) (ca 15) (ca 16) (ca 20) (ca 22) ((tl (pos a)).2.1) ((tl (pos a)).2.2.1.1) ((tl (pos a)).2.2.1.2.2) (ca 2) (ca 1) (ca 4) (ca 17) (ca 18) (ca 19) (ca 28) (ca 35) (ca 39) (ca 21) (ca 23) (ca 27) ((tl (pos a)).2.2.1.2.1) ((tl (pos a)).1) ((tl (pos a)).2.2.2.1) _ (ci 0) (ci 1) (ci 18) (ci 19) st (ci 23) (ci 24) (ci 25) (cf 22) ((sv (pos a)).1) ((sv (pos a)).2.1) ((sv (pos a)).2.2.1) ((sv (pos a)).2.2.2.1) ((sv (pos a)).2.2.2.2.2.1) F (xs (i + 1)) (tri_in hk1) _ _ q1) yk_X10_twos wd_1092 ⟨rfl, rfl, Nat.le_of_ble_eq_true rfl, Nat.le_of_ble_eq_true rfl⟩ ⟨Nat.le_of_ble_eq_true rfl, Nat.le_of_ble_eq_true rfl⟩ hN hT hK hP hD hS hA [true, false, false, false, false, false, false, false, false, false, false, false, false, false, false, true, true, false, false, false, true, false, true, false, false, false, false, false, false, false, false, false, false, false, false, false, false, false, false, false, false, false, false, false, false, false, true, true, false, true] (va_recv hK hP (ci := 10) (q0 := 0) rfl rfl) hpm rfl rfl (Nat.le_of_ble_eq_true rfl) rfl rfl rfl rfl hl.1 rfl (Nat.le_of_ble_eq_true rfl) dL_1100 (fun H locs hP hD hS => ?_)
  have hpb := (pool1 (G := G) (tl := tl) (sv := sv) hk1 (wC G ca ci (updA cf 22 T') st bx) (wM G hm ma mi mf)).symm
  have hP := (hP.perm hpb).perm pmod
  have hD := (hD.perm hpb).perm pmod
  refine lv_aload_n hx hb dL_1103 rfl (lv_at hl 2 rfl) ?_
  refine arg_push (j := 1) hx hb hX hbl hS (lv_at hl 0 rfl) (lv_at hl 3 rfl) hL hi (by decide) rfl dL_1104 dL_1105 dL_1106 dL_1107 dL_1108 ?_
  refine cl_F0 (w2 := wM G hm ma mi mf) (As := [.int (xs (i + 1))]) (rest := [.int r]) ⟨hx, hb, hml, hown, ht0⟩ (c_X11_twos l (gWith G []) hm (ma 0) (ma 1) (ma 2) (ma 3) (ma 4) (ma 6) (ma 18) (ma 21) (ma 22) (ma 23) (ma 24) (ma 25) (ma 26) (ma 33) (ma 34) (ma 38) (ma 39) (ma 40) (ma 41) (ma 42) (ma 43) (ma 45) (ma 46) (ma 47) (ma 48) _ (mi 5) (mi 7) (mi 8) (mi 9) (mi 10) (mi 11) (mi 12) (mi 13) (mi 14) (mi 15) (mi 16) (mi 17) (mi 19) (mi 20) (mi 27) (mi 28) (mi 29) (mi 30) (mi 31) (mi 32) (mi 35) (mi 36) (mi 37) (mi 44) (mi 49) (mi 50) (mf 0) (mf 1) (mf 2) F (xs (i + 1)) _ q2) yk_X11_twos wd_1845 ⟨rfl, rfl, Nat.le_of_ble_eq_true rfl, Nat.le_of_ble_eq_true rfl⟩ ⟨Nat.le_of_ble_eq_true rfl, Nat.le_of_ble_eq_true rfl⟩ hN hT hK hP hD hS hA [true, true, true, true] (va_recv hK hP (ci := 11) (q0 := 0) rfl rfl) rfl (Nat.le_of_ble_eq_true rfl) rfl rfl rfl rfl hl.1 rfl (Nat.le_of_ble_eq_true rfl) dL_1109 (fun H locs hP hD hS => ?_)
  have hP := hP.perm (pmod (a := wC G ca ci (updA cf 22 T') st bx)).symm
  have hD := hD.perm (pmod (a := wC G ca ci (updA cf 22 T') st bx)).symm
  refine lv_icmp_eq (tgt := 1519) hx hb dL_1112 (by decide) (fun _ => kk _ _ ⟨ca, ci, (updA cf 22 T'), st, bx, hm, ma, mi, mf, tl, sv, hP, hD, hS, ?_, hl⟩) (fun q => absurd rfl q)
  exact h.same (fun _ _ => rfl) ⟨⟨rfl, rfl, rfl, rfl, rfl, rfl, rfl, rfl, rfl, rfl, rfl, rfl⟩, ⟨rfl, rfl, rfl⟩, rfl, rfl, rfl, rfl, rfl⟩
set_option maxRecDepth 100000 in
set_option maxHeartbeats 4000000 in
theorem case_exchange (K : lwK p s m meth c b L xs G) (hi : i + 6 ≤ L) (hI : LI G s b i H locs ls) (kk : ∀ (H : Heap) (locs : List Loc), LI G s b i H locs ls → WL p l e s m below meth c b H locs 1519 ls []) : WL p l e s m below meth c b H locs 1229 ls [] := by
  obtain ⟨⟨hx, hb, hr, hml, hown, hts, hX, hbl, hlocks, hgv⟩, hL, hN, hT, hK⟩ := K
  have ht0 : ∀ w ∈ gtbl, w.before #[Value.ref b] s = true := fun w hw => hts w (gtbl_sub hw)
  have hA : ∀ q : Nat, s.heap.size ≤ q → lwA s q := fun _ h => h
  obtain ⟨ca, ci, cf, st, bx, hm, ma, mi, mf, tl, sv, hP, hD, hS, ⟨n, k, bk, a, u, Lt, uu, pos, h⟩, hl⟩ := hI
  have hs : st a = some (tl (pos a)).1 := h.hs
  have hn : st (nxA a) = some (tl (pos (nxA a))).1 := h.hn
  have hz : st 0 = some (tl (pos 0)).1 := h.ps 0 (by decide)
  have hk1 : pos a < 15 := by have := h.pl; omega
  have hk2 : pos (nxA a) < 15 := by have := h.pn; omega
  have hk0 : pos 0 < 15 := by have := h.gl.2.1 0 (by decide); omega
  obtain ⟨e1, e2, hSR⟩ := h.cur
  obtain ⟨F, hF⟩ : ∃ F : Nat, 3000000 < F := ⟨3000001, by decide⟩
  obtain ⟨r, y, T', q1, q2⟩ := Q_exchange (F := F) (by omega) h.ha hs h.hb hSR (ci 23) (ci 24) (ci 25) (ci 26) (ci 27) (ci 28) (ci 29) (ci 30) (ci 31) (cf 24) (cf 25) (cf 26) (mf 33) (xs (i + 1))
  try simp only [← h.at_, ← h.last, ← e1, ← e2] at q1
  try simp only [← h.bank, ← h.acts, ← h.und] at q2
  refine lv_aload_n hx hb dL_1229 rfl (lv_at hl 1 rfl) ?_
  refine arg_push (j := 1) hx hb hX hbl hS (lv_at hl 0 rfl) (lv_at hl 3 rfl) hL hi (by decide) rfl dL_1230 dL_1231 dL_1232 dL_1233 dL_1234 ?_
  have hpm := pool1 (G := G) (tl := tl) (sv := sv) hk1 (wC G ca ci cf st bx) (wM G hm ma mi mf)
  have hP := hP.perm hpm
  have hD := hD.perm hpm
  refine cl_FS (w2 := wC G ca (updI (updI (updI (updI (updI (updI (updI (updI (updI ci 23 y.1) 24 y.2.1) 25 y.2.2.1) 26 y.2.2.2.1) 27 y.2.2.2.2.1) 28 y.2.2.2.2.2.1) 29 y.2.2.2.2.2.2.2.2.2.1) 30 y.2.2.2.2.2.2.2.2.2.2.1) 31 y.2.2.2.2.2.2.2.2.2.2.2) (updA (updA (updA cf 24 y.2.2.2.2.2.2.1) 25 y.2.2.2.2.2.2.2.1) 26 y.2.2.2.2.2.2.2.2.1) st bx ++ clu G (tl (pos a)) (sv (pos a))) (As := [.int (xs (i + 1))]) (rest := []) ⟨hx, hb, hml, hown, ht0⟩ (c_X10_exchange l (gWith G (allS tl)) (ca 0) (ca 15) (ca 16) (ca 20) (ca 23) (ca 24) (ca 25) (ca 26) (ca 27) ((tl (pos a)).2.1) ((tl (pos a)).2.2.1.1) ((tl (pos a)).2.2.1.2.1) ((tl (pos a)).2.2.1.2.2) (ca 2) (ca 1) (ca 4) (ca 17) (ca 18) (ca 19) (ca 28) (ca 35) (ca 39) (ca 21) (ca 22) ((tl (pos a)).1) ((tl (pos a)).2.2.2.1) _ (ci 0) (ci 1) (ci 18) (ci 19) st (ci 23) (ci 24) (ci 25) (ci 26) (ci 27) (ci 28) (cf 24) (cf 25) (cf 26) (ci 29) (ci 30) (ci 31) ((sv (pos a)).1) ((sv (pos a)).2.1) ((sv (pos a)).2.2.1) ((sv (pos a)).2.2.2.1) ((sv (pos a)).2.2.2.2.1) ((sv (pos a)).2.2.2.2.2.1) F (xs (i + 1)) (tri_in hk1) _ _ _ _ _ _ _ _ _ _ _ _ _ q1) yk_X10_exchange wd_1190 ⟨rfl, rfl, Nat.le_of_ble_eq_true rfl, Nat.le_of_ble_eq_true rfl⟩ ⟨Nat.le_of_ble_eq_true rfl, Nat.le_of_ble_eq_true rfl⟩ hN hT hK hP hD hS hA [true, false, false, false, false, false, false, false, false, false, false, false, false, false, false, true, true, false, false, false, true, false, false, true, true, true, true, true, false, false, false, false, false, false, false, false, false, false, false, false, false, false, false, false, false, false, true, true, true, true] (va_recv hK hP (ci := 10) (q0 := 0) rfl rfl) hpm rfl rfl (Nat.le_of_ble_eq_true rfl) rfl rfl rfl rfl hl.1 rfl (Nat.le_of_ble_eq_true rfl) dL_1235 (fun H locs hP hD hS => ?_)
  have hpb := (pool1 (G := G) (tl := tl) (sv := sv) hk1 (wC G ca (updI (updI (updI (updI (updI (updI (updI (updI (updI ci 23 y.1) 24 y.2.1) 25 y.2.2.1) 26 y.2.2.2.1) 27 y.2.2.2.2.1) 28 y.2.2.2.2.2.1) 29 y.2.2.2.2.2.2.2.2.2.1) 30 y.2.2.2.2.2.2.2.2.2.2.1) 31 y.2.2.2.2.2.2.2.2.2.2.2) (updA (updA (updA cf 24 y.2.2.2.2.2.2.1) 25 y.2.2.2.2.2.2.2.1) 26 y.2.2.2.2.2.2.2.2.1) st bx) (wM G hm ma mi mf)).symm
  have hP := (hP.perm hpb).perm pmod
  have hD := (hD.perm hpb).perm pmod
  refine lv_aload_n hx hb dL_1238 rfl (lv_at hl 2 rfl) ?_
  refine arg_push (j := 1) hx hb hX hbl hS (lv_at hl 0 rfl) (lv_at hl 3 rfl) hL hi (by decide) rfl dL_1239 dL_1240 dL_1241 dL_1242 dL_1243 ?_
  refine cl_F0 (w2 := wM G hm ma mi (updA (updA mf 0 (mf 0)) 33 T')) (As := [.int (xs (i + 1))]) (rest := [.int r]) ⟨hx, hb, hml, hown, ht0⟩ (c_X11_exchange l (gWith G []) hm (ma 0) (ma 1) (ma 2) (ma 33) (ma 3) (ma 4) (ma 6) (ma 18) (ma 21) (ma 22) (ma 23) (ma 24) (ma 25) (ma 26) (ma 34) (ma 38) (ma 39) (ma 40) (ma 41) (ma 42) (ma 43) (ma 45) (ma 46) (ma 47) (ma 48) _ (mi 5) (mi 7) (mi 8) (mi 9) (mi 10) (mi 11) (mi 12) (mi 13) (mi 14) (mi 15) (mi 16) (mi 17) (mi 19) (mi 20) (mi 27) (mi 28) (mi 29) (mi 30) (mi 31) (mi 32) (mi 35) (mi 36) (mi 37) (mi 44) (mi 49) (mi 50) (mf 0) (mf 1) (mf 2) (mf 33) F (xs (i + 1)) _ _ _ q2) yk_X11_exchange wd_1885 ⟨rfl, rfl, Nat.le_of_ble_eq_true rfl, Nat.le_of_ble_eq_true rfl⟩ ⟨Nat.le_of_ble_eq_true rfl, Nat.le_of_ble_eq_true rfl⟩ hN hT hK hP hD hS hA [true, true, true, true, false, false, false, false, false, false, false, false, false, false, true] (va_recv hK hP (ci := 11) (q0 := 0) rfl rfl) rfl (Nat.le_of_ble_eq_true rfl) rfl rfl rfl rfl hl.1 rfl (Nat.le_of_ble_eq_true rfl) dL_1244 (fun H locs hP hD hS => ?_)
  have hP := hP.perm (pmod (a := wC G ca (updI (updI (updI (updI (updI (updI (updI (updI (updI ci 23 y.1) 24 y.2.1) 25 y.2.2.1) 26 y.2.2.2.1) 27 y.2.2.2.2.1) 28 y.2.2.2.2.2.1) 29 y.2.2.2.2.2.2.2.2.2.1) 30 y.2.2.2.2.2.2.2.2.2.2.1) 31 y.2.2.2.2.2.2.2.2.2.2.2) (updA (updA (updA cf 24 y.2.2.2.2.2.2.1) 25 y.2.2.2.2.2.2.2.1) 26 y.2.2.2.2.2.2.2.2.1) st bx)).symm
  have hD := hD.perm (pmod (a := wC G ca (updI (updI (updI (updI (updI (updI (updI (updI (updI ci 23 y.1) 24 y.2.1) 25 y.2.2.1) 26 y.2.2.2.1) 27 y.2.2.2.2.1) 28 y.2.2.2.2.2.1) 29 y.2.2.2.2.2.2.2.2.2.1) 30 y.2.2.2.2.2.2.2.2.2.2.1) 31 y.2.2.2.2.2.2.2.2.2.2.2) (updA (updA (updA cf 24 y.2.2.2.2.2.2.1) 25 y.2.2.2.2.2.2.2.1) 26 y.2.2.2.2.2.2.2.2.1) st bx)).symm
  refine lv_icmp_eq (tgt := 1519) hx hb dL_1247 (by decide) (fun _ => kk _ _ ⟨ca, (updI (updI (updI (updI (updI (updI (updI (updI (updI ci 23 y.1) 24 y.2.1) 25 y.2.2.1) 26 y.2.2.2.1) 27 y.2.2.2.2.1) 28 y.2.2.2.2.2.1) 29 y.2.2.2.2.2.2.2.2.2.1) 30 y.2.2.2.2.2.2.2.2.2.2.1) 31 y.2.2.2.2.2.2.2.2.2.2.2), (updA (updA (updA cf 24 y.2.2.2.2.2.2.1) 25 y.2.2.2.2.2.2.2.1) 26 y.2.2.2.2.2.2.2.2.1), st, bx, hm, ma, mi, (updA (updA mf 0 (mf 0)) 33 T'), tl, sv, hP, hD, hS, ?_, hl⟩) (fun q => absurd rfl q)
  exact h.same (fun _ _ => rfl) ⟨⟨rfl, rfl, rfl, rfl, rfl, rfl, rfl, rfl, rfl, rfl, rfl, rfl⟩, ⟨rfl, rfl, rfl⟩, rfl, rfl, rfl, rfl, rfl⟩
set_option maxRecDepth 100000 in
set_option maxHeartbeats 4000000 in
theorem case_stands (K : lwK p s m meth c b L xs G) (hi : i + 6 ≤ L) (hI : LI G s b i H locs ls) (kk : ∀ (H : Heap) (locs : List Loc), LI G s b i H locs ls → WL p l e s m below meth c b H locs 1519 ls []) : WL p l e s m below meth c b H locs 992 ls [] := by
  obtain ⟨⟨hx, hb, hr, hml, hown, hts, hX, hbl, hlocks, hgv⟩, hL, hN, hT, hK⟩ := K
  have ht0 : ∀ w ∈ gtbl, w.before #[Value.ref b] s = true := fun w hw => hts w (gtbl_sub hw)
  have hA : ∀ q : Nat, s.heap.size ≤ q → lwA s q := fun _ h => h
  obtain ⟨ca, ci, cf, st, bx, hm, ma, mi, mf, tl, sv, hP, hD, hS, ⟨n, k, bk, a, u, Lt, uu, pos, h⟩, hl⟩ := hI
  have hs : st a = some (tl (pos a)).1 := h.hs
  have hn : st (nxA a) = some (tl (pos (nxA a))).1 := h.hn
  have hz : st 0 = some (tl (pos 0)).1 := h.ps 0 (by decide)
  have hk1 : pos a < 15 := by have := h.pl; omega
  have hk2 : pos (nxA a) < 15 := by have := h.pn; omega
  have hk0 : pos 0 < 15 := by have := h.gl.2.1 0 (by decide); omega
  obtain ⟨e1, e2, hSR⟩ := h.cur
  obtain ⟨F, hF⟩ : ∃ F : Nat, 3000000 < F := ⟨3000001, by decide⟩
  obtain ⟨r, ⟨y, q1⟩, z0', z1', z2', z3', al', srt', asd', q2, hal⟩ := Q_stands (F := F) (by omega) h.ha hs h.hb hSR (ci 20) (ci 21) (ci 22) (mi 29) (mi 30) (mi 31) (mi 32) (mf 33) (mf 45) (xs (i + 1)) (xs (i + 2))
  try simp only [← h.at_, ← h.last, ← e1, ← e2] at q1
  try simp only [← h.bank, ← h.acts, ← h.und] at q2
  refine lv_aload_n hx hb dL_992 rfl (lv_at hl 1 rfl) ?_
  refine arg_push (j := 1) hx hb hX hbl hS (lv_at hl 0 rfl) (lv_at hl 3 rfl) hL hi (by decide) rfl dL_993 dL_994 dL_995 dL_996 dL_997 ?_
  refine arg_push (j := 2) hx hb hX hbl hS (lv_at hl 0 rfl) (lv_at hl 3 rfl) hL hi (by decide) rfl dL_998 dL_999 dL_1000 dL_1001 dL_1002 ?_
  have hpm := pool1 (G := G) (tl := tl) (sv := sv) hk1 (wC G ca ci cf st bx) (wM G hm ma mi mf)
  have hP := hP.perm hpm
  have hD := hD.perm hpm
  refine cl_FS (w2 := wC G ca (updI (updI (updI ci 20 y.1) 21 y.2.1) 22 y.2.2) cf st bx ++ clu G (tl (pos a)) (sv (pos a))) (As := [.int (xs (i + 1)), .int (xs (i + 2))]) (rest := []) ⟨hx, hb, hml, hown, ht0⟩ (c_X10_stands l (gWith G (allS tl)) (ca 0) (ca 15) (ca 16) (ca 19) ((tl (pos a)).2.1) ((tl (pos a)).2.2.1.1) ((tl (pos a)).2.2.1.2.1) ((tl (pos a)).2.2.1.2.2) ((tl (pos a)).2.2.2.1) ((tl (pos a)).2.2.2.2.1) ((tl (pos a)).2.2.2.2.2.1) ((tl (pos a)).2.2.2.2.2.2.1) (ca 2) (ca 1) (ca 4) (ca 17) (ca 18) (ca 20) (ca 28) (ca 35) (ca 39) ((tl (pos a)).2.2.2.2.2.2.2.1) ((tl (pos a)).2.2.2.2.2.2.2.2) ((tl (pos a)).1) _ (ci 0) (ci 1) (ci 18) (ci 19) st (ci 20) (ci 21) (ci 22) ((sv (pos a)).1) ((sv (pos a)).2.1) ((sv (pos a)).2.2.1) ((sv (pos a)).2.2.2.1) ((sv (pos a)).2.2.2.2.1) ((sv (pos a)).2.2.2.2.2.1) ((sv (pos a)).2.2.2.2.2.2.1) ((sv (pos a)).2.2.2.2.2.2.2.1) ((sv (pos a)).2.2.2.2.2.2.2.2.1) F (xs (i + 1)) (xs (i + 2)) (tri_in hk1) _ _ _ _ q1) yk_X10_stands wd_1066 ⟨rfl, rfl, Nat.le_of_ble_eq_true rfl, Nat.le_of_ble_eq_true rfl⟩ ⟨Nat.le_of_ble_eq_true rfl, Nat.le_of_ble_eq_true rfl⟩ hN hT hK hP hD hS hA [true, false, false, false, false, false, false, false, false, false, false, false, false, false, false, true, true, false, false, true, false, false, false, false, false, false, false, false, false, false, false, false, false, false, false, false, false, false, false, false, false, false, false, false, false, false, true, true, true, true, true, true, true, true] (va_recv hK hP (ci := 10) (q0 := 0) rfl rfl) hpm rfl rfl (Nat.le_of_ble_eq_true rfl) rfl rfl rfl rfl hl.1 rfl (Nat.le_of_ble_eq_true rfl) dL_1003 (fun H locs hP hD hS => ?_)
  have hpb := (pool1 (G := G) (tl := tl) (sv := sv) hk1 (wC G ca (updI (updI (updI ci 20 y.1) 21 y.2.1) 22 y.2.2) cf st bx) (wM G hm ma mi mf)).symm
  have hP := (hP.perm hpb).perm pmod
  have hD := (hD.perm hpb).perm pmod
  refine lv_aload_n hx hb dL_1006 rfl (lv_at hl 2 rfl) ?_
  refine arg_push (j := 1) hx hb hX hbl hS (lv_at hl 0 rfl) (lv_at hl 3 rfl) hL hi (by decide) rfl dL_1007 dL_1008 dL_1009 dL_1010 dL_1011 ?_
  refine arg_push (j := 2) hx hb hX hbl hS (lv_at hl 0 rfl) (lv_at hl 3 rfl) hL hi (by decide) rfl dL_1012 dL_1013 dL_1014 dL_1015 dL_1016 ?_
  refine cl_F0 (w2 := wM G hm ma (updI (updI (updI (updI mi 29 z0') 30 z1') 31 z2') 32 z3') (updA (updA (updA mf 0 al') 33 srt') 45 asd')) (As := [.int (xs (i + 1)), .int (xs (i + 2))]) (rest := [.int r]) ⟨hx, hb, hml, hown, ht0⟩ (c_X11_stands l (gWith G []) hm (ma 0) (ma 1) (ma 2) (ma 33) (ma 45) (ma 3) (ma 4) (ma 6) (ma 18) (ma 21) (ma 22) (ma 23) (ma 24) (ma 25) (ma 26) (ma 34) (ma 38) (ma 39) (ma 40) (ma 41) (ma 42) (ma 43) (ma 46) (ma 47) (ma 48) _ (mi 5) (mi 7) (mi 8) (mi 9) (mi 10) (mi 11) (mi 12) (mi 13) (mi 14) (mi 15) (mi 16) (mi 17) (mi 19) (mi 20) (mi 27) (mi 28) (mi 29) (mi 30) (mi 31) (mi 32) (mi 35) (mi 36) (mi 37) (mi 44) (mi 49) (mi 50) (mf 0) (mf 1) (mf 2) (mf 33) (mf 45) F (xs (i + 1)) (xs (i + 2)) _ _ _ _ _ _ _ _ q2) yk_X11_stands wd_1817 ⟨rfl, rfl, Nat.le_of_ble_eq_true rfl, Nat.le_of_ble_eq_true rfl⟩ ⟨Nat.le_of_ble_eq_true rfl, Nat.le_of_ble_eq_true rfl⟩ hN hT hK hP hD hS hA [true, true, true, true, false, false, false, false, false, false, false, false, false, false, true, false, false, false, false, false, false, false, true] (va_recv hK hP (ci := 11) (q0 := 0) rfl rfl) rfl (Nat.le_of_ble_eq_true rfl) rfl rfl rfl rfl hl.1 rfl (Nat.le_of_ble_eq_true rfl) dL_1017 (fun H locs hP hD hS => ?_)
  have hP := hP.perm (pmod (a := wC G ca (updI (updI (updI ci 20 y.1) 21 y.2.1) 22 y.2.2) cf st bx)).symm
  have hD := hD.perm (pmod (a := wC G ca (updI (updI (updI ci 20 y.1) 21 y.2.1) 22 y.2.2) cf st bx)).symm
  refine lv_icmp_eq (tgt := 1519) hx hb dL_1020 (by decide) (fun _ => kk _ _ ⟨ca, (updI (updI (updI ci 20 y.1) 21 y.2.1) 22 y.2.2), cf, st, bx, hm, ma, (updI (updI (updI (updI mi 29 z0') 30 z1') 31 z2') 32 z3'), (updA (updA (updA mf 0 al') 33 srt') 45 asd'), tl, sv, hP, hD, hS, ?_, hl⟩) (fun q => absurd rfl q)
  exact h.same hal ⟨⟨rfl, rfl, rfl, rfl, rfl, rfl, rfl, rfl, rfl, rfl, rfl, rfl⟩, ⟨rfl, rfl, rfl⟩, rfl, rfl, rfl, rfl, rfl⟩
set_option maxRecDepth 100000 in
set_option maxHeartbeats 4000000 in
theorem case_would (K : lwK p s m meth c b L xs G) (hi : i + 6 ≤ L) (hI : LI G s b i H locs ls) (kk : ∀ (H : Heap) (locs : List Loc), LI G s b i H locs ls → WL p l e s m below meth c b H locs 1519 ls []) : WL p l e s m below meth c b H locs 1308 ls [] := by
  obtain ⟨⟨hx, hb, hr, hml, hown, hts, hX, hbl, hlocks, hgv⟩, hL, hN, hT, hK⟩ := K
  have ht0 : ∀ w ∈ gtbl, w.before #[Value.ref b] s = true := fun w hw => hts w (gtbl_sub hw)
  have hA : ∀ q : Nat, s.heap.size ≤ q → lwA s q := fun _ h => h
  obtain ⟨ca, ci, cf, st, bx, hm, ma, mi, mf, tl, sv, hP, hD, hS, ⟨n, k, bk, a, u, Lt, uu, pos, h⟩, hl⟩ := hI
  have hs : st a = some (tl (pos a)).1 := h.hs
  have hn : st (nxA a) = some (tl (pos (nxA a))).1 := h.hn
  have hz : st 0 = some (tl (pos 0)).1 := h.ps 0 (by decide)
  have hk1 : pos a < 15 := by have := h.pl; omega
  have hk2 : pos (nxA a) < 15 := by have := h.pn; omega
  have hk0 : pos 0 < 15 := by have := h.gl.2.1 0 (by decide); omega
  obtain ⟨e1, e2, hSR⟩ := h.cur
  obtain ⟨F, hF⟩ : ∃ F : Nat, 3000000 < F := ⟨3000001, by decide⟩
  obtain ⟨r, ⟨y, q1⟩, z0', z1', z2', z3', al', asd', q2, hal⟩ := Q_would (F := F) (by omega) h.ha hs h.hb hSR (ci 20, ci 21, ci 22, cf 40, cf 41, cf 42, cf 43, cf 44) (mi 29) (mi 30) (mi 31) (mi 32) (mf 45) (xs (i + 1)) (xs (i + 2)) (xs (i + 3))
  try simp only [← h.at_, ← h.last, ← e1, ← e2] at q1
  try simp only [← h.bank, ← h.acts, ← h.und] at q2
  refine lv_aload_n hx hb dL_1308 rfl (lv_at hl 1 rfl) ?_
  refine arg_push (j := 1) hx hb hX hbl hS (lv_at hl 0 rfl) (lv_at hl 3 rfl) hL hi (by decide) rfl dL_1309 dL_1310 dL_1311 dL_1312 dL_1313 ?_
  refine arg_push (j := 2) hx hb hX hbl hS (lv_at hl 0 rfl) (lv_at hl 3 rfl) hL hi (by decide) rfl dL_1314 dL_1315 dL_1316 dL_1317 dL_1318 ?_
  refine arg_push (j := 3) hx hb hX hbl hS (lv_at hl 0 rfl) (lv_at hl 3 rfl) hL hi (by decide) rfl dL_1319 dL_1320 dL_1321 dL_1322 dL_1323 ?_
  have hpm := pool1 (G := G) (tl := tl) (sv := sv) hk1 (wC G ca ci cf st bx) (wM G hm ma mi mf)
  have hP := hP.perm hpm
  have hD := hD.perm hpm
  refine cl_FS (w2 := wC G ca (updI (updI (updI ci 20 y.1) 21 y.2.1) 22 y.2.2.1) (updA (updA (updA (updA (updA cf 40 y.2.2.2.1) 41 y.2.2.2.2.1) 42 y.2.2.2.2.2.1) 43 y.2.2.2.2.2.2.1) 44 y.2.2.2.2.2.2.2) st bx ++ clu G (tl (pos a)) (sv (pos a))) (As := [.int (xs (i + 1)), .int (xs (i + 2)), .int (xs (i + 3))]) (rest := []) ⟨hx, hb, hml, hown, ht0⟩ (c_X10_would l (gWith G (allS tl)) (ca 0) (ca 15) (ca 16) (ca 19) (ca 39) (ca 40) (ca 41) (ca 42) (ca 43) (ca 44) ((tl (pos a)).2.1) ((tl (pos a)).2.2.1.1) ((tl (pos a)).2.2.1.2.1) ((tl (pos a)).2.2.1.2.2) ((tl (pos a)).2.2.2.1) ((tl (pos a)).2.2.2.2.1) ((tl (pos a)).2.2.2.2.2.1) ((tl (pos a)).2.2.2.2.2.2.1) ((tl (pos a)).2.2.2.2.2.2.2.1) ((tl (pos a)).2.2.2.2.2.2.2.2) (ca 2) (ca 1) (ca 4) (ca 17) (ca 18) (ca 20) (ca 28) (ca 35) ((tl (pos a)).1) _ (ci 0) (ci 1) (ci 18) (ci 19) st (ci 20) (ci 21) (ci 22) (cf 40) (cf 41) (cf 42) (cf 43) (cf 44) ((sv (pos a)).1) ((sv (pos a)).2.1) ((sv (pos a)).2.2.1) ((sv (pos a)).2.2.2.1) ((sv (pos a)).2.2.2.2.1) ((sv (pos a)).2.2.2.2.2.1) ((sv (pos a)).2.2.2.2.2.2.1) ((sv (pos a)).2.2.2.2.2.2.2.1) ((sv (pos a)).2.2.2.2.2.2.2.2.1) ((sv (pos a)).2.2.2.2.2.2.2.2.2.1) ((sv (pos a)).2.2.2.2.2.2.2.2.2.2) F (xs (i + 1)) (xs (i + 2)) (xs (i + 3)) (tri_in hk1) _ _ _ _ _ _ _ _ _ q1) yk_X10_would wd_1217 ⟨rfl, rfl, Nat.le_of_ble_eq_true rfl, Nat.le_of_ble_eq_true rfl⟩ ⟨Nat.le_of_ble_eq_true rfl, Nat.le_of_ble_eq_true rfl⟩ hN hT hK hP hD hS hA [true, false, false, false, false, false, false, false, false, false, false, false, false, false, false, true, true, false, false, true, false, false, false, false, false, false, false, false, false, false, false, false, false, false, false, false, false, false, false, true, true, true, true, true, true, false, true, true, true, true, true, true, true, true, true, true] (va_recv hK hP (ci := 10) (q0 := 0) rfl rfl) hpm rfl rfl (Nat.le_of_ble_eq_true rfl) rfl rfl rfl rfl hl.1 rfl (Nat.le_of_ble_eq_true rfl) dL_1324 (fun H locs hP hD hS => ?_)
  have hpb := (pool1 (G := G) (tl := tl) (sv := sv) hk1 (wC G ca (updI (updI (updI ci 20 y.1) 21 y.2.1) 22 y.2.2.1) (updA (updA (updA (updA (updA cf 40 y.2.2.2.1) 41 y.2.2.2.2.1) 42 y.2.2.2.2.2.1) 43 y.2.2.2.2.2.2.1) 44 y.2.2.2.2.2.2.2) st bx) (wM G hm ma mi mf)).symm
  have hP := (hP.perm hpb).perm pmod
  have hD := (hD.perm hpb).perm pmod
  refine lv_aload_n hx hb dL_1327 rfl (lv_at hl 2 rfl) ?_
  refine arg_push (j := 1) hx hb hX hbl hS (lv_at hl 0 rfl) (lv_at hl 3 rfl) hL hi (by decide) rfl dL_1328 dL_1329 dL_1330 dL_1331 dL_1332 ?_
  refine arg_push (j := 2) hx hb hX hbl hS (lv_at hl 0 rfl) (lv_at hl 3 rfl) hL hi (by decide) rfl dL_1333 dL_1334 dL_1335 dL_1336 dL_1337 ?_
  refine arg_push (j := 3) hx hb hX hbl hS (lv_at hl 0 rfl) (lv_at hl 3 rfl) hL hi (by decide) rfl dL_1338 dL_1339 dL_1340 dL_1341 dL_1342 ?_
  refine cl_F0 (w2 := wM G hm ma (updI (updI (updI (updI mi 29 z0') 30 z1') 31 z2') 32 z3') (updA (updA mf 0 al') 45 asd')) (As := [.int (xs (i + 1)), .int (xs (i + 2)), .int (xs (i + 3))]) (rest := [.int r]) ⟨hx, hb, hml, hown, ht0⟩ (c_X11_would l (gWith G []) hm (ma 0) (ma 1) (ma 2) (ma 45) (ma 3) (ma 4) (ma 6) (ma 18) (ma 21) (ma 22) (ma 23) (ma 24) (ma 25) (ma 26) (ma 33) (ma 34) (ma 38) (ma 39) (ma 40) (ma 41) (ma 42) (ma 43) (ma 46) (ma 47) (ma 48) _ (mi 5) (mi 7) (mi 8) (mi 9) (mi 10) (mi 11) (mi 12) (mi 13) (mi 14) (mi 15) (mi 16) (mi 17) (mi 19) (mi 20) (mi 27) (mi 28) (mi 29) (mi 30) (mi 31) (mi 32) (mi 35) (mi 36) (mi 37) (mi 44) (mi 49) (mi 50) (mf 0) (mf 1) (mf 2) (mf 45) F (xs (i + 1)) (xs (i + 2)) (xs (i + 3)) _ _ _ _ _ _ _ q2) yk_X11_would wd_1924 ⟨rfl, rfl, Nat.le_of_ble_eq_true rfl, Nat.le_of_ble_eq_true rfl⟩ ⟨Nat.le_of_ble_eq_true rfl, Nat.le_of_ble_eq_true rfl⟩ hN hT hK hP hD hS hA [true, true, true, true, false, false, false, false, false, false, false, false, false, false, false, false, false, false, false, false, false, false, true] (va_recv hK hP (ci := 11) (q0 := 0) rfl rfl) rfl (Nat.le_of_ble_eq_true rfl) rfl rfl rfl rfl hl.1 rfl (Nat.le_of_ble_eq_true rfl) dL_1343 (fun H locs hP hD hS => ?_)
  have hP := hP.perm (pmod (a := wC G ca (updI (updI (updI ci 20 y.1) 21 y.2.1) 22 y.2.2.1) (updA (updA (updA (updA (updA cf 40 y.2.2.2.1) 41 y.2.2.2.2.1) 42 y.2.2.2.2.2.1) 43 y.2.2.2.2.2.2.1) 44 y.2.2.2.2.2.2.2) st bx)).symm
  have hD := hD.perm (pmod (a := wC G ca (updI (updI (updI ci 20 y.1) 21 y.2.1) 22 y.2.2.1) (updA (updA (updA (updA (updA cf 40 y.2.2.2.1) 41 y.2.2.2.2.1) 42 y.2.2.2.2.2.1) 43 y.2.2.2.2.2.2.1) 44 y.2.2.2.2.2.2.2) st bx)).symm
  refine lv_icmp_eq (tgt := 1519) hx hb dL_1346 (by decide) (fun _ => kk _ _ ⟨ca, (updI (updI (updI ci 20 y.1) 21 y.2.1) 22 y.2.2.1), (updA (updA (updA (updA (updA cf 40 y.2.2.2.1) 41 y.2.2.2.2.1) 42 y.2.2.2.2.2.1) 43 y.2.2.2.2.2.2.1) 44 y.2.2.2.2.2.2.2), st, bx, hm, ma, (updI (updI (updI (updI mi 29 z0') 30 z1') 31 z2') 32 z3'), (updA (updA mf 0 al') 45 asd'), tl, sv, hP, hD, hS, ?_, hl⟩) (fun q => absurd rfl q)
  exact h.same hal ⟨⟨rfl, rfl, rfl, rfl, rfl, rfl, rfl, rfl, rfl, rfl, rfl, rfl⟩, ⟨rfl, rfl, rfl⟩, rfl, rfl, rfl, rfl, rfl⟩
set_option maxRecDepth 100000 in
set_option maxHeartbeats 4000000 in
theorem case_worst (K : lwK p s m meth c b L xs G) (hi : i + 6 ≤ L) (hI : LI G s b i H locs ls) (kk : ∀ (H : Heap) (locs : List Loc), LI G s b i H locs ls → WL p l e s m below meth c b H locs 1519 ls []) : WL p l e s m below meth c b H locs 1351 ls [] := by
  obtain ⟨⟨hx, hb, hr, hml, hown, hts, hX, hbl, hlocks, hgv⟩, hL, hN, hT, hK⟩ := K
  have ht0 : ∀ w ∈ gtbl, w.before #[Value.ref b] s = true := fun w hw => hts w (gtbl_sub hw)
  have hA : ∀ q : Nat, s.heap.size ≤ q → lwA s q := fun _ h => h
  obtain ⟨ca, ci, cf, st, bx, hm, ma, mi, mf, tl, sv, hP, hD, hS, ⟨n, k, bk, a, u, Lt, uu, pos, h⟩, hl⟩ := hI
  have hs : st a = some (tl (pos a)).1 := h.hs
  have hn : st (nxA a) = some (tl (pos (nxA a))).1 := h.hn
  have hz : st 0 = some (tl (pos 0)).1 := h.ps 0 (by decide)
  have hk1 : pos a < 15 := by have := h.pl; omega
  have hk2 : pos (nxA a) < 15 := by have := h.pn; omega
  have hk0 : pos 0 < 15 := by have := h.gl.2.1 0 (by decide); omega
  obtain ⟨e1, e2, hSR⟩ := h.cur
  obtain ⟨F, hF⟩ : ∃ F : Nat, 3000000 < F := ⟨3000001, by decide⟩
  obtain ⟨r, ⟨y, q1⟩, z0', z1', z2', z3', al', asd', q2, hal⟩ := Q_worst (F := F) (by omega) h.ha hs h.hb hSR (ci 20, ci 21, ci 22, cf 40, cf 41, cf 42, cf 43, cf 44) (mi 29) (mi 30) (mi 31) (mi 32) (mf 45) (xs (i + 1)) (xs (i + 2)) (xs (i + 3))
  try simp only [← h.at_, ← h.last, ← e1, ← e2] at q1
  try simp only [← h.bank, ← h.acts, ← h.und] at q2
  refine lv_aload_n hx hb dL_1351 rfl (lv_at hl 1 rfl) ?_
  refine arg_push (j := 1) hx hb hX hbl hS (lv_at hl 0 rfl) (lv_at hl 3 rfl) hL hi (by decide) rfl dL_1352 dL_1353 dL_1354 dL_1355 dL_1356 ?_
  refine arg_push (j := 2) hx hb hX hbl hS (lv_at hl 0 rfl) (lv_at hl 3 rfl) hL hi (by decide) rfl dL_1357 dL_1358 dL_1359 dL_1360 dL_1361 ?_
  refine arg_push (j := 3) hx hb hX hbl hS (lv_at hl 0 rfl) (lv_at hl 3 rfl) hL hi (by decide) rfl dL_1362 dL_1363 dL_1364 dL_1365 dL_1366 ?_
  have hpm := pool1 (G := G) (tl := tl) (sv := sv) hk1 (wC G ca ci cf st bx) (wM G hm ma mi mf)
  have hP := hP.perm hpm
  have hD := hD.perm hpm
  refine cl_FS (w2 := wC G ca (updI (updI (updI ci 20 y.1) 21 y.2.1) 22 y.2.2.1) (updA (updA (updA (updA (updA cf 40 y.2.2.2.1) 41 y.2.2.2.2.1) 42 y.2.2.2.2.2.1) 43 y.2.2.2.2.2.2.1) 44 y.2.2.2.2.2.2.2) st bx ++ clu G (tl (pos a)) (sv (pos a))) (As := [.int (xs (i + 1)), .int (xs (i + 2)), .int (xs (i + 3))]) (rest := []) ⟨hx, hb, hml, hown, ht0⟩ (c_X10_worst l (gWith G (allS tl)) (ca 0) (ca 15) (ca 16) (ca 19) (ca 39) (ca 40) (ca 41) (ca 42) (ca 43) (ca 44) ((tl (pos a)).2.1) ((tl (pos a)).2.2.1.1) ((tl (pos a)).2.2.1.2.1) ((tl (pos a)).2.2.1.2.2) ((tl (pos a)).2.2.2.1) ((tl (pos a)).2.2.2.2.1) ((tl (pos a)).2.2.2.2.2.1) ((tl (pos a)).2.2.2.2.2.2.1) ((tl (pos a)).2.2.2.2.2.2.2.1) ((tl (pos a)).2.2.2.2.2.2.2.2) (ca 2) (ca 1) (ca 4) (ca 17) (ca 18) (ca 20) (ca 28) (ca 35) ((tl (pos a)).1) _ (ci 0) (ci 1) (ci 18) (ci 19) st (ci 20) (ci 21) (ci 22) (cf 40) (cf 41) (cf 42) (cf 43) (cf 44) ((sv (pos a)).1) ((sv (pos a)).2.1) ((sv (pos a)).2.2.1) ((sv (pos a)).2.2.2.1) ((sv (pos a)).2.2.2.2.1) ((sv (pos a)).2.2.2.2.2.1) ((sv (pos a)).2.2.2.2.2.2.1) ((sv (pos a)).2.2.2.2.2.2.2.1) ((sv (pos a)).2.2.2.2.2.2.2.2.1) ((sv (pos a)).2.2.2.2.2.2.2.2.2.1) ((sv (pos a)).2.2.2.2.2.2.2.2.2.2) F (xs (i + 1)) (xs (i + 2)) (xs (i + 3)) (tri_in hk1) _ _ _ _ _ _ _ _ _ q1) yk_X10_worst wd_1226 ⟨rfl, rfl, Nat.le_of_ble_eq_true rfl, Nat.le_of_ble_eq_true rfl⟩ ⟨Nat.le_of_ble_eq_true rfl, Nat.le_of_ble_eq_true rfl⟩ hN hT hK hP hD hS hA [true, false, false, false, false, false, false, false, false, false, false, false, false, false, false, true, true, false, false, true, false, false, false, false, false, false, false, false, false, false, false, false, false, false, false, false, false, false, false, true, true, true, true, true, true, false, true, true, true, true, true, true, true, true, true, true] (va_recv hK hP (ci := 10) (q0 := 0) rfl rfl) hpm rfl rfl (Nat.le_of_ble_eq_true rfl) rfl rfl rfl rfl hl.1 rfl (Nat.le_of_ble_eq_true rfl) dL_1367 (fun H locs hP hD hS => ?_)
  have hpb := (pool1 (G := G) (tl := tl) (sv := sv) hk1 (wC G ca (updI (updI (updI ci 20 y.1) 21 y.2.1) 22 y.2.2.1) (updA (updA (updA (updA (updA cf 40 y.2.2.2.1) 41 y.2.2.2.2.1) 42 y.2.2.2.2.2.1) 43 y.2.2.2.2.2.2.1) 44 y.2.2.2.2.2.2.2) st bx) (wM G hm ma mi mf)).symm
  have hP := (hP.perm hpb).perm pmod
  have hD := (hD.perm hpb).perm pmod
  refine lv_aload_n hx hb dL_1370 rfl (lv_at hl 2 rfl) ?_
  refine arg_push (j := 1) hx hb hX hbl hS (lv_at hl 0 rfl) (lv_at hl 3 rfl) hL hi (by decide) rfl dL_1371 dL_1372 dL_1373 dL_1374 dL_1375 ?_
  refine arg_push (j := 2) hx hb hX hbl hS (lv_at hl 0 rfl) (lv_at hl 3 rfl) hL hi (by decide) rfl dL_1376 dL_1377 dL_1378 dL_1379 dL_1380 ?_
  refine arg_push (j := 3) hx hb hX hbl hS (lv_at hl 0 rfl) (lv_at hl 3 rfl) hL hi (by decide) rfl dL_1381 dL_1382 dL_1383 dL_1384 dL_1385 ?_
  refine cl_F0 (w2 := wM G hm ma (updI (updI (updI (updI mi 29 z0') 30 z1') 31 z2') 32 z3') (updA (updA mf 0 al') 45 asd')) (As := [.int (xs (i + 1)), .int (xs (i + 2)), .int (xs (i + 3))]) (rest := [.int r]) ⟨hx, hb, hml, hown, ht0⟩ (c_X11_worst l (gWith G []) hm (ma 0) (ma 1) (ma 2) (ma 45) (ma 3) (ma 4) (ma 6) (ma 18) (ma 21) (ma 22) (ma 23) (ma 24) (ma 25) (ma 26) (ma 33) (ma 34) (ma 38) (ma 39) (ma 40) (ma 41) (ma 42) (ma 43) (ma 46) (ma 47) (ma 48) _ (mi 5) (mi 7) (mi 8) (mi 9) (mi 10) (mi 11) (mi 12) (mi 13) (mi 14) (mi 15) (mi 16) (mi 17) (mi 19) (mi 20) (mi 27) (mi 28) (mi 29) (mi 30) (mi 31) (mi 32) (mi 35) (mi 36) (mi 37) (mi 44) (mi 49) (mi 50) (mf 0) (mf 1) (mf 2) (mf 45) F (xs (i + 1)) (xs (i + 2)) (xs (i + 3)) _ _ _ _ _ _ _ q2) yk_X11_worst wd_1932 ⟨rfl, rfl, Nat.le_of_ble_eq_true rfl, Nat.le_of_ble_eq_true rfl⟩ ⟨Nat.le_of_ble_eq_true rfl, Nat.le_of_ble_eq_true rfl⟩ hN hT hK hP hD hS hA [true, true, true, true, false, false, false, false, false, false, false, false, false, false, false, false, false, false, false, false, false, false, true] (va_recv hK hP (ci := 11) (q0 := 0) rfl rfl) rfl (Nat.le_of_ble_eq_true rfl) rfl rfl rfl rfl hl.1 rfl (Nat.le_of_ble_eq_true rfl) dL_1386 (fun H locs hP hD hS => ?_)
  have hP := hP.perm (pmod (a := wC G ca (updI (updI (updI ci 20 y.1) 21 y.2.1) 22 y.2.2.1) (updA (updA (updA (updA (updA cf 40 y.2.2.2.1) 41 y.2.2.2.2.1) 42 y.2.2.2.2.2.1) 43 y.2.2.2.2.2.2.1) 44 y.2.2.2.2.2.2.2) st bx)).symm
  have hD := hD.perm (pmod (a := wC G ca (updI (updI (updI ci 20 y.1) 21 y.2.1) 22 y.2.2.1) (updA (updA (updA (updA (updA cf 40 y.2.2.2.1) 41 y.2.2.2.2.1) 42 y.2.2.2.2.2.1) 43 y.2.2.2.2.2.2.1) 44 y.2.2.2.2.2.2.2) st bx)).symm
  refine lv_icmp_eq (tgt := 1519) hx hb dL_1389 (by decide) (fun _ => kk _ _ ⟨ca, (updI (updI (updI ci 20 y.1) 21 y.2.1) 22 y.2.2.1), (updA (updA (updA (updA (updA cf 40 y.2.2.2.1) 41 y.2.2.2.2.1) 42 y.2.2.2.2.2.1) 43 y.2.2.2.2.2.2.1) 44 y.2.2.2.2.2.2.2), st, bx, hm, ma, (updI (updI (updI (updI mi 29 z0') 30 z1') 31 z2') 32 z3'), (updA (updA mf 0 al') 45 asd'), tl, sv, hP, hD, hS, ?_, hl⟩) (fun q => absurd rfl q)
  exact h.same hal ⟨⟨rfl, rfl, rfl, rfl, rfl, rfl, rfl, rfl, rfl, rfl, rfl, rfl⟩, ⟨rfl, rfl, rfl⟩, rfl, rfl, rfl, rfl, rfl⟩
set_option maxRecDepth 100000 in
set_option maxHeartbeats 4000000 in
theorem case_interval (K : lwK p s m meth c b L xs G) (hi : i + 6 ≤ L) (hI : LI G s b i H locs ls) (kk : ∀ (H : Heap) (locs : List Loc), LI G s b i H locs ls → WL p l e s m below meth c b H locs 1519 ls []) : WL p l e s m below meth c b H locs 1394 ls [] := by
  obtain ⟨⟨hx, hb, hr, hml, hown, hts, hX, hbl, hlocks, hgv⟩, hL, hN, hT, hK⟩ := K
  have ht0 : ∀ w ∈ gtbl, w.before #[Value.ref b] s = true := fun w hw => hts w (gtbl_sub hw)
  have hA : ∀ q : Nat, s.heap.size ≤ q → lwA s q := fun _ h => h
  obtain ⟨ca, ci, cf, st, bx, hm, ma, mi, mf, tl, sv, hP, hD, hS, ⟨n, k, bk, a, u, Lt, uu, pos, h⟩, hl⟩ := hI
  have hs : st a = some (tl (pos a)).1 := h.hs
  have hn : st (nxA a) = some (tl (pos (nxA a))).1 := h.hn
  have hz : st 0 = some (tl (pos 0)).1 := h.ps 0 (by decide)
  have hk1 : pos a < 15 := by have := h.pl; omega
  have hk2 : pos (nxA a) < 15 := by have := h.pn; omega
  have hk0 : pos 0 < 15 := by have := h.gl.2.1 0 (by decide); omega
  obtain ⟨e1, e2, hSR⟩ := h.cur
  obtain ⟨F, hF⟩ : ∃ F : Nat, 3000000 < F := ⟨3000001, by decide⟩
  obtain ⟨r, ⟨y, q1⟩, z0', z1', z2', z3', al', asd', q2, hal⟩ := Q_interval (F := F) (by omega) h.ha hs h.hb hSR (ci 20, ci 21, ci 22, cf 40, cf 41, cf 42, cf 43, cf 44) (mi 29) (mi 30) (mi 31) (mi 32) (mf 45) (xs (i + 1)) (xs (i + 2))
  try simp only [← h.at_, ← h.last, ← e1, ← e2] at q1
  try simp only [← h.bank, ← h.acts, ← h.und] at q2
  refine lv_aload_n hx hb dL_1394 rfl (lv_at hl 1 rfl) ?_
  refine arg_push (j := 1) hx hb hX hbl hS (lv_at hl 0 rfl) (lv_at hl 3 rfl) hL hi (by decide) rfl dL_1395 dL_1396 dL_1397 dL_1398 dL_1399 ?_
  refine arg_push (j := 2) hx hb hX hbl hS (lv_at hl 0 rfl) (lv_at hl 3 rfl) hL hi (by decide) rfl dL_1400 dL_1401 dL_1402 dL_1403 dL_1404 ?_
  have hpm := pool1 (G := G) (tl := tl) (sv := sv) hk1 (wC G ca ci cf st bx) (wM G hm ma mi mf)
  have hP := hP.perm hpm
  have hD := hD.perm hpm
  refine cl_FS (w2 := wC G ca (updI (updI (updI ci 20 y.1) 21 y.2.1) 22 y.2.2.1) (updA (updA (updA (updA (updA cf 40 y.2.2.2.1) 41 y.2.2.2.2.1) 42 y.2.2.2.2.2.1) 43 y.2.2.2.2.2.2.1) 44 y.2.2.2.2.2.2.2) st bx ++ clu G (tl (pos a)) (sv (pos a))) (As := [.int (xs (i + 1)), .int (xs (i + 2))]) (rest := []) ⟨hx, hb, hml, hown, ht0⟩ (c_X10_interval l (gWith G (allS tl)) (ca 0) (ca 15) (ca 16) (ca 19) (ca 39) (ca 40) (ca 41) (ca 42) (ca 43) (ca 44) ((tl (pos a)).2.1) ((tl (pos a)).2.2.1.1) ((tl (pos a)).2.2.1.2.1) ((tl (pos a)).2.2.1.2.2) ((tl (pos a)).2.2.2.1) ((tl (pos a)).2.2.2.2.1) ((tl (pos a)).2.2.2.2.2.1) ((tl (pos a)).2.2.2.2.2.2.1) ((tl (pos a)).2.2.2.2.2.2.2.1) ((tl (pos a)).2.2.2.2.2.2.2.2) (ca 2) (ca 1) (ca 4) (ca 17) (ca 18) (ca 20) (ca 28) (ca 35) ((tl (pos a)).1) _ (ci 0) (ci 1) (ci 18) (ci 19) st (ci 20) (ci 21) (ci 22) (cf 40) (cf 41) (cf 42) (cf 43) (cf 44) ((sv (pos a)).1) ((sv (pos a)).2.1) ((sv (pos a)).2.2.1) ((sv (pos a)).2.2.2.1) ((sv (pos a)).2.2.2.2.1) ((sv (pos a)).2.2.2.2.2.1) ((sv (pos a)).2.2.2.2.2.2.1) ((sv (pos a)).2.2.2.2.2.2.2.1) ((sv (pos a)).2.2.2.2.2.2.2.2.1) ((sv (pos a)).2.2.2.2.2.2.2.2.2.1) ((sv (pos a)).2.2.2.2.2.2.2.2.2.2) F (xs (i + 1)) (xs (i + 2)) (tri_in hk1) _ _ _ _ _ _ _ _ _ q1) yk_X10_interval wd_1230 ⟨rfl, rfl, Nat.le_of_ble_eq_true rfl, Nat.le_of_ble_eq_true rfl⟩ ⟨Nat.le_of_ble_eq_true rfl, Nat.le_of_ble_eq_true rfl⟩ hN hT hK hP hD hS hA [true, false, false, false, false, false, false, false, false, false, false, false, false, false, false, true, true, false, false, true, false, false, false, false, false, false, false, false, false, false, false, false, false, false, false, false, false, false, false, true, true, true, true, true, true, false, true, true, true, true, true, true, true, true, true, true] (va_recv hK hP (ci := 10) (q0 := 0) rfl rfl) hpm rfl rfl (Nat.le_of_ble_eq_true rfl) rfl rfl rfl rfl hl.1 rfl (Nat.le_of_ble_eq_true rfl) dL_1405 (fun H locs hP hD hS => ?_)
  have hpb := (pool1 (G := G) (tl := tl) (sv := sv) hk1 (wC G ca (updI (updI (updI ci 20 y.1) 21 y.2.1) 22 y.2.2.1) (updA (updA (updA (updA (updA cf 40 y.2.2.2.1) 41 y.2.2.2.2.1) 42 y.2.2.2.2.2.1) 43 y.2.2.2.2.2.2.1) 44 y.2.2.2.2.2.2.2) st bx) (wM G hm ma mi mf)).symm
  have hP := (hP.perm hpb).perm pmod
  have hD := (hD.perm hpb).perm pmod
  refine lv_aload_n hx hb dL_1408 rfl (lv_at hl 2 rfl) ?_
  refine arg_push (j := 1) hx hb hX hbl hS (lv_at hl 0 rfl) (lv_at hl 3 rfl) hL hi (by decide) rfl dL_1409 dL_1410 dL_1411 dL_1412 dL_1413 ?_
  refine arg_push (j := 2) hx hb hX hbl hS (lv_at hl 0 rfl) (lv_at hl 3 rfl) hL hi (by decide) rfl dL_1414 dL_1415 dL_1416 dL_1417 dL_1418 ?_
  refine cl_F0 (w2 := wM G hm ma (updI (updI (updI (updI mi 29 z0') 30 z1') 31 z2') 32 z3') (updA (updA mf 0 al') 45 asd')) (As := [.int (xs (i + 1)), .int (xs (i + 2))]) (rest := [.int r]) ⟨hx, hb, hml, hown, ht0⟩ (c_X11_interval l (gWith G []) hm (ma 0) (ma 1) (ma 2) (ma 45) (ma 3) (ma 4) (ma 6) (ma 18) (ma 21) (ma 22) (ma 23) (ma 24) (ma 25) (ma 26) (ma 33) (ma 34) (ma 38) (ma 39) (ma 40) (ma 41) (ma 42) (ma 43) (ma 46) (ma 47) (ma 48) _ (mi 5) (mi 7) (mi 8) (mi 9) (mi 10) (mi 11) (mi 12) (mi 13) (mi 14) (mi 15) (mi 16) (mi 17) (mi 19) (mi 20) (mi 27) (mi 28) (mi 29) (mi 30) (mi 31) (mi 32) (mi 35) (mi 36) (mi 37) (mi 44) (mi 49) (mi 50) (mf 0) (mf 1) (mf 2) (mf 45) F (xs (i + 1)) (xs (i + 2)) _ _ _ _ _ _ _ q2) yk_X11_interval wd_1936 ⟨rfl, rfl, Nat.le_of_ble_eq_true rfl, Nat.le_of_ble_eq_true rfl⟩ ⟨Nat.le_of_ble_eq_true rfl, Nat.le_of_ble_eq_true rfl⟩ hN hT hK hP hD hS hA [true, true, true, true, false, false, false, false, false, false, false, false, false, false, false, false, false, false, false, false, false, false, true] (va_recv hK hP (ci := 11) (q0 := 0) rfl rfl) rfl (Nat.le_of_ble_eq_true rfl) rfl rfl rfl rfl hl.1 rfl (Nat.le_of_ble_eq_true rfl) dL_1419 (fun H locs hP hD hS => ?_)
  have hP := hP.perm (pmod (a := wC G ca (updI (updI (updI ci 20 y.1) 21 y.2.1) 22 y.2.2.1) (updA (updA (updA (updA (updA cf 40 y.2.2.2.1) 41 y.2.2.2.2.1) 42 y.2.2.2.2.2.1) 43 y.2.2.2.2.2.2.1) 44 y.2.2.2.2.2.2.2) st bx)).symm
  have hD := hD.perm (pmod (a := wC G ca (updI (updI (updI ci 20 y.1) 21 y.2.1) 22 y.2.2.1) (updA (updA (updA (updA (updA cf 40 y.2.2.2.1) 41 y.2.2.2.2.1) 42 y.2.2.2.2.2.1) 43 y.2.2.2.2.2.2.1) 44 y.2.2.2.2.2.2.2) st bx)).symm
  refine lv_icmp_eq (tgt := 1519) hx hb dL_1422 (by decide) (fun _ => kk _ _ ⟨ca, (updI (updI (updI ci 20 y.1) 21 y.2.1) 22 y.2.2.1), (updA (updA (updA (updA (updA cf 40 y.2.2.2.1) 41 y.2.2.2.2.1) 42 y.2.2.2.2.2.1) 43 y.2.2.2.2.2.2.1) 44 y.2.2.2.2.2.2.2), st, bx, hm, ma, (updI (updI (updI (updI mi 29 z0') 30 z1') 31 z2') 32 z3'), (updA (updA mf 0 al') 45 asd'), tl, sv, hP, hD, hS, ?_, hl⟩) (fun q => absurd rfl q)
  exact h.same hal ⟨⟨rfl, rfl, rfl, rfl, rfl, rfl, rfl, rfl, rfl, rfl, rfl, rfl⟩, ⟨rfl, rfl, rfl⟩, rfl, rfl, rfl, rfl, rfl⟩
end Cases81
