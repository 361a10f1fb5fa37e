/-! the law's cases -/
section Cases82
variable {p : Program} {l : Launch} {e : Env} {s : State} {m : MethodId} {below : List Frame} {meth : Method} {c : Code} {H : Heap} {locs : List Loc} {ls : Array Slot} {G : GG} {b L i : Nat} {xs : Nat → Int32}
set_option maxRecDepth 100000 in
set_option maxHeartbeats 4000000 in
theorem case_write (K : lwK p s m meth c b L xs G) (hi : i + 6 ≤ L) (hI : LI G s b i H locs ls) (kk : ∀ (H : Heap) (locs : List Loc), LI G s b i H locs ls → WL p l e s m below meth c b H locs 1519 ls []) : WL p l e s m below meth c b H locs 350 ls [] := by
  obtain ⟨⟨hx, hb, hr, hml, hown, hts, hX, hbl, hlocks, hgv⟩, hL, hN, hT, hK⟩ := K
  have ht0 : ∀ w ∈ gtbl, w.before #[Value.ref b] s = true := fun w hw => hts w (gtbl_sub hw)
  have hA : ∀ q : Nat, s.heap.size ≤ q → lwA s q := fun _ h => h
  obtain ⟨ca, ci, cf, st, bx, hm, ma, mi, mf, tl, sv, hP, hD, hS, ⟨n, k, bk, a, u, Lt, uu, pos, h⟩, hl⟩ := hI
  have hs : st a = some (tl (pos a)).1 := h.hs
  have hn : st (nxA a) = some (tl (pos (nxA a))).1 := h.hn
  have hz : st 0 = some (tl (pos 0)).1 := h.ps 0 (by decide)
  have hk1 : pos a < 15 := by have := h.pl; omega
  have hk2 : pos (nxA a) < 15 := by have := h.pn; omega
  have hk0 : pos 0 < 15 := by have := h.gl.2.1 0 (by decide); omega
  obtain ⟨e1, e2, hSR⟩ := h.cur
  obtain ⟨F, hF⟩ : ∃ F : Nat, 3000000 < F := ⟨3000001, by decide⟩
  obtain ⟨r, a1, l1, u1, st1, o1, al1, was1, q1, q2, hSt⟩ := A_write (F := F) (la := nI (a + u)) (un := nI u) (o := sv (pos (nxA a))) (was := mf 46) (by omega) h.ha hs hn h.hb hSR (xs (i + 1)) (xs (i + 2))
  try simp only [← h.at_, ← h.last, ← e1, ← e2] at q1
  try simp only [← h.bank, ← h.acts, ← h.und] at q2
  refine lv_aload_n hx hb dL_350 rfl (lv_at hl 1 rfl) ?_
  refine arg_push (j := 1) hx hb hX hbl hS (lv_at hl 0 rfl) (lv_at hl 3 rfl) hL hi (by decide) rfl dL_351 dL_352 dL_353 dL_354 dL_355 ?_
  refine arg_push (j := 2) hx hb hX hbl hS (lv_at hl 0 rfl) (lv_at hl 3 rfl) hL hi (by decide) rfl dL_356 dL_357 dL_358 dL_359 dL_360 ?_
  have hne : pos a ≠ pos (nxA a) := h.pne
  have hpm := pool2 (G := G) (tl := tl) (sv := sv) hk1 hk2 hne (wC G ca ci cf st bx) (wM G hm ma mi mf)
  have hP := hP.perm hpm
  have hD := hD.perm hpm
  refine cl_FS (w2 := wC G ca (updI (updI ci 18 a1) 19 l1) cf st1 bx ++ clu G (tl (pos a)) (sv (pos a)) ++ clu G (tl (pos (nxA a))) o1) (As := [.int (xs (i + 1)), .int (xs (i + 2))]) (rest := []) ⟨hx, hb, hml, hown, ht0⟩ (c_X10_write l (gWith G (allS tl)) (ca 0) (ca 15) (ca 16) ((tl (pos a)).2.1) ((tl (pos a)).2.2.1.1) ((tl (pos a)).2.2.1.2.1) ((tl (pos a)).2.2.1.2.2) ((tl (pos a)).2.2.2.1) ((tl (pos a)).2.2.2.2.1) ((tl (pos a)).2.2.2.2.2.1) ((tl (pos a)).2.2.2.2.2.2.1) ((tl (pos a)).2.2.2.2.2.2.2.1) ((tl (pos a)).2.2.2.2.2.2.2.2) ((tl (pos (nxA a))).2.1) ((tl (pos (nxA a))).2.2.1.1) ((tl (pos (nxA a))).2.2.1.2.1) ((tl (pos (nxA a))).2.2.1.2.2) ((tl (pos (nxA a))).2.2.2.1) ((tl (pos (nxA a))).2.2.2.2.1) ((tl (pos (nxA a))).2.2.2.2.2.1) ((tl (pos (nxA a))).2.2.2.2.2.2.1) ((tl (pos (nxA a))).2.2.2.2.2.2.2.1) ((tl (pos (nxA a))).2.2.2.2.2.2.2.2) (ca 2) (ca 1) (ca 4) (ca 17) (ca 18) (ca 19) (ca 20) (ca 28) (ca 35) (ca 39) ((tl (pos a)).1) ((tl (pos (nxA a))).1) _ (ci 0) (ci 1) (ci 18) (ci 19) st ((sv (pos a)).1) ((sv (pos a)).2.1) ((sv (pos a)).2.2.1) ((sv (pos a)).2.2.2.1) ((sv (pos a)).2.2.2.2.1) ((sv (pos a)).2.2.2.2.2.1) ((sv (pos a)).2.2.2.2.2.2.1) ((sv (pos a)).2.2.2.2.2.2.2.1) ((sv (pos a)).2.2.2.2.2.2.2.2.1) ((sv (pos a)).2.2.2.2.2.2.2.2.2.1) ((sv (pos a)).2.2.2.2.2.2.2.2.2.2) ((sv (pos (nxA a))).1) ((sv (pos (nxA a))).2.1) ((sv (pos (nxA a))).2.2.1) ((sv (pos (nxA a))).2.2.2.1) ((sv (pos (nxA a))).2.2.2.2.1) ((sv (pos (nxA a))).2.2.2.2.2.1) ((sv (pos (nxA a))).2.2.2.2.2.2.1) ((sv (pos (nxA a))).2.2.2.2.2.2.2.1) ((sv (pos (nxA a))).2.2.2.2.2.2.2.2.1) ((sv (pos (nxA a))).2.2.2.2.2.2.2.2.2.1) ((sv (pos (nxA a))).2.2.2.2.2.2.2.2.2.2) F (xs (i + 1)) (xs (i + 2)) (tri_in hk1) (tri_in hk2) (st_all h.gl.2.1 h.ps) _ _ _ _ _ _ _ _ _ _ _ _ _ _ _ q1) yk_X10_write wd_787 ⟨rfl, rfl, Nat.le_of_ble_eq_true rfl, Nat.le_of_ble_eq_true rfl⟩ ⟨Nat.le_of_ble_eq_true rfl, Nat.le_of_ble_eq_true rfl⟩ hN hT hK hP hD hS hA [true, false, false, false, false, false, false, false, false, false, false, false, false, false, false, true, true, false, false, false, false, false, false, false, false, false, false, false, false, false, false, false, false, false, false, false, false, false, false, false, false, false, false, false, false, false, true, true, true, true, true, true, true, true, true, true, false, true, true, true, true, true, true, true, true, true, true] (va_recv hK hP (ci := 10) (q0 := 0) rfl rfl) hpm rfl rfl (Nat.le_of_ble_eq_true rfl) rfl rfl rfl rfl hl.1 rfl (Nat.le_of_ble_eq_true rfl) dL_361 (fun H locs hP hD hS => ?_)
  have hpb := pool2_b (G := G) (tl := tl) (sv := sv) hk1 hk2 hne o1 (wC G ca (updI (updI ci 18 a1) 19 l1) cf st1 bx) (wM G hm ma mi mf)
  have hP := (hP.perm hpb).perm pmod
  have hD := (hD.perm hpb).perm pmod
  refine lv_aload_n hx hb dL_364 rfl (lv_at hl 2 rfl) ?_
  refine arg_push (j := 1) hx hb hX hbl hS (lv_at hl 0 rfl) (lv_at hl 3 rfl) hL hi (by decide) rfl dL_365 dL_366 dL_367 dL_368 dL_369 ?_
  refine arg_push (j := 2) hx hb hX hbl hS (lv_at hl 0 rfl) (lv_at hl 3 rfl) hL hi (by decide) rfl dL_370 dL_371 dL_372 dL_373 dL_374 ?_
  refine cl_F0 (w2 := wM G hm ma (updI (updI mi 49 a1) 50 u1) (updA (updA mf 0 al1) 46 was1)) (As := [.int (xs (i + 1)), .int (xs (i + 2))]) (rest := [.int r]) ⟨hx, hb, hml, hown, ht0⟩ (c_X11_write l (gWith G []) hm (ma 0) (ma 1) (ma 46) (ma 2) (ma 3) (ma 4) (ma 6) (ma 18) (ma 21) (ma 22) (ma 23) (ma 24) (ma 25) (ma 26) (ma 33) (ma 34) (ma 38) (ma 39) (ma 40) (ma 41) (ma 42) (ma 43) (ma 45) (ma 47) (ma 48) _ (mi 5) (mi 7) (mi 8) (mi 9) (mi 10) (mi 11) (mi 12) (mi 13) (mi 14) (mi 15) (mi 16) (mi 17) (mi 19) (mi 20) (mi 27) (mi 28) (mi 29) (mi 30) (mi 31) (mi 32) (mi 35) (mi 36) (mi 37) (mi 44) (mi 49) (mi 50) (mf 0) (mf 1) (mf 46) F (xs (i + 1)) (xs (i + 2)) _ _ _ _ _ q2) yk_X11_write wd_1584 ⟨rfl, rfl, Nat.le_of_ble_eq_true rfl, Nat.le_of_ble_eq_true rfl⟩ ⟨Nat.le_of_ble_eq_true rfl, Nat.le_of_ble_eq_true rfl⟩ hN hT hK hP hD hS hA [true, true, true, false, false, false, false, false, false, false, false, false, false, false, false, false, false, false, false, false, false, false, false, true] (va_recv hK hP (ci := 11) (q0 := 0) rfl rfl) rfl (Nat.le_of_ble_eq_true rfl) rfl rfl rfl rfl hl.1 rfl (Nat.le_of_ble_eq_true rfl) dL_375 (fun H locs hP hD hS => ?_)
  have hP := hP.perm (pmod (a := wC G ca (updI (updI ci 18 a1) 19 l1) cf st1 bx)).symm
  have hD := hD.perm (pmod (a := wC G ca (updI (updI ci 18 a1) 19 l1) cf st1 bx)).symm
  refine lv_icmp_eq (tgt := 1519) hx hb dL_378 (by decide) (fun _ => kk _ _ ⟨ca, (updI (updI ci 18 a1) 19 l1), cf, st1, bx, hm, ma, (updI (updI mi 49 a1) 50 u1), (updA (updA mf 0 al1) 46 was1), tl, (svU sv (pos (nxA a)) o1), hP, hD, hS, ?_, hl⟩) (fun q => absurd rfl q)
  exact h.act hSt rfl ⟨⟨rfl, rfl, rfl, rfl, rfl, rfl, rfl, rfl, rfl, rfl, rfl, rfl⟩, rfl, rfl, rfl⟩
set_option maxRecDepth 100000 in
set_option maxHeartbeats 4000000 in
theorem case_slip (K : lwK p s m meth c b L xs G) (hi : i + 6 ≤ L) (hI : LI G s b i H locs ls) (kk : ∀ (H : Heap) (locs : List Loc), LI G s b i H locs ls → WL p l e s m below meth c b H locs 1519 ls []) : WL p l e s m below meth c b H locs 462 ls [] := by
  obtain ⟨⟨hx, hb, hr, hml, hown, hts, hX, hbl, hlocks, hgv⟩, hL, hN, hT, hK⟩ := K
  have ht0 : ∀ w ∈ gtbl, w.before #[Value.ref b] s = true := fun w hw => hts w (gtbl_sub hw)
  have hA : ∀ q : Nat, s.heap.size ≤ q → lwA s q := fun _ h => h
  obtain ⟨ca, ci, cf, st, bx, hm, ma, mi, mf, tl, sv, hP, hD, hS, ⟨n, k, bk, a, u, Lt, uu, pos, h⟩, hl⟩ := hI
  have hs : st a = some (tl (pos a)).1 := h.hs
  have hn : st (nxA a) = some (tl (pos (nxA a))).1 := h.hn
  have hz : st 0 = some (tl (pos 0)).1 := h.ps 0 (by decide)
  have hk1 : pos a < 15 := by have := h.pl; omega
  have hk2 : pos (nxA a) < 15 := by have := h.pn; omega
  have hk0 : pos 0 < 15 := by have := h.gl.2.1 0 (by decide); omega
  obtain ⟨e1, e2, hSR⟩ := h.cur
  obtain ⟨F, hF⟩ : ∃ F : Nat, 3000000 < F := ⟨3000001, by decide⟩
  obtain ⟨r, a1, l1, u1, st1, o1, al1, was1, q1, q2, hSt⟩ := A_slip (F := F) (la := nI (a + u)) (un := nI u) (o := sv (pos (nxA a))) (was := mf 46) (by omega) h.ha hs hn h.hb hSR (xs (i + 1)) (xs (i + 2))
  try simp only [← h.at_, ← h.last, ← e1, ← e2] at q1
  try simp only [← h.bank, ← h.acts, ← h.und] at q2
  refine lv_aload_n hx hb dL_462 rfl (lv_at hl 1 rfl) ?_
  refine arg_push (j := 1) hx hb hX hbl hS (lv_at hl 0 rfl) (lv_at hl 3 rfl) hL hi (by decide) rfl dL_463 dL_464 dL_465 dL_466 dL_467 ?_
  refine arg_push (j := 2) hx hb hX hbl hS (lv_at hl 0 rfl) (lv_at hl 3 rfl) hL hi (by decide) rfl dL_468 dL_469 dL_470 dL_471 dL_472 ?_
  have hne : pos a ≠ pos (nxA a) := h.pne
  have hpm := pool2 (G := G) (tl := tl) (sv := sv) hk1 hk2 hne (wC G ca ci cf st bx) (wM G hm ma mi mf)
  have hP := hP.perm hpm
  have hD := hD.perm hpm
  refine cl_FS (w2 := wC G ca (updI (updI ci 18 a1) 19 l1) cf st1 bx ++ clu G (tl (pos a)) (sv (pos a)) ++ clu G (tl (pos (nxA a))) o1) (As := [.int (xs (i + 1)), .int (xs (i + 2))]) (rest := []) ⟨hx, hb, hml, hown, ht0⟩ (c_X10_slip l (gWith G (allS tl)) (ca 0) (ca 15) (ca 16) ((tl (pos a)).2.1) ((tl (pos a)).2.2.1.1) ((tl (pos a)).2.2.1.2.1) ((tl (pos a)).2.2.1.2.2) ((tl (pos a)).2.2.2.1) ((tl (pos a)).2.2.2.2.1) ((tl (pos a)).2.2.2.2.2.1) ((tl (pos a)).2.2.2.2.2.2.1) ((tl (pos a)).2.2.2.2.2.2.2.1) ((tl (pos a)).2.2.2.2.2.2.2.2) ((tl (pos (nxA a))).2.1) ((tl (pos (nxA a))).2.2.1.1) ((tl (pos (nxA a))).2.2.1.2.1) ((tl (pos (nxA a))).2.2.1.2.2) ((tl (pos (nxA a))).2.2.2.1) ((tl (pos (nxA a))).2.2.2.2.1) ((tl (pos (nxA a))).2.2.2.2.2.1) ((tl (pos (nxA a))).2.2.2.2.2.2.1) ((tl (pos (nxA a))).2.2.2.2.2.2.2.1) ((tl (pos (nxA a))).2.2.2.2.2.2.2.2) (ca 2) (ca 1) (ca 4) (ca 17) (ca 18) (ca 19) (ca 20) (ca 28) (ca 35) (ca 39) ((tl (pos a)).1) ((tl (pos (nxA a))).1) _ (ci 0) (ci 1) (ci 18) (ci 19) st ((sv (pos a)).1) ((sv (pos a)).2.1) ((sv (pos a)).2.2.1) ((sv (pos a)).2.2.2.1) ((sv (pos a)).2.2.2.2.1) ((sv (pos a)).2.2.2.2.2.1) ((sv (pos a)).2.2.2.2.2.2.1) ((sv (pos a)).2.2.2.2.2.2.2.1) ((sv (pos a)).2.2.2.2.2.2.2.2.1) ((sv (pos a)).2.2.2.2.2.2.2.2.2.1) ((sv (pos a)).2.2.2.2.2.2.2.2.2.2) ((sv (pos (nxA a))).1) ((sv (pos (nxA a))).2.1) ((sv (pos (nxA a))).2.2.1) ((sv (pos (nxA a))).2.2.2.1) ((sv (pos (nxA a))).2.2.2.2.1) ((sv (pos (nxA a))).2.2.2.2.2.1) ((sv (pos (nxA a))).2.2.2.2.2.2.1) ((sv (pos (nxA a))).2.2.2.2.2.2.2.1) ((sv (pos (nxA a))).2.2.2.2.2.2.2.2.1) ((sv (pos (nxA a))).2.2.2.2.2.2.2.2.2.1) ((sv (pos (nxA a))).2.2.2.2.2.2.2.2.2.2) F (xs (i + 1)) (xs (i + 2)) (tri_in hk1) (tri_in hk2) (st_all h.gl.2.1 h.ps) _ _ _ _ _ _ _ _ _ _ _ _ _ _ _ q1) yk_X10_slip wd_894 ⟨rfl, rfl, Nat.le_of_ble_eq_true rfl, Nat.le_of_ble_eq_true rfl⟩ ⟨Nat.le_of_ble_eq_true rfl, Nat.le_of_ble_eq_true rfl⟩ hN hT hK hP hD hS hA [true, false, false, false, false, false, false, false, false, false, false, false, false, false, false, true, true, false, false, false, false, false, false, false, false, false, false, false, false, false, false, false, false, false, false, false, false, false, false, false, false, false, false, false, false, false, true, true, true, true, true, true, true, true, true, true, false, true, true, true, true, true, true, true, true, true, true] (va_recv hK hP (ci := 10) (q0 := 0) rfl rfl) hpm rfl rfl (Nat.le_of_ble_eq_true rfl) rfl rfl rfl rfl hl.1 rfl (Nat.le_of_ble_eq_true rfl) dL_473 (fun H locs hP hD hS => ?_)
  have hpb := pool2_b (G := G) (tl := tl) (sv := sv) hk1 hk2 hne o1 (wC G ca (updI (updI ci 18 a1) 19 l1) cf st1 bx) (wM G hm ma mi mf)
  have hP := (hP.perm hpb).perm pmod
  have hD := (hD.perm hpb).perm pmod
  refine lv_aload_n hx hb dL_476 rfl (lv_at hl 2 rfl) ?_
  refine arg_push (j := 1) hx hb hX hbl hS (lv_at hl 0 rfl) (lv_at hl 3 rfl) hL hi (by decide) rfl dL_477 dL_478 dL_479 dL_480 dL_481 ?_
  refine arg_push (j := 2) hx hb hX hbl hS (lv_at hl 0 rfl) (lv_at hl 3 rfl) hL hi (by decide) rfl dL_482 dL_483 dL_484 dL_485 dL_486 ?_
  refine cl_F0 (w2 := wM G hm ma (updI (updI mi 49 a1) 50 u1) (updA (updA mf 0 al1) 46 was1)) (As := [.int (xs (i + 1)), .int (xs (i + 2))]) (rest := [.int r]) ⟨hx, hb, hml, hown, ht0⟩ (c_X11_slip l (gWith G []) hm (ma 0) (ma 1) (ma 2) (ma 46) (ma 3) (ma 4) (ma 6) (ma 18) (ma 21) (ma 22) (ma 23) (ma 24) (ma 25) (ma 26) (ma 33) (ma 34) (ma 38) (ma 39) (ma 40) (ma 41) (ma 42) (ma 43) (ma 45) (ma 47) (ma 48) _ (mi 5) (mi 7) (mi 8) (mi 9) (mi 10) (mi 11) (mi 12) (mi 13) (mi 14) (mi 15) (mi 16) (mi 17) (mi 19) (mi 20) (mi 27) (mi 28) (mi 29) (mi 30) (mi 31) (mi 32) (mi 35) (mi 36) (mi 37) (mi 44) (mi 49) (mi 50) (mf 0) (mf 1) (mf 2) (mf 46) F (xs (i + 1)) (xs (i + 2)) _ _ _ _ _ q2) yk_X11_slip wd_1687 ⟨rfl, rfl, Nat.le_of_ble_eq_true rfl, Nat.le_of_ble_eq_true rfl⟩ ⟨Nat.le_of_ble_eq_true rfl, Nat.le_of_ble_eq_true rfl⟩ hN hT hK hP hD hS hA [true, true, true, true, false, false, false, false, false, false, false, false, false, false, false, false, false, false, false, false, false, false, false, true] (va_recv hK hP (ci := 11) (q0 := 0) rfl rfl) rfl (Nat.le_of_ble_eq_true rfl) rfl rfl rfl rfl hl.1 rfl (Nat.le_of_ble_eq_true rfl) dL_487 (fun H locs hP hD hS => ?_)
  have hP := hP.perm (pmod (a := wC G ca (updI (updI ci 18 a1) 19 l1) cf st1 bx)).symm
  have hD := hD.perm (pmod (a := wC G ca (updI (updI ci 18 a1) 19 l1) cf st1 bx)).symm
  refine lv_icmp_eq (tgt := 1519) hx hb dL_490 (by decide) (fun _ => kk _ _ ⟨ca, (updI (updI ci 18 a1) 19 l1), cf, st1, bx, hm, ma, (updI (updI mi 49 a1) 50 u1), (updA (updA mf 0 al1) 46 was1), tl, (svU sv (pos (nxA a)) o1), hP, hD, hS, ?_, hl⟩) (fun q => absurd rfl q)
  exact h.act hSt rfl ⟨⟨rfl, rfl, rfl, rfl, rfl, rfl, rfl, rfl, rfl, rfl, rfl, rfl⟩, rfl, rfl, rfl⟩
set_option maxRecDepth 100000 in
set_option maxHeartbeats 4000000 in
theorem case_burst (K : lwK p s m meth c b L xs G) (hi : i + 6 ≤ L) (hI : LI G s b i H locs ls) (kk : ∀ (H : Heap) (locs : List Loc), LI G s b i H locs ls → WL p l e s m below meth c b H locs 1519 ls []) : WL p l e s m below meth c b H locs 495 ls [] := by
  obtain ⟨⟨hx, hb, hr, hml, hown, hts, hX, hbl, hlocks, hgv⟩, hL, hN, hT, hK⟩ := K
  have ht0 : ∀ w ∈ gtbl, w.before #[Value.ref b] s = true := fun w hw => hts w (gtbl_sub hw)
  have hA : ∀ q : Nat, s.heap.size ≤ q → lwA s q := fun _ h => h
  obtain ⟨ca, ci, cf, st, bx, hm, ma, mi, mf, tl, sv, hP, hD, hS, ⟨n, k, bk, a, u, Lt, uu, pos, h⟩, hl⟩ := hI
  have hs : st a = some (tl (pos a)).1 := h.hs
  have hn : st (nxA a) = some (tl (pos (nxA a))).1 := h.hn
  have hz : st 0 = some (tl (pos 0)).1 := h.ps 0 (by decide)
  have hk1 : pos a < 15 := by have := h.pl; omega
  have hk2 : pos (nxA a) < 15 := by have := h.pn; omega
  have hk0 : pos 0 < 15 := by have := h.gl.2.1 0 (by decide); omega
  obtain ⟨e1, e2, hSR⟩ := h.cur
  obtain ⟨F, hF⟩ : ∃ F : Nat, 3000000 < F := ⟨3000001, by decide⟩
  obtain ⟨r, a1, l1, u1, st1, o1, al1, was1, q1, q2, hSt⟩ := A_burst (F := F) (la := nI (a + u)) (un := nI u) (o := sv (pos (nxA a))) (was := mf 46) (by omega) h.ha hs hn h.hb hSR (xs (i + 1)) (xs (i + 2)) (xs (i + 3))
  try simp only [← h.at_, ← h.last, ← e1, ← e2] at q1
  try simp only [← h.bank, ← h.acts, ← h.und] at q2
  refine lv_aload_n hx hb dL_495 rfl (lv_at hl 1 rfl) ?_
  refine arg_push (j := 1) hx hb hX hbl hS (lv_at hl 0 rfl) (lv_at hl 3 rfl) hL hi (by decide) rfl dL_496 dL_497 dL_498 dL_499 dL_500 ?_
  refine arg_push (j := 2) hx hb hX hbl hS (lv_at hl 0 rfl) (lv_at hl 3 rfl) hL hi (by decide) rfl dL_501 dL_502 dL_503 dL_504 dL_505 ?_
  refine arg_push (j := 3) hx hb hX hbl hS (lv_at hl 0 rfl) (lv_at hl 3 rfl) hL hi (by decide) rfl dL_506 dL_507 dL_508 dL_509 dL_510 ?_
  have hne : pos a ≠ pos (nxA a) := h.pne
  have hpm := pool2 (G := G) (tl := tl) (sv := sv) hk1 hk2 hne (wC G ca ci cf st bx) (wM G hm ma mi mf)
  have hP := hP.perm hpm
  have hD := hD.perm hpm
  refine cl_FS (w2 := wC G ca (updI (updI ci 18 a1) 19 l1) cf st1 bx ++ clu G (tl (pos a)) (sv (pos a)) ++ clu G (tl (pos (nxA a))) o1) (As := [.int (xs (i + 1)), .int (xs (i + 2)), .int (xs (i + 3))]) (rest := []) ⟨hx, hb, hml, hown, ht0⟩ (c_X10_burst l (gWith G (allS tl)) (ca 0) (ca 15) (ca 16) ((tl (pos a)).2.1) ((tl (pos a)).2.2.1.1) ((tl (pos a)).2.2.1.2.1) ((tl (pos a)).2.2.1.2.2) ((tl (pos a)).2.2.2.1) ((tl (pos a)).2.2.2.2.1) ((tl (pos a)).2.2.2.2.2.1) ((tl (pos a)).2.2.2.2.2.2.1) ((tl (pos a)).2.2.2.2.2.2.2.1) ((tl (pos a)).2.2.2.2.2.2.2.2) ((tl (pos (nxA a))).2.1) ((tl (pos (nxA a))).2.2.1.1) ((tl (pos (nxA a))).2.2.1.2.1) ((tl (pos (nxA a))).2.2.1.2.2) ((tl (pos (nxA a))).2.2.2.1) ((tl (pos (nxA a))).2.2.2.2.1) ((tl (pos (nxA a))).2.2.2.2.2.1) ((tl (pos (nxA a))).2.2.2.2.2.2.1) ((tl (pos (nxA a))).2.2.2.2.2.2.2.1) ((tl (pos (nxA a))).2.2.2.2.2.2.2.2) (ca 2) (ca 1) (ca 4) (ca 17) (ca 18) (ca 19) (ca 20) (ca 28) (ca 35) (ca 39) ((tl (pos a)).1) ((tl (pos (nxA a))).1) _ (ci 0) (ci 1) (ci 18) (ci 19) st ((sv (pos a)).1) ((sv (pos a)).2.1) ((sv (pos a)).2.2.1) ((sv (pos a)).2.2.2.1) ((sv (pos a)).2.2.2.2.1) ((sv (pos a)).2.2.2.2.2.1) ((sv (pos a)).2.2.2.2.2.2.1) ((sv (pos a)).2.2.2.2.2.2.2.1) ((sv (pos a)).2.2.2.2.2.2.2.2.1) ((sv (pos a)).2.2.2.2.2.2.2.2.2.1) ((sv (pos a)).2.2.2.2.2.2.2.2.2.2) ((sv (pos (nxA a))).1) ((sv (pos (nxA a))).2.1) ((sv (pos (nxA a))).2.2.1) ((sv (pos (nxA a))).2.2.2.1) ((sv (pos (nxA a))).2.2.2.2.1) ((sv (pos (nxA a))).2.2.2.2.2.1) ((sv (pos (nxA a))).2.2.2.2.2.2.1) ((sv (pos (nxA a))).2.2.2.2.2.2.2.1) ((sv (pos (nxA a))).2.2.2.2.2.2.2.2.1) ((sv (pos (nxA a))).2.2.2.2.2.2.2.2.2.1) ((sv (pos (nxA a))).2.2.2.2.2.2.2.2.2.2) F (xs (i + 1)) (xs (i + 2)) (xs (i + 3)) (tri_in hk1) (tri_in hk2) (st_all h.gl.2.1 h.ps) _ _ _ _ _ _ _ _ _ _ _ _ _ _ _ q1) yk_X10_burst wd_906 ⟨rfl, rfl, Nat.le_of_ble_eq_true rfl, Nat.le_of_ble_eq_true rfl⟩ ⟨Nat.le_of_ble_eq_true rfl, Nat.le_of_ble_eq_true rfl⟩ hN hT hK hP hD hS hA [true, false, false, false, false, false, false, false, false, false, false, false, false, false, false, true, true, false, false, false, false, false, false, false, false, false, false, false, false, false, false, false, false, false, false, false, false, false, false, false, false, false, false, false, false, false, true, true, true, true, true, true, true, true, true, true, false, true, true, true, true, true, true, true, true, true, true] (va_recv hK hP (ci := 10) (q0 := 0) rfl rfl) hpm rfl rfl (Nat.le_of_ble_eq_true rfl) rfl rfl rfl rfl hl.1 rfl (Nat.le_of_ble_eq_true rfl) dL_511 (fun H locs hP hD hS => ?_)
  have hpb := pool2_b (G := G) (tl := tl) (sv := sv) hk1 hk2 hne o1 (wC G ca (updI (updI ci 18 a1) 19 l1) cf st1 bx) (wM G hm ma mi mf)
  have hP := (hP.perm hpb).perm pmod
  have hD := (hD.perm hpb).perm pmod
  refine lv_aload_n hx hb dL_514 rfl (lv_at hl 2 rfl) ?_
  refine arg_push (j := 1) hx hb hX hbl hS (lv_at hl 0 rfl) (lv_at hl 3 rfl) hL hi (by decide) rfl dL_515 dL_516 dL_517 dL_518 dL_519 ?_
  refine arg_push (j := 2) hx hb hX hbl hS (lv_at hl 0 rfl) (lv_at hl 3 rfl) hL hi (by decide) rfl dL_520 dL_521 dL_522 dL_523 dL_524 ?_
  refine arg_push (j := 3) hx hb hX hbl hS (lv_at hl 0 rfl) (lv_at hl 3 rfl) hL hi (by decide) rfl dL_525 dL_526 dL_527 dL_528 dL_529 ?_
  refine cl_F0 (w2 := wM G hm ma (updI (updI mi 49 a1) 50 u1) (updA (updA mf 0 al1) 46 was1)) (As := [.int (xs (i + 1)), .int (xs (i + 2)), .int (xs (i + 3))]) (rest := [.int r]) ⟨hx, hb, hml, hown, ht0⟩ (c_X11_burst l (gWith G []) hm (ma 0) (ma 1) (ma 2) (ma 46) (ma 3) (ma 4) (ma 6) (ma 18) (ma 21) (ma 22) (ma 23) (ma 24) (ma 25) (ma 26) (ma 33) (ma 34) (ma 38) (ma 39) (ma 40) (ma 41) (ma 42) (ma 43) (ma 45) (ma 47) (ma 48) _ (mi 5) (mi 7) (mi 8) (mi 9) (mi 10) (mi 11) (mi 12) (mi 13) (mi 14) (mi 15) (mi 16) (mi 17) (mi 19) (mi 20) (mi 27) (mi 28) (mi 29) (mi 30) (mi 31) (mi 32) (mi 35) (mi 36) (mi 37) (mi 44) (mi 49) (mi 50) (mf 0) (mf 1) (mf 2) (mf 46) F (xs (i + 1)) (xs (i + 2)) (xs (i + 3)) _ _ _ _ _ q2) yk_X11_burst wd_1703 ⟨rfl, rfl, Nat.le_of_ble_eq_true rfl, Nat.le_of_ble_eq_true rfl⟩ ⟨Nat.le_of_ble_eq_true rfl, Nat.le_of_ble_eq_true rfl⟩ hN hT hK hP hD hS hA [true, true, true, true, false, false, false, false, false, false, false, false, false, false, false, false, false, false, false, false, false, false, false, true] (va_recv hK hP (ci := 11) (q0 := 0) rfl rfl) rfl (Nat.le_of_ble_eq_true rfl) rfl rfl rfl rfl hl.1 rfl (Nat.le_of_ble_eq_true rfl) dL_530 (fun H locs hP hD hS => ?_)
  have hP := hP.perm (pmod (a := wC G ca (updI (updI ci 18 a1) 19 l1) cf st1 bx)).symm
  have hD := hD.perm (pmod (a := wC G ca (updI (updI ci 18 a1) 19 l1) cf st1 bx)).symm
  refine lv_icmp_eq (tgt := 1519) hx hb dL_533 (by decide) (fun _ => kk _ _ ⟨ca, (updI (updI ci 18 a1) 19 l1), cf, st1, bx, hm, ma, (updI (updI mi 49 a1) 50 u1), (updA (updA mf 0 al1) 46 was1), tl, (svU sv (pos (nxA a)) o1), hP, hD, hS, ?_, hl⟩) (fun q => absurd rfl q)
  exact h.act hSt rfl ⟨⟨rfl, rfl, rfl, rfl, rfl, rfl, rfl, rfl, rfl, rfl, rfl, rfl⟩, rfl, rfl, rfl⟩
set_option maxRecDepth 100000 in
set_option maxHeartbeats 4000000 in
theorem case_stick (K : lwK p s m meth c b L xs G) (hi : i + 6 ≤ L) (hI : LI G s b i H locs ls) (kk : ∀ (H : Heap) (locs : List Loc), LI G s b i H locs ls → WL p l e s m below meth c b H locs 1519 ls []) : WL p l e s m below meth c b H locs 581 ls [] := by
  obtain ⟨⟨hx, hb, hr, hml, hown, hts, hX, hbl, hlocks, hgv⟩, hL, hN, hT, hK⟩ := K
  have ht0 : ∀ w ∈ gtbl, w.before #[Value.ref b] s = true := fun w hw => hts w (gtbl_sub hw)
  have hA : ∀ q : Nat, s.heap.size ≤ q → lwA s q := fun _ h => h
  obtain ⟨ca, ci, cf, st, bx, hm, ma, mi, mf, tl, sv, hP, hD, hS, ⟨n, k, bk, a, u, Lt, uu, pos, h⟩, hl⟩ := hI
  have hs : st a = some (tl (pos a)).1 := h.hs
  have hn : st (nxA a) = some (tl (pos (nxA a))).1 := h.hn
  have hz : st 0 = some (tl (pos 0)).1 := h.ps 0 (by decide)
  have hk1 : pos a < 15 := by have := h.pl; omega
  have hk2 : pos (nxA a) < 15 := by have := h.pn; omega
  have hk0 : pos 0 < 15 := by have := h.gl.2.1 0 (by decide); omega
  obtain ⟨e1, e2, hSR⟩ := h.cur
  obtain ⟨F, hF⟩ : ∃ F : Nat, 3000000 < F := ⟨3000001, by decide⟩
  obtain ⟨r, a1, l1, u1, st1, o1, al1, was1, q1, q2, hSt⟩ := A_stick (F := F) (la := nI (a + u)) (un := nI u) (o := sv (pos (nxA a))) (was := mf 46) (by omega) h.ha hs hn h.hb hSR (xs (i + 1)) (xs (i + 2)) (xs (i + 3))
  try simp only [← h.at_, ← h.last, ← e1, ← e2] at q1
  try simp only [← h.bank, ← h.acts, ← h.und] at q2
  refine lv_aload_n hx hb dL_581 rfl (lv_at hl 1 rfl) ?_
  refine arg_push (j := 1) hx hb hX hbl hS (lv_at hl 0 rfl) (lv_at hl 3 rfl) hL hi (by decide) rfl dL_582 dL_583 dL_584 dL_585 dL_586 ?_
  refine arg_push (j := 2) hx hb hX hbl hS (lv_at hl 0 rfl) (lv_at hl 3 rfl) hL hi (by decide) rfl dL_587 dL_588 dL_589 dL_590 dL_591 ?_
  refine arg_push (j := 3) hx hb hX hbl hS (lv_at hl 0 rfl) (lv_at hl 3 rfl) hL hi (by decide) rfl dL_592 dL_593 dL_594 dL_595 dL_596 ?_
  have hne : pos a ≠ pos (nxA a) := h.pne
  have hpm := pool2 (G := G) (tl := tl) (sv := sv) hk1 hk2 hne (wC G ca ci cf st bx) (wM G hm ma mi mf)
  have hP := hP.perm hpm
  have hD := hD.perm hpm
  refine cl_FS (w2 := wC G ca (updI (updI ci 18 a1) 19 l1) cf st1 bx ++ clu G (tl (pos a)) (sv (pos a)) ++ clu G (tl (pos (nxA a))) o1) (As := [.int (xs (i + 1)), .int (xs (i + 2)), .int (xs (i + 3))]) (rest := []) ⟨hx, hb, hml, hown, ht0⟩ (c_X10_stick l (gWith G (allS tl)) (ca 0) (ca 15) (ca 16) ((tl (pos a)).2.1) ((tl (pos a)).2.2.1.1) ((tl (pos a)).2.2.1.2.1) ((tl (pos a)).2.2.1.2.2) ((tl (pos a)).2.2.2.1) ((tl (pos a)).2.2.2.2.1) ((tl (pos a)).2.2.2.2.2.1) ((tl (pos a)).2.2.2.2.2.2.1) ((tl (pos a)).2.2.2.2.2.2.2.1) ((tl (pos a)).2.2.2.2.2.2.2.2) ((tl (pos (nxA a))).2.1) ((tl (pos (nxA a))).2.2.1.1) ((tl (pos (nxA a))).2.2.1.2.1) ((tl (pos (nxA a))).2.2.1.2.2) ((tl (pos (nxA a))).2.2.2.1) ((tl (pos (nxA a))).2.2.2.2.1) ((tl (pos (nxA a))).2.2.2.2.2.1) ((tl (pos (nxA a))).2.2.2.2.2.2.1) ((tl (pos (nxA a))).2.2.2.2.2.2.2.1) ((tl (pos (nxA a))).2.2.2.2.2.2.2.2) (ca 2) (ca 1) (ca 4) (ca 17) (ca 18) (ca 19) (ca 20) (ca 28) (ca 35) (ca 39) ((tl (pos a)).1) ((tl (pos (nxA a))).1) _ (ci 0) (ci 1) (ci 18) (ci 19) st ((sv (pos a)).1) ((sv (pos a)).2.1) ((sv (pos a)).2.2.1) ((sv (pos a)).2.2.2.1) ((sv (pos a)).2.2.2.2.1) ((sv (pos a)).2.2.2.2.2.1) ((sv (pos a)).2.2.2.2.2.2.1) ((sv (pos a)).2.2.2.2.2.2.2.1) ((sv (pos a)).2.2.2.2.2.2.2.2.1) ((sv (pos a)).2.2.2.2.2.2.2.2.2.1) ((sv (pos a)).2.2.2.2.2.2.2.2.2.2) ((sv (pos (nxA a))).1) ((sv (pos (nxA a))).2.1) ((sv (pos (nxA a))).2.2.1) ((sv (pos (nxA a))).2.2.2.1) ((sv (pos (nxA a))).2.2.2.2.1) ((sv (pos (nxA a))).2.2.2.2.2.1) ((sv (pos (nxA a))).2.2.2.2.2.2.1) ((sv (pos (nxA a))).2.2.2.2.2.2.2.1) ((sv (pos (nxA a))).2.2.2.2.2.2.2.2.1) ((sv (pos (nxA a))).2.2.2.2.2.2.2.2.2.1) ((sv (pos (nxA a))).2.2.2.2.2.2.2.2.2.2) F (xs (i + 1)) (xs (i + 2)) (xs (i + 3)) (tri_in hk1) (tri_in hk2) (st_all h.gl.2.1 h.ps) _ _ _ _ _ _ _ _ _ _ _ _ _ _ _ q1) yk_X10_stick wd_935 ⟨rfl, rfl, Nat.le_of_ble_eq_true rfl, Nat.le_of_ble_eq_true rfl⟩ ⟨Nat.le_of_ble_eq_true rfl, Nat.le_of_ble_eq_true rfl⟩ hN hT hK hP hD hS hA [true, false, false, false, false, false, false, false, false, false, false, false, false, false, false, true, true, false, false, false, false, false, false, false, false, false, false, false, false, false, false, false, false, false, false, false, false, false, false, false, false, false, false, false, false, false, true, true, true, true, true, true, true, true, true, true, false, true, true, true, true, true, true, true, true, true, true] (va_recv hK hP (ci := 10) (q0 := 0) rfl rfl) hpm rfl rfl (Nat.le_of_ble_eq_true rfl) rfl rfl rfl rfl hl.1 rfl (Nat.le_of_ble_eq_true rfl) dL_597 (fun H locs hP hD hS => ?_)
  have hpb := pool2_b (G := G) (tl := tl) (sv := sv) hk1 hk2 hne o1 (wC G ca (updI (updI ci 18 a1) 19 l1) cf st1 bx) (wM G hm ma mi mf)
  have hP := (hP.perm hpb).perm pmod
  have hD := (hD.perm hpb).perm pmod
  refine lv_aload_n hx hb dL_600 rfl (lv_at hl 2 rfl) ?_
  refine arg_push (j := 1) hx hb hX hbl hS (lv_at hl 0 rfl) (lv_at hl 3 rfl) hL hi (by decide) rfl dL_601 dL_602 dL_603 dL_604 dL_605 ?_
  refine arg_push (j := 2) hx hb hX hbl hS (lv_at hl 0 rfl) (lv_at hl 3 rfl) hL hi (by decide) rfl dL_606 dL_607 dL_608 dL_609 dL_610 ?_
  refine arg_push (j := 3) hx hb hX hbl hS (lv_at hl 0 rfl) (lv_at hl 3 rfl) hL hi (by decide) rfl dL_611 dL_612 dL_613 dL_614 dL_615 ?_
  refine cl_F0 (w2 := wM G hm ma (updI (updI mi 49 a1) 50 u1) (updA (updA mf 0 al1) 46 was1)) (As := [.int (xs (i + 1)), .int (xs (i + 2)), .int (xs (i + 3))]) (rest := [.int r]) ⟨hx, hb, hml, hown, ht0⟩ (c_X11_stick l (gWith G []) hm (ma 0) (ma 1) (ma 2) (ma 46) (ma 3) (ma 4) (ma 6) (ma 18) (ma 21) (ma 22) (ma 23) (ma 24) (ma 25) (ma 26) (ma 33) (ma 34) (ma 38) (ma 39) (ma 40) (ma 41) (ma 42) (ma 43) (ma 45) (ma 47) (ma 48) _ (mi 5) (mi 7) (mi 8) (mi 9) (mi 10) (mi 11) (mi 12) (mi 13) (mi 14) (mi 15) (mi 16) (mi 17) (mi 19) (mi 20) (mi 27) (mi 28) (mi 29) (mi 30) (mi 31) (mi 32) (mi 35) (mi 36) (mi 37) (mi 44) (mi 49) (mi 50) (mf 0) (mf 1) (mf 2) (mf 46) F (xs (i + 1)) (xs (i + 2)) (xs (i + 3)) _ _ _ _ _ q2) yk_X11_stick wd_1726 ⟨rfl, rfl, Nat.le_of_ble_eq_true rfl, Nat.le_of_ble_eq_true rfl⟩ ⟨Nat.le_of_ble_eq_true rfl, Nat.le_of_ble_eq_true rfl⟩ hN hT hK hP hD hS hA [true, true, true, true, false, false, false, false, false, false, false, false, false, false, false, false, false, false, false, false, false, false, false, true] (va_recv hK hP (ci := 11) (q0 := 0) rfl rfl) rfl (Nat.le_of_ble_eq_true rfl) rfl rfl rfl rfl hl.1 rfl (Nat.le_of_ble_eq_true rfl) dL_616 (fun H locs hP hD hS => ?_)
  have hP := hP.perm (pmod (a := wC G ca (updI (updI ci 18 a1) 19 l1) cf st1 bx)).symm
  have hD := hD.perm (pmod (a := wC G ca (updI (updI ci 18 a1) 19 l1) cf st1 bx)).symm
  refine lv_icmp_eq (tgt := 1519) hx hb dL_619 (by decide) (fun _ => kk _ _ ⟨ca, (updI (updI ci 18 a1) 19 l1), cf, st1, bx, hm, ma, (updI (updI mi 49 a1) 50 u1), (updA (updA mf 0 al1) 46 was1), tl, (svU sv (pos (nxA a)) o1), hP, hD, hS, ?_, hl⟩) (fun q => absurd rfl q)
  exact h.act hSt rfl ⟨⟨rfl, rfl, rfl, rfl, rfl, rfl, rfl, rfl, rfl, rfl, rfl, rfl⟩, rfl, rfl, rfl⟩
set_option maxRecDepth 100000 in
set_option maxHeartbeats 4000000 in
theorem case_free (K : lwK p s m meth c b L xs G) (hi : i + 6 ≤ L) (hI : LI G s b i H locs ls) (kk : ∀ (H : Heap) (locs : List Loc), LI G s b i H locs ls → WL p l e s m below meth c b H locs 1519 ls []) : WL p l e s m below meth c b H locs 624 ls [] := by
  obtain ⟨⟨hx, hb, hr, hml, hown, hts, hX, hbl, hlocks, hgv⟩, hL, hN, hT, hK⟩ := K
  have ht0 : ∀ w ∈ gtbl, w.before #[Value.ref b] s = true := fun w hw => hts w (gtbl_sub hw)
  have hA : ∀ q : Nat, s.heap.size ≤ q → lwA s q := fun _ h => h
  obtain ⟨ca, ci, cf, st, bx, hm, ma, mi, mf, tl, sv, hP, hD, hS, ⟨n, k, bk, a, u, Lt, uu, pos, h⟩, hl⟩ := hI
  have hs : st a = some (tl (pos a)).1 := h.hs
  have hn : st (nxA a) = some (tl (pos (nxA a))).1 := h.hn
  have hz : st 0 = some (tl (pos 0)).1 := h.ps 0 (by decide)
  have hk1 : pos a < 15 := by have := h.pl; omega
  have hk2 : pos (nxA a) < 15 := by have := h.pn; omega
  have hk0 : pos 0 < 15 := by have := h.gl.2.1 0 (by decide); omega
  obtain ⟨e1, e2, hSR⟩ := h.cur
  obtain ⟨F, hF⟩ : ∃ F : Nat, 3000000 < F := ⟨3000001, by decide⟩
  obtain ⟨r, a1, l1, u1, st1, o1, al1, was1, q1, q2, hSt⟩ := A_free (F := F) (la := nI (a + u)) (un := nI u) (o := sv (pos (nxA a))) (was := mf 46) (by omega) h.ha hs hn h.hb hSR (xs (i + 1))
  try simp only [← h.at_, ← h.last, ← e1, ← e2] at q1
  try simp only [← h.bank, ← h.acts, ← h.und] at q2
  refine lv_aload_n hx hb dL_624 rfl (lv_at hl 1 rfl) ?_
  refine arg_push (j := 1) hx hb hX hbl hS (lv_at hl 0 rfl) (lv_at hl 3 rfl) hL hi (by decide) rfl dL_625 dL_626 dL_627 dL_628 dL_629 ?_
  have hne : pos a ≠ pos (nxA a) := h.pne
  have hpm := pool2 (G := G) (tl := tl) (sv := sv) hk1 hk2 hne (wC G ca ci cf st bx) (wM G hm ma mi mf)
  have hP := hP.perm hpm
  have hD := hD.perm hpm
  refine cl_FS (w2 := wC G ca (updI (updI ci 18 a1) 19 l1) cf st1 bx ++ clu G (tl (pos a)) (sv (pos a)) ++ clu G (tl (pos (nxA a))) o1) (As := [.int (xs (i + 1))]) (rest := []) ⟨hx, hb, hml, hown, ht0⟩ (c_X10_free l (gWith G (allS tl)) (ca 0) (ca 15) (ca 16) ((tl (pos a)).2.1) ((tl (pos a)).2.2.1.1) ((tl (pos a)).2.2.1.2.1) ((tl (pos a)).2.2.1.2.2) ((tl (pos a)).2.2.2.1) ((tl (pos a)).2.2.2.2.1) ((tl (pos a)).2.2.2.2.2.1) ((tl (pos a)).2.2.2.2.2.2.1) ((tl (pos a)).2.2.2.2.2.2.2.1) ((tl (pos a)).2.2.2.2.2.2.2.2) ((tl (pos (nxA a))).2.1) ((tl (pos (nxA a))).2.2.1.1) ((tl (pos (nxA a))).2.2.1.2.1) ((tl (pos (nxA a))).2.2.1.2.2) ((tl (pos (nxA a))).2.2.2.1) ((tl (pos (nxA a))).2.2.2.2.1) ((tl (pos (nxA a))).2.2.2.2.2.1) ((tl (pos (nxA a))).2.2.2.2.2.2.1) ((tl (pos (nxA a))).2.2.2.2.2.2.2.1) ((tl (pos (nxA a))).2.2.2.2.2.2.2.2) (ca 2) (ca 1) (ca 4) (ca 17) (ca 18) (ca 19) (ca 20) (ca 28) (ca 35) (ca 39) ((tl (pos a)).1) ((tl (pos (nxA a))).1) _ (ci 0) (ci 1) (ci 18) (ci 19) st ((sv (pos a)).1) ((sv (pos a)).2.1) ((sv (pos a)).2.2.1) ((sv (pos a)).2.2.2.1) ((sv (pos a)).2.2.2.2.1) ((sv (pos a)).2.2.2.2.2.1) ((sv (pos a)).2.2.2.2.2.2.1) ((sv (pos a)).2.2.2.2.2.2.2.1) ((sv (pos a)).2.2.2.2.2.2.2.2.1) ((sv (pos a)).2.2.2.2.2.2.2.2.2.1) ((sv (pos a)).2.2.2.2.2.2.2.2.2.2) ((sv (pos (nxA a))).1) ((sv (pos (nxA a))).2.1) ((sv (pos (nxA a))).2.2.1) ((sv (pos (nxA a))).2.2.2.1) ((sv (pos (nxA a))).2.2.2.2.1) ((sv (pos (nxA a))).2.2.2.2.2.1) ((sv (pos (nxA a))).2.2.2.2.2.2.1) ((sv (pos (nxA a))).2.2.2.2.2.2.2.1) ((sv (pos (nxA a))).2.2.2.2.2.2.2.2.1) ((sv (pos (nxA a))).2.2.2.2.2.2.2.2.2.1) ((sv (pos (nxA a))).2.2.2.2.2.2.2.2.2.2) F (xs (i + 1)) (tri_in hk1) (tri_in hk2) (st_all h.gl.2.1 h.ps) _ _ _ _ _ _ _ _ _ _ _ _ _ _ _ q1) yk_X10_free wd_944 ⟨rfl, rfl, Nat.le_of_ble_eq_true rfl, Nat.le_of_ble_eq_true rfl⟩ ⟨Nat.le_of_ble_eq_true rfl, Nat.le_of_ble_eq_true rfl⟩ hN hT hK hP hD hS hA [true, false, false, false, false, false, false, false, false, false, false, false, false, false, false, true, true, false, false, false, false, false, false, false, false, false, false, false, false, false, false, false, false, false, false, false, false, false, false, false, false, false, false, false, false, false, true, true, true, true, true, true, true, true, true, true, false, true, true, true, true, true, true, true, true, true, true] (va_recv hK hP (ci := 10) (q0 := 0) rfl rfl) hpm rfl rfl (Nat.le_of_ble_eq_true rfl) rfl rfl rfl rfl hl.1 rfl (Nat.le_of_ble_eq_true rfl) dL_630 (fun H locs hP hD hS => ?_)
  have hpb := pool2_b (G := G) (tl := tl) (sv := sv) hk1 hk2 hne o1 (wC G ca (updI (updI ci 18 a1) 19 l1) cf st1 bx) (wM G hm ma mi mf)
  have hP := (hP.perm hpb).perm pmod
  have hD := (hD.perm hpb).perm pmod
  refine lv_aload_n hx hb dL_633 rfl (lv_at hl 2 rfl) ?_
  refine arg_push (j := 1) hx hb hX hbl hS (lv_at hl 0 rfl) (lv_at hl 3 rfl) hL hi (by decide) rfl dL_634 dL_635 dL_636 dL_637 dL_638 ?_
  refine cl_F0 (w2 := wM G hm ma (updI (updI mi 49 a1) 50 u1) (updA (updA mf 0 al1) 46 was1)) (As := [.int (xs (i + 1))]) (rest := [.int r]) ⟨hx, hb, hml, hown, ht0⟩ (c_X11_free l (gWith G []) hm (ma 0) (ma 46) (ma 1) (ma 2) (ma 3) (ma 4) (ma 6) (ma 18) (ma 21) (ma 22) (ma 23) (ma 24) (ma 25) (ma 26) (ma 33) (ma 34) (ma 38) (ma 39) (ma 40) (ma 41) (ma 42) (ma 43) (ma 45) (ma 47) (ma 48) _ (mi 5) (mi 7) (mi 8) (mi 9) (mi 10) (mi 11) (mi 12) (mi 13) (mi 14) (mi 15) (mi 16) (mi 17) (mi 19) (mi 20) (mi 27) (mi 28) (mi 29) (mi 30) (mi 31) (mi 32) (mi 35) (mi 36) (mi 37) (mi 44) (mi 49) (mi 50) (mf 0) (mf 46) F (xs (i + 1)) _ _ _ _ _ q2) yk_X11_free wd_1734 ⟨rfl, rfl, Nat.le_of_ble_eq_true rfl, Nat.le_of_ble_eq_true rfl⟩ ⟨Nat.le_of_ble_eq_true rfl, Nat.le_of_ble_eq_true rfl⟩ hN hT hK hP hD hS hA [true, true, false, false, false, false, false, false, false, false, false, false, false, false, false, false, false, false, false, false, false, false, false, true] (va_recv hK hP (ci := 11) (q0 := 0) rfl rfl) rfl (Nat.le_of_ble_eq_true rfl) rfl rfl rfl rfl hl.1 rfl (Nat.le_of_ble_eq_true rfl) dL_639 (fun H locs hP hD hS => ?_)
  have hP := hP.perm (pmod (a := wC G ca (updI (updI ci 18 a1) 19 l1) cf st1 bx)).symm
  have hD := hD.perm (pmod (a := wC G ca (updI (updI ci 18 a1) 19 l1) cf st1 bx)).symm
  refine lv_icmp_eq (tgt := 1519) hx hb dL_642 (by decide) (fun _ => kk _ _ ⟨ca, (updI (updI ci 18 a1) 19 l1), cf, st1, bx, hm, ma, (updI (updI mi 49 a1) 50 u1), (updA (updA mf 0 al1) 46 was1), tl, (svU sv (pos (nxA a)) o1), hP, hD, hS, ?_, hl⟩) (fun q => absurd rfl q)
  exact h.act hSt rfl ⟨⟨rfl, rfl, rfl, rfl, rfl, rfl, rfl, rfl, rfl, rfl, rfl, rfl⟩, rfl, rfl, rfl⟩
set_option maxRecDepth 100000 in
set_option maxHeartbeats 4000000 in
theorem case_column (K : lwK p s m meth c b L xs G) (hi : i + 6 ≤ L) (hI : LI G s b i H locs ls) (kk : ∀ (H : Heap) (locs : List Loc), LI G s b i H locs ls → WL p l e s m below meth c b H locs 1519 ls []) : WL p l e s m below meth c b H locs 647 ls [] := by
  obtain ⟨⟨hx, hb, hr, hml, hown, hts, hX, hbl, hlocks, hgv⟩, hL, hN, hT, hK⟩ := K
  have ht0 : ∀ w ∈ gtbl, w.before #[Value.ref b] s = true := fun w hw => hts w (gtbl_sub hw)
  have hA : ∀ q : Nat, s.heap.size ≤ q → lwA s q := fun _ h => h
  obtain ⟨ca, ci, cf, st, bx, hm, ma, mi, mf, tl, sv, hP, hD, hS, ⟨n, k, bk, a, u, Lt, uu, pos, h⟩, hl⟩ := hI
  have hs : st a = some (tl (pos a)).1 := h.hs
  have hn : st (nxA a) = some (tl (pos (nxA a))).1 := h.hn
  have hz : st 0 = some (tl (pos 0)).1 := h.ps 0 (by decide)
  have hk1 : pos a < 15 := by have := h.pl; omega
  have hk2 : pos (nxA a) < 15 := by have := h.pn; omega
  have hk0 : pos 0 < 15 := by have := h.gl.2.1 0 (by decide); omega
  obtain ⟨e1, e2, hSR⟩ := h.cur
  obtain ⟨F, hF⟩ : ∃ F : Nat, 3000000 < F := ⟨3000001, by decide⟩
  obtain ⟨r, a1, l1, u1, st1, o1, al1, was1, q1, q2, hSt⟩ := A_column (F := F) (la := nI (a + u)) (un := nI u) (o := sv (pos (nxA a))) (was := mf 46) (by omega) h.ha hs hn h.hb hSR (xs (i + 1)) (xs (i + 2))
  try simp only [← h.at_, ← h.last, ← e1, ← e2] at q1
  try simp only [← h.bank, ← h.acts, ← h.und] at q2
  refine lv_aload_n hx hb dL_647 rfl (lv_at hl 1 rfl) ?_
  refine arg_push (j := 1) hx hb hX hbl hS (lv_at hl 0 rfl) (lv_at hl 3 rfl) hL hi (by decide) rfl dL_648 dL_649 dL_650 dL_651 dL_652 ?_
  refine arg_push (j := 2) hx hb hX hbl hS (lv_at hl 0 rfl) (lv_at hl 3 rfl) hL hi (by decide) rfl dL_653 dL_654 dL_655 dL_656 dL_657 ?_
  have hne : pos a ≠ pos (nxA a) := h.pne
  have hpm := pool2 (G := G) (tl := tl) (sv := sv) hk1 hk2 hne (wC G ca ci cf st bx) (wM G hm ma mi mf)
  have hP := hP.perm hpm
  have hD := hD.perm hpm
  refine cl_FS (w2 := wC G ca (updI (updI ci 18 a1) 19 l1) cf st1 bx ++ clu G (tl (pos a)) (sv (pos a)) ++ clu G (tl (pos (nxA a))) o1) (As := [.int (xs (i + 1)), .int (xs (i + 2))]) (rest := []) ⟨hx, hb, hml, hown, ht0⟩ (c_X10_column l (gWith G (allS tl)) (ca 0) (ca 15) (ca 16) ((tl (pos a)).2.1) ((tl (pos a)).2.2.1.1) ((tl (pos a)).2.2.1.2.1) ((tl (pos a)).2.2.1.2.2) ((tl (pos a)).2.2.2.1) ((tl (pos a)).2.2.2.2.1) ((tl (pos a)).2.2.2.2.2.1) ((tl (pos a)).2.2.2.2.2.2.1) ((tl (pos a)).2.2.2.2.2.2.2.1) ((tl (pos a)).2.2.2.2.2.2.2.2) ((tl (pos (nxA a))).2.1) ((tl (pos (nxA a))).2.2.1.1) ((tl (pos (nxA a))).2.2.1.2.1) ((tl (pos (nxA a))).2.2.1.2.2) ((tl (pos (nxA a))).2.2.2.1) ((tl (pos (nxA a))).2.2.2.2.1) ((tl (pos (nxA a))).2.2.2.2.2.1) ((tl (pos (nxA a))).2.2.2.2.2.2.1) ((tl (pos (nxA a))).2.2.2.2.2.2.2.1) ((tl (pos (nxA a))).2.2.2.2.2.2.2.2) (ca 2) (ca 1) (ca 4) (ca 17) (ca 18) (ca 19) (ca 20) (ca 28) (ca 35) (ca 39) ((tl (pos a)).1) ((tl (pos (nxA a))).1) _ (ci 0) (ci 1) (ci 18) (ci 19) st ((sv (pos a)).1) ((sv (pos a)).2.1) ((sv (pos a)).2.2.1) ((sv (pos a)).2.2.2.1) ((sv (pos a)).2.2.2.2.1) ((sv (pos a)).2.2.2.2.2.1) ((sv (pos a)).2.2.2.2.2.2.1) ((sv (pos a)).2.2.2.2.2.2.2.1) ((sv (pos a)).2.2.2.2.2.2.2.2.1) ((sv (pos a)).2.2.2.2.2.2.2.2.2.1) ((sv (pos a)).2.2.2.2.2.2.2.2.2.2) ((sv (pos (nxA a))).1) ((sv (pos (nxA a))).2.1) ((sv (pos (nxA a))).2.2.1) ((sv (pos (nxA a))).2.2.2.1) ((sv (pos (nxA a))).2.2.2.2.1) ((sv (pos (nxA a))).2.2.2.2.2.1) ((sv (pos (nxA a))).2.2.2.2.2.2.1) ((sv (pos (nxA a))).2.2.2.2.2.2.2.1) ((sv (pos (nxA a))).2.2.2.2.2.2.2.2.1) ((sv (pos (nxA a))).2.2.2.2.2.2.2.2.2.1) ((sv (pos (nxA a))).2.2.2.2.2.2.2.2.2.2) F (xs (i + 1)) (xs (i + 2)) (tri_in hk1) (tri_in hk2) (st_all h.gl.2.1 h.ps) _ _ _ _ _ _ _ _ _ _ _ _ _ _ _ q1) yk_X10_column wd_948 ⟨rfl, rfl, Nat.le_of_ble_eq_true rfl, Nat.le_of_ble_eq_true rfl⟩ ⟨Nat.le_of_ble_eq_true rfl, Nat.le_of_ble_eq_true rfl⟩ hN hT hK hP hD hS hA [true, false, false, false, false, false, false, false, false, false, false, false, false, false, false, true, true, false, false, false, false, false, false, false, false, false, false, false, false, false, false, false, false, false, false, false, false, false, false, false, false, false, false, false, false, false, true, true, true, true, true, true, true, true, true, true, false, true, true, true, true, true, true, true, true, true, true] (va_recv hK hP (ci := 10) (q0 := 0) rfl rfl) hpm rfl rfl (Nat.le_of_ble_eq_true rfl) rfl rfl rfl rfl hl.1 rfl (Nat.le_of_ble_eq_true rfl) dL_658 (fun H locs hP hD hS => ?_)
  have hpb := pool2_b (G := G) (tl := tl) (sv := sv) hk1 hk2 hne o1 (wC G ca (updI (updI ci 18 a1) 19 l1) cf st1 bx) (wM G hm ma mi mf)
  have hP := (hP.perm hpb).perm pmod
  have hD := (hD.perm hpb).perm pmod
  refine lv_aload_n hx hb dL_661 rfl (lv_at hl 2 rfl) ?_
  refine arg_push (j := 1) hx hb hX hbl hS (lv_at hl 0 rfl) (lv_at hl 3 rfl) hL hi (by decide) rfl dL_662 dL_663 dL_664 dL_665 dL_666 ?_
  refine arg_push (j := 2) hx hb hX hbl hS (lv_at hl 0 rfl) (lv_at hl 3 rfl) hL hi (by decide) rfl dL_667 dL_668 dL_669 dL_670 dL_671 ?_
  refine cl_F0 (w2 := wM G hm ma (updI (updI mi 49 a1) 50 u1) (updA (updA mf 0 al1) 46 was1)) (As := [.int (xs (i + 1)), .int (xs (i + 2))]) (rest := [.int r]) ⟨hx, hb, hml, hown, ht0⟩ (c_X11_column l (gWith G []) hm (ma 0) (ma 1) (ma 2) (ma 46) (ma 3) (ma 4) (ma 6) (ma 18) (ma 21) (ma 22) (ma 23) (ma 24) (ma 25) (ma 26) (ma 33) (ma 34) (ma 38) (ma 39) (ma 40) (ma 41) (ma 42) (ma 43) (ma 45) (ma 47) (ma 48) _ (mi 5) (mi 7) (mi 8) (mi 9) (mi 10) (mi 11) (mi 12) (mi 13) (mi 14) (mi 15) (mi 16) (mi 17) (mi 19) (mi 20) (mi 27) (mi 28) (mi 29) (mi 30) (mi 31) (mi 32) (mi 35) (mi 36) (mi 37) (mi 44) (mi 49) (mi 50) (mf 0) (mf 1) (mf 2) (mf 46) F (xs (i + 1)) (xs (i + 2)) _ _ _ _ _ q2) yk_X11_column wd_1738 ⟨rfl, rfl, Nat.le_of_ble_eq_true rfl, Nat.le_of_ble_eq_true rfl⟩ ⟨Nat.le_of_ble_eq_true rfl, Nat.le_of_ble_eq_true rfl⟩ hN hT hK hP hD hS hA [true, true, true, true, false, false, false, false, false, false, false, false, false, false, false, false, false, false, false, false, false, false, false, true] (va_recv hK hP (ci := 11) (q0 := 0) rfl rfl) rfl (Nat.le_of_ble_eq_true rfl) rfl rfl rfl rfl hl.1 rfl (Nat.le_of_ble_eq_true rfl) dL_672 (fun H locs hP hD hS => ?_)
  have hP := hP.perm (pmod (a := wC G ca (updI (updI ci 18 a1) 19 l1) cf st1 bx)).symm
  have hD := hD.perm (pmod (a := wC G ca (updI (updI ci 18 a1) 19 l1) cf st1 bx)).symm
  refine lv_icmp_eq (tgt := 1519) hx hb dL_675 (by decide) (fun _ => kk _ _ ⟨ca, (updI (updI ci 18 a1) 19 l1), cf, st1, bx, hm, ma, (updI (updI mi 49 a1) 50 u1), (updA (updA mf 0 al1) 46 was1), tl, (svU sv (pos (nxA a)) o1), hP, hD, hS, ?_, hl⟩) (fun q => absurd rfl q)
  exact h.act hSt rfl ⟨⟨rfl, rfl, rfl, rfl, rfl, rfl, rfl, rfl, rfl, rfl, rfl, rfl⟩, rfl, rfl, rfl⟩
set_option maxRecDepth 100000 in
set_option maxHeartbeats 4000000 in
theorem case_swap (K : lwK p s m meth c b L xs G) (hi : i + 6 ≤ L) (hI : LI G s b i H locs ls) (kk : ∀ (H : Heap) (locs : List Loc), LI G s b i H locs ls → WL p l e s m below meth c b H locs 1519 ls []) : WL p l e s m below meth c b H locs 680 ls [] := by
  obtain ⟨⟨hx, hb, hr, hml, hown, hts, hX, hbl, hlocks, hgv⟩, hL, hN, hT, hK⟩ := K
  have ht0 : ∀ w ∈ gtbl, w.before #[Value.ref b] s = true := fun w hw => hts w (gtbl_sub hw)
  have hA : ∀ q : Nat, s.heap.size ≤ q → lwA s q := fun _ h => h
  obtain ⟨ca, ci, cf, st, bx, hm, ma, mi, mf, tl, sv, hP, hD, hS, ⟨n, k, bk, a, u, Lt, uu, pos, h⟩, hl⟩ := hI
  have hs : st a = some (tl (pos a)).1 := h.hs
  have hn : st (nxA a) = some (tl (pos (nxA a))).1 := h.hn
  have hz : st 0 = some (tl (pos 0)).1 := h.ps 0 (by decide)
  have hk1 : pos a < 15 := by have := h.pl; omega
  have hk2 : pos (nxA a) < 15 := by have := h.pn; omega
  have hk0 : pos 0 < 15 := by have := h.gl.2.1 0 (by decide); omega
  obtain ⟨e1, e2, hSR⟩ := h.cur
  obtain ⟨F, hF⟩ : ∃ F : Nat, 3000000 < F := ⟨3000001, by decide⟩
  obtain ⟨r, a1, l1, u1, st1, o1, al1, was1, q1, q2, hSt⟩ := A_swap (F := F) (la := nI (a + u)) (un := nI u) (o := sv (pos (nxA a))) (was := mf 46) (by omega) h.ha hs hn h.hb hSR (xs (i + 1)) (xs (i + 2))
  try simp only [← h.at_, ← h.last, ← e1, ← e2] at q1
  try simp only [← h.bank, ← h.acts, ← h.und] at q2
  refine lv_aload_n hx hb dL_680 rfl (lv_at hl 1 rfl) ?_
  refine arg_push (j := 1) hx hb hX hbl hS (lv_at hl 0 rfl) (lv_at hl 3 rfl) hL hi (by decide) rfl dL_681 dL_682 dL_683 dL_684 dL_685 ?_
  refine arg_push (j := 2) hx hb hX hbl hS (lv_at hl 0 rfl) (lv_at hl 3 rfl) hL hi (by decide) rfl dL_686 dL_687 dL_688 dL_689 dL_690 ?_
  have hne : pos a ≠ pos (nxA a) := h.pne
  have hpm := pool2 (G := G) (tl := tl) (sv := sv) hk1 hk2 hne (wC G ca ci cf st bx) (wM G hm ma mi mf)
  have hP := hP.perm hpm
  have hD := hD.perm hpm
  refine cl_FS (w2 := wC G ca (updI (updI ci 18 a1) 19 l1) cf st1 bx ++ clu G (tl (pos a)) (sv (pos a)) ++ clu G (tl (pos (nxA a))) o1) (As := [.int (xs (i + 1)), .int (xs (i + 2))]) (rest := []) ⟨hx, hb, hml, hown, ht0⟩ (c_X10_swap l (gWith G (allS tl)) (ca 0) (ca 15) (ca 16) ((tl (pos a)).2.1) ((tl (pos a)).2.2.1.1) ((tl (pos a)).2.2.1.2.1) ((tl (pos a)).2.2.1.2.2) ((tl (pos a)).2.2.2.1) ((tl (pos a)).2.2.2.2.1) ((tl (pos a)).2.2.2.2.2.1) ((tl (pos a)).2.2.2.2.2.2.1) ((tl (pos a)).2.2.2.2.2.2.2.1) ((tl (pos a)).2.2.2.2.2.2.2.2) ((tl (pos (nxA a))).2.1) ((tl (pos (nxA a))).2.2.1.1) ((tl (pos (nxA a))).2.2.1.2.1) ((tl (pos (nxA a))).2.2.1.2.2) ((tl (pos (nxA a))).2.2.2.1) ((tl (pos (nxA a))).2.2.2.2.1) ((tl (pos (nxA a))).2.2.2.2.2.1) ((tl (pos (nxA a))).2.2.2.2.2.2.1) ((tl (pos (nxA a))).2.2.2.2.2.2.2.1) ((tl (pos (nxA a))).2.2.2.2.2.2.2.2) (ca 2) (ca 1) (ca 4) (ca 17) (ca 18) (ca 19) (ca 20) (ca 28) (ca 35) (ca 39) ((tl (pos a)).1) ((tl (pos (nxA a))).1) _ (ci 0) (ci 1) (ci 18) (ci 19) st ((sv (pos a)).1) ((sv (pos a)).2.1) ((sv (pos a)).2.2.1) ((sv (pos a)).2.2.2.1) ((sv (pos a)).2.2.2.2.1) ((sv (pos a)).2.2.2.2.2.1) ((sv (pos a)).2.2.2.2.2.2.1) ((sv (pos a)).2.2.2.2.2.2.2.1) ((sv (pos a)).2.2.2.2.2.2.2.2.1) ((sv (pos a)).2.2.2.2.2.2.2.2.2.1) ((sv (pos a)).2.2.2.2.2.2.2.2.2.2) ((sv (pos (nxA a))).1) ((sv (pos (nxA a))).2.1) ((sv (pos (nxA a))).2.2.1) ((sv (pos (nxA a))).2.2.2.1) ((sv (pos (nxA a))).2.2.2.2.1) ((sv (pos (nxA a))).2.2.2.2.2.1) ((sv (pos (nxA a))).2.2.2.2.2.2.1) ((sv (pos (nxA a))).2.2.2.2.2.2.2.1) ((sv (pos (nxA a))).2.2.2.2.2.2.2.2.1) ((sv (pos (nxA a))).2.2.2.2.2.2.2.2.2.1) ((sv (pos (nxA a))).2.2.2.2.2.2.2.2.2.2) F (xs (i + 1)) (xs (i + 2)) (tri_in hk1) (tri_in hk2) (st_all h.gl.2.1 h.ps) _ _ _ _ _ _ _ _ _ _ _ _ _ _ _ q1) yk_X10_swap wd_963 ⟨rfl, rfl, Nat.le_of_ble_eq_true rfl, Nat.le_of_ble_eq_true rfl⟩ ⟨Nat.le_of_ble_eq_true rfl, Nat.le_of_ble_eq_true rfl⟩ hN hT hK hP hD hS hA [true, false, false, false, false, false, false, false, false, false, false, false, false, false, false, true, true, false, false, false, false, false, false, false, false, false, false, false, false, false, false, false, false, false, false, false, false, false, false, false, false, false, false, false, false, false, true, true, true, true, true, true, true, true, true, true, false, true, true, true, true, true, true, true, true, true, true] (va_recv hK hP (ci := 10) (q0 := 0) rfl rfl) hpm rfl rfl (Nat.le_of_ble_eq_true rfl) rfl rfl rfl rfl hl.1 rfl (Nat.le_of_ble_eq_true rfl) dL_691 (fun H locs hP hD hS => ?_)
  have hpb := pool2_b (G := G) (tl := tl) (sv := sv) hk1 hk2 hne o1 (wC G ca (updI (updI ci 18 a1) 19 l1) cf st1 bx) (wM G hm ma mi mf)
  have hP := (hP.perm hpb).perm pmod
  have hD := (hD.perm hpb).perm pmod
  refine lv_aload_n hx hb dL_694 rfl (lv_at hl 2 rfl) ?_
  refine arg_push (j := 1) hx hb hX hbl hS (lv_at hl 0 rfl) (lv_at hl 3 rfl) hL hi (by decide) rfl dL_695 dL_696 dL_697 dL_698 dL_699 ?_
  refine arg_push (j := 2) hx hb hX hbl hS (lv_at hl 0 rfl) (lv_at hl 3 rfl) hL hi (by decide) rfl dL_700 dL_701 dL_702 dL_703 dL_704 ?_
  refine cl_F0 (w2 := wM G hm ma (updI (updI mi 49 a1) 50 u1) (updA (updA mf 0 al1) 46 was1)) (As := [.int (xs (i + 1)), .int (xs (i + 2))]) (rest := [.int r]) ⟨hx, hb, hml, hown, ht0⟩ (c_X11_swap l (gWith G []) hm (ma 0) (ma 1) (ma 46) (ma 2) (ma 3) (ma 4) (ma 6) (ma 18) (ma 21) (ma 22) (ma 23) (ma 24) (ma 25) (ma 26) (ma 33) (ma 34) (ma 38) (ma 39) (ma 40) (ma 41) (ma 42) (ma 43) (ma 45) (ma 47) (ma 48) _ (mi 5) (mi 7) (mi 8) (mi 9) (mi 10) (mi 11) (mi 12) (mi 13) (mi 14) (mi 15) (mi 16) (mi 17) (mi 19) (mi 20) (mi 27) (mi 28) (mi 29) (mi 30) (mi 31) (mi 32) (mi 35) (mi 36) (mi 37) (mi 44) (mi 49) (mi 50) (mf 0) (mf 1) (mf 46) F (xs (i + 1)) (xs (i + 2)) _ _ _ _ _ q2) yk_X11_swap wd_1750 ⟨rfl, rfl, Nat.le_of_ble_eq_true rfl, Nat.le_of_ble_eq_true rfl⟩ ⟨Nat.le_of_ble_eq_true rfl, Nat.le_of_ble_eq_true rfl⟩ hN hT hK hP hD hS hA [true, true, true, false, false, false, false, false, false, false, false, false, false, false, false, false, false, false, false, false, false, false, false, true] (va_recv hK hP (ci := 11) (q0 := 0) rfl rfl) rfl (Nat.le_of_ble_eq_true rfl) rfl rfl rfl rfl hl.1 rfl (Nat.le_of_ble_eq_true rfl) dL_705 (fun H locs hP hD hS => ?_)
  have hP := hP.perm (pmod (a := wC G ca (updI (updI ci 18 a1) 19 l1) cf st1 bx)).symm
  have hD := hD.perm (pmod (a := wC G ca (updI (updI ci 18 a1) 19 l1) cf st1 bx)).symm
  refine lv_icmp_eq (tgt := 1519) hx hb dL_708 (by decide) (fun _ => kk _ _ ⟨ca, (updI (updI ci 18 a1) 19 l1), cf, st1, bx, hm, ma, (updI (updI mi 49 a1) 50 u1), (updA (updA mf 0 al1) 46 was1), tl, (svU sv (pos (nxA a)) o1), hP, hD, hS, ?_, hl⟩) (fun q => absurd rfl q)
  exact h.act hSt rfl ⟨⟨rfl, rfl, rfl, rfl, rfl, rfl, rfl, rfl, rfl, rfl, rfl, rfl⟩, rfl, rfl, rfl⟩
set_option maxRecDepth 100000 in
set_option maxHeartbeats 4000000 in
theorem case_pairs (K : lwK p s m meth c b L xs G) (hi : i + 6 ≤ L) (hI : LI G s b i H locs ls) (kk : ∀ (H : Heap) (locs : List Loc), LI G s b i H locs ls → WL p l e s m below meth c b H locs 1519 ls []) : WL p l e s m below meth c b H locs 736 ls [] := by
  obtain ⟨⟨hx, hb, hr, hml, hown, hts, hX, hbl, hlocks, hgv⟩, hL, hN, hT, hK⟩ := K
  have ht0 : ∀ w ∈ gtbl, w.before #[Value.ref b] s = true := fun w hw => hts w (gtbl_sub hw)
  have hA : ∀ q : Nat, s.heap.size ≤ q → lwA s q := fun _ h => h
  obtain ⟨ca, ci, cf, st, bx, hm, ma, mi, mf, tl, sv, hP, hD, hS, ⟨n, k, bk, a, u, Lt, uu, pos, h⟩, hl⟩ := hI
  have hs : st a = some (tl (pos a)).1 := h.hs
  have hn : st (nxA a) = some (tl (pos (nxA a))).1 := h.hn
  have hz : st 0 = some (tl (pos 0)).1 := h.ps 0 (by decide)
  have hk1 : pos a < 15 := by have := h.pl; omega
  have hk2 : pos (nxA a) < 15 := by have := h.pn; omega
  have hk0 : pos 0 < 15 := by have := h.gl.2.1 0 (by decide); omega
  obtain ⟨e1, e2, hSR⟩ := h.cur
  obtain ⟨F, hF⟩ : ∃ F : Nat, 3000000 < F := ⟨3000001, by decide⟩
  obtain ⟨r, a1, l1, u1, st1, o1, al1, was1, q1, q2, hSt⟩ := A_pairs (F := F) (la := nI (a + u)) (un := nI u) (o := sv (pos (nxA a))) (was := mf 46) (by omega) h.ha hs hn h.hb hSR (v := if xs (i + 1) = 0 then 0 else 1) (by by_cases q : xs (i + 1) = 0 <;> simp [q])
  try simp only [← h.at_, ← h.last, ← e1, ← e2] at q1
  try simp only [← h.bank, ← h.acts, ← h.und] at q2
  refine lv_aload_n hx hb dL_736 rfl (lv_at hl 1 rfl) ?_
  refine arg_push (j := 1) hx hb hX hbl hS (lv_at hl 0 rfl) (lv_at hl 3 rfl) hL hi (by decide) rfl dL_737 dL_738 dL_739 dL_740 dL_741 ?_
  refine bpush hx hb dL_742 dL_745 dL_746 dL_749 ?_
  have hne : pos a ≠ pos (nxA a) := h.pne
  have hpm := pool2 (G := G) (tl := tl) (sv := sv) hk1 hk2 hne (wC G ca ci cf st bx) (wM G hm ma mi mf)
  have hP := hP.perm hpm
  have hD := hD.perm hpm
  refine cl_FS (w2 := wC G ca (updI (updI ci 18 a1) 19 l1) cf st1 bx ++ clu G (tl (pos a)) (sv (pos a)) ++ clu G (tl (pos (nxA a))) o1) (As := [.int (if xs (i + 1) = 0 then 0 else 1)]) (rest := []) ⟨hx, hb, hml, hown, ht0⟩ (c_X10_pairs l (gWith G (allS tl)) (ca 0) (ca 15) (ca 16) ((tl (pos a)).2.1) ((tl (pos a)).2.2.1.1) ((tl (pos a)).2.2.1.2.1) ((tl (pos a)).2.2.1.2.2) ((tl (pos a)).2.2.2.1) ((tl (pos a)).2.2.2.2.1) ((tl (pos a)).2.2.2.2.2.1) ((tl (pos a)).2.2.2.2.2.2.1) ((tl (pos a)).2.2.2.2.2.2.2.1) ((tl (pos a)).2.2.2.2.2.2.2.2) ((tl (pos (nxA a))).2.1) ((tl (pos (nxA a))).2.2.1.1) ((tl (pos (nxA a))).2.2.1.2.1) ((tl (pos (nxA a))).2.2.1.2.2) ((tl (pos (nxA a))).2.2.2.1) ((tl (pos (nxA a))).2.2.2.2.1) ((tl (pos (nxA a))).2.2.2.2.2.1) ((tl (pos (nxA a))).2.2.2.2.2.2.1) ((tl (pos (nxA a))).2.2.2.2.2.2.2.1) ((tl (pos (nxA a))).2.2.2.2.2.2.2.2) (ca 2) (ca 1) (ca 4) (ca 17) (ca 18) (ca 19) (ca 20) (ca 28) (ca 35) (ca 39) ((tl (pos a)).1) ((tl (pos (nxA a))).1) _ (ci 0) (ci 1) (ci 18) (ci 19) st ((sv (pos a)).1) ((sv (pos a)).2.1) ((sv (pos a)).2.2.1) ((sv (pos a)).2.2.2.1) ((sv (pos a)).2.2.2.2.1) ((sv (pos a)).2.2.2.2.2.1) ((sv (pos a)).2.2.2.2.2.2.1) ((sv (pos a)).2.2.2.2.2.2.2.1) ((sv (pos a)).2.2.2.2.2.2.2.2.1) ((sv (pos a)).2.2.2.2.2.2.2.2.2.1) ((sv (pos a)).2.2.2.2.2.2.2.2.2.2) ((sv (pos (nxA a))).1) ((sv (pos (nxA a))).2.1) ((sv (pos (nxA a))).2.2.1) ((sv (pos (nxA a))).2.2.2.1) ((sv (pos (nxA a))).2.2.2.2.1) ((sv (pos (nxA a))).2.2.2.2.2.1) ((sv (pos (nxA a))).2.2.2.2.2.2.1) ((sv (pos (nxA a))).2.2.2.2.2.2.2.1) ((sv (pos (nxA a))).2.2.2.2.2.2.2.2.1) ((sv (pos (nxA a))).2.2.2.2.2.2.2.2.2.1) ((sv (pos (nxA a))).2.2.2.2.2.2.2.2.2.2) F (if xs (i + 1) = 0 then 0 else 1) (tri_in hk1) (tri_in hk2) (st_all h.gl.2.1 h.ps) _ _ _ _ _ _ _ _ _ _ _ _ _ _ _ q1) yk_X10_pairs wd_979 ⟨rfl, rfl, Nat.le_of_ble_eq_true rfl, Nat.le_of_ble_eq_true rfl⟩ ⟨Nat.le_of_ble_eq_true rfl, Nat.le_of_ble_eq_true rfl⟩ hN hT hK hP hD hS hA [true, false, false, false, false, false, false, false, false, false, false, false, false, false, false, true, true, false, false, false, false, false, false, false, false, false, false, false, false, false, false, false, false, false, false, false, false, false, false, false, false, false, false, false, false, false, true, true, true, true, true, true, true, true, true, true, false, true, true, true, true, true, true, true, true, true, true] (va_recv hK hP (ci := 10) (q0 := 0) rfl rfl) hpm rfl rfl (Nat.le_of_ble_eq_true rfl) rfl rfl rfl rfl hl.1 rfl (Nat.le_of_ble_eq_true rfl) dL_750 (fun H locs hP hD hS => ?_)
  have hpb := pool2_b (G := G) (tl := tl) (sv := sv) hk1 hk2 hne o1 (wC G ca (updI (updI ci 18 a1) 19 l1) cf st1 bx) (wM G hm ma mi mf)
  have hP := (hP.perm hpb).perm pmod
  have hD := (hD.perm hpb).perm pmod
  refine lv_aload_n hx hb dL_753 rfl (lv_at hl 2 rfl) ?_
  refine arg_push (j := 1) hx hb hX hbl hS (lv_at hl 0 rfl) (lv_at hl 3 rfl) hL hi (by decide) rfl dL_754 dL_755 dL_756 dL_757 dL_758 ?_
  refine bpush hx hb dL_759 dL_762 dL_763 dL_766 ?_
  refine cl_F0 (w2 := wM G hm ma (updI (updI mi 49 a1) 50 u1) (updA (updA mf 0 al1) 46 was1)) (As := [.int (if xs (i + 1) = 0 then 0 else 1)]) (rest := [.int r]) ⟨hx, hb, hml, hown, ht0⟩ (c_X11_pairs l (gWith G []) hm (ma 0) (ma 46) (ma 1) (ma 2) (ma 3) (ma 4) (ma 6) (ma 18) (ma 21) (ma 22) (ma 23) (ma 24) (ma 25) (ma 26) (ma 33) (ma 34) (ma 38) (ma 39) (ma 40) (ma 41) (ma 42) (ma 43) (ma 45) (ma 47) (ma 48) _ (mi 5) (mi 7) (mi 8) (mi 9) (mi 10) (mi 11) (mi 12) (mi 13) (mi 14) (mi 15) (mi 16) (mi 17) (mi 19) (mi 20) (mi 27) (mi 28) (mi 29) (mi 30) (mi 31) (mi 32) (mi 35) (mi 36) (mi 37) (mi 44) (mi 49) (mi 50) (mf 0) (mf 46) F (if xs (i + 1) = 0 then 0 else 1) _ _ _ _ _ q2) yk_X11_pairs wd_1762 ⟨rfl, rfl, Nat.le_of_ble_eq_true rfl, Nat.le_of_ble_eq_true rfl⟩ ⟨Nat.le_of_ble_eq_true rfl, Nat.le_of_ble_eq_true rfl⟩ hN hT hK hP hD hS hA [true, true, false, false, false, false, false, false, false, false, false, false, false, false, false, false, false, false, false, false, false, false, false, true] (va_recv hK hP (ci := 11) (q0 := 0) rfl rfl) rfl (Nat.le_of_ble_eq_true rfl) rfl rfl rfl rfl hl.1 rfl (Nat.le_of_ble_eq_true rfl) dL_767 (fun H locs hP hD hS => ?_)
  have hP := hP.perm (pmod (a := wC G ca (updI (updI ci 18 a1) 19 l1) cf st1 bx)).symm
  have hD := hD.perm (pmod (a := wC G ca (updI (updI ci 18 a1) 19 l1) cf st1 bx)).symm
  refine lv_icmp_eq (tgt := 1519) hx hb dL_770 (by decide) (fun _ => kk _ _ ⟨ca, (updI (updI ci 18 a1) 19 l1), cf, st1, bx, hm, ma, (updI (updI mi 49 a1) 50 u1), (updA (updA mf 0 al1) 46 was1), tl, (svU sv (pos (nxA a)) o1), hP, hD, hS, ?_, hl⟩) (fun q => absurd rfl q)
  exact h.act hSt rfl ⟨⟨rfl, rfl, rfl, rfl, rfl, rfl, rfl, rfl, rfl, rfl, rfl, rfl⟩, rfl, rfl, rfl⟩
set_option maxRecDepth 100000 in
set_option maxHeartbeats 4000000 in
theorem case_part (K : lwK p s m meth c b L xs G) (hi : i + 6 ≤ L) (hI : LI G s b i H locs ls) (kk : ∀ (H : Heap) (locs : List Loc), LI G s b i H locs ls → WL p l e s m below meth c b H locs 1519 ls []) : WL p l e s m below meth c b H locs 383 ls [] := by
  obtain ⟨⟨hx, hb, hr, hml, hown, hts, hX, hbl, hlocks, hgv⟩, hL, hN, hT, hK⟩ := K
  have ht0 : ∀ w ∈ gtbl, w.before #[Value.ref b] s = true := fun w hw => hts w (gtbl_sub hw)
  have hA : ∀ q : Nat, s.heap.size ≤ q → lwA s q := fun _ h => h
  obtain ⟨ca, ci, cf, st, bx, hm, ma, mi, mf, tl, sv, hP, hD, hS, ⟨n, k, bk, a, u, Lt, uu, pos, h⟩, hl⟩ := hI
  have hs : st a = some (tl (pos a)).1 := h.hs
  have hn : st (nxA a) = some (tl (pos (nxA a))).1 := h.hn
  have hz : st 0 = some (tl (pos 0)).1 := h.ps 0 (by decide)
  have hk1 : pos a < 15 := by have := h.pl; omega
  have hk2 : pos (nxA a) < 15 := by have := h.pn; omega
  have hk0 : pos 0 < 15 := by have := h.gl.2.1 0 (by decide); omega
  obtain ⟨e1, e2, hSR⟩ := h.cur
  obtain ⟨F, hF⟩ : ∃ F : Nat, 3000000 < F := ⟨3000001, by decide⟩
  obtain ⟨r, a1, l1, u1, st1, o1, al1, was1, x0, x1, x2, w0, w1, w2, w3, q1, q2, hSt⟩ := A_part (F := F) (la := nI (a + u)) (un := nI u) (o := sv (pos (nxA a))) (was := mf 46) (by omega) h.ha hs hn h.hb hSR (ci 20) (ci 21) (ci 22) (mi 29) (mi 30) (mi 31) (mi 32) (xs (i + 1)) (xs (i + 2)) (xs (i + 3))
  try simp only [← h.at_, ← h.last, ← e1, ← e2] at q1
  try simp only [← h.bank, ← h.acts, ← h.und] at q2
  refine lv_aload_n hx hb dL_383 rfl (lv_at hl 1 rfl) ?_
  refine arg_push (j := 1) hx hb hX hbl hS (lv_at hl 0 rfl) (lv_at hl 3 rfl) hL hi (by decide) rfl dL_384 dL_385 dL_386 dL_387 dL_388 ?_
  refine arg_push (j := 2) hx hb hX hbl hS (lv_at hl 0 rfl) (lv_at hl 3 rfl) hL hi (by decide) rfl dL_389 dL_390 dL_391 dL_392 dL_393 ?_
  refine arg_push (j := 3) hx hb hX hbl hS (lv_at hl 0 rfl) (lv_at hl 3 rfl) hL hi (by decide) rfl dL_394 dL_395 dL_396 dL_397 dL_398 ?_
  have hne : pos a ≠ pos (nxA a) := h.pne
  have hpm := pool2 (G := G) (tl := tl) (sv := sv) hk1 hk2 hne (wC G ca ci cf st bx) (wM G hm ma mi mf)
  have hP := hP.perm hpm
  have hD := hD.perm hpm
  refine cl_FS (w2 := wC G ca (updI (updI (updI (updI (updI ci 18 a1) 19 l1) 20 x0) 21 x1) 22 x2) cf st1 bx ++ clu G (tl (pos a)) (sv (pos a)) ++ clu G (tl (pos (nxA a))) o1) (As := [.int (xs (i + 1)), .int (xs (i + 2)), .int (xs (i + 3))]) (rest := []) ⟨hx, hb, hml, hown, ht0⟩ (c_X10_part l (gWith G (allS tl)) (ca 0) (ca 15) (ca 16) (ca 19) ((tl (pos a)).2.1) ((tl (pos a)).2.2.1.1) ((tl (pos a)).2.2.1.2.1) ((tl (pos a)).2.2.1.2.2) ((tl (pos a)).2.2.2.1) ((tl (pos a)).2.2.2.2.1) ((tl (pos a)).2.2.2.2.2.1) ((tl (pos a)).2.2.2.2.2.2.1) ((tl (pos a)).2.2.2.2.2.2.2.1) ((tl (pos a)).2.2.2.2.2.2.2.2) ((tl (pos (nxA a))).2.1) ((tl (pos (nxA a))).2.2.1.1) ((tl (pos (nxA a))).2.2.1.2.1) ((tl (pos (nxA a))).2.2.1.2.2) ((tl (pos (nxA a))).2.2.2.1) ((tl (pos (nxA a))).2.2.2.2.1) ((tl (pos (nxA a))).2.2.2.2.2.1) ((tl (pos (nxA a))).2.2.2.2.2.2.1) ((tl (pos (nxA a))).2.2.2.2.2.2.2.1) ((tl (pos (nxA a))).2.2.2.2.2.2.2.2) (ca 2) (ca 1) (ca 4) (ca 17) (ca 18) (ca 20) (ca 28) (ca 35) (ca 39) ((tl (pos a)).1) ((tl (pos (nxA a))).1) _ (ci 0) (ci 1) (ci 18) (ci 19) st (ci 20) (ci 21) (ci 22) ((sv (pos a)).1) ((sv (pos a)).2.1) ((sv (pos a)).2.2.1) ((sv (pos a)).2.2.2.1) ((sv (pos a)).2.2.2.2.1) ((sv (pos a)).2.2.2.2.2.1) ((sv (pos a)).2.2.2.2.2.2.1) ((sv (pos a)).2.2.2.2.2.2.2.1) ((sv (pos a)).2.2.2.2.2.2.2.2.1) ((sv (pos a)).2.2.2.2.2.2.2.2.2.1) ((sv (pos a)).2.2.2.2.2.2.2.2.2.2) ((sv (pos (nxA a))).1) ((sv (pos (nxA a))).2.1) ((sv (pos (nxA a))).2.2.1) ((sv (pos (nxA a))).2.2.2.1) ((sv (pos (nxA a))).2.2.2.2.1) ((sv (pos (nxA a))).2.2.2.2.2.1) ((sv (pos (nxA a))).2.2.2.2.2.2.1) ((sv (pos (nxA a))).2.2.2.2.2.2.2.1) ((sv (pos (nxA a))).2.2.2.2.2.2.2.2.1) ((sv (pos (nxA a))).2.2.2.2.2.2.2.2.2.1) ((sv (pos (nxA a))).2.2.2.2.2.2.2.2.2.2) F (xs (i + 1)) (xs (i + 2)) (xs (i + 3)) (tri_in hk1) (tri_in hk2) (st_all h.gl.2.1 h.ps) _ _ _ _ _ _ _ _ _ _ _ _ _ _ _ _ _ _ q1) yk_X10_part wd_817 ⟨rfl, rfl, Nat.le_of_ble_eq_true rfl, Nat.le_of_ble_eq_true rfl⟩ ⟨Nat.le_of_ble_eq_true rfl, Nat.le_of_ble_eq_true rfl⟩ hN hT hK hP hD hS hA [true, false, false, false, false, false, false, false, false, false, false, false, false, false, false, true, true, false, false, true, false, false, false, false, false, false, false, false, false, false, false, false, false, false, false, false, false, false, false, false, false, false, false, false, false, false, true, true, true, true, true, true, true, true, true, true, false, true, true, true, true, true, true, true, true, true, true] (va_recv hK hP (ci := 10) (q0 := 0) rfl rfl) hpm rfl rfl (Nat.le_of_ble_eq_true rfl) rfl rfl rfl rfl hl.1 rfl (Nat.le_of_ble_eq_true rfl) dL_399 (fun H locs hP hD hS => ?_)
  have hpb := pool2_b (G := G) (tl := tl) (sv := sv) hk1 hk2 hne o1 (wC G ca (updI (updI (updI (updI (updI ci 18 a1) 19 l1) 20 x0) 21 x1) 22 x2) cf st1 bx) (wM G hm ma mi mf)
  have hP := (hP.perm hpb).perm pmod
  have hD := (hD.perm hpb).perm pmod
  refine lv_aload_n hx hb dL_402 rfl (lv_at hl 2 rfl) ?_
  refine arg_push (j := 1) hx hb hX hbl hS (lv_at hl 0 rfl) (lv_at hl 3 rfl) hL hi (by decide) rfl dL_403 dL_404 dL_405 dL_406 dL_407 ?_
  refine arg_push (j := 2) hx hb hX hbl hS (lv_at hl 0 rfl) (lv_at hl 3 rfl) hL hi (by decide) rfl dL_408 dL_409 dL_410 dL_411 dL_412 ?_
  refine arg_push (j := 3) hx hb hX hbl hS (lv_at hl 0 rfl) (lv_at hl 3 rfl) hL hi (by decide) rfl dL_413 dL_414 dL_415 dL_416 dL_417 ?_
  refine cl_F0 (w2 := wM G hm ma (updI (updI (updI (updI (updI (updI mi 29 w0) 30 w1) 31 w2) 32 w3) 49 a1) 50 u1) (updA (updA mf 0 al1) 46 was1)) (As := [.int (xs (i + 1)), .int (xs (i + 2)), .int (xs (i + 3))]) (rest := [.int r]) ⟨hx, hb, hml, hown, ht0⟩ (c_X11_part l (gWith G []) hm (ma 0) (ma 1) (ma 2) (ma 46) (ma 3) (ma 4) (ma 6) (ma 18) (ma 21) (ma 22) (ma 23) (ma 24) (ma 25) (ma 26) (ma 33) (ma 34) (ma 38) (ma 39) (ma 40) (ma 41) (ma 42) (ma 43) (ma 45) (ma 47) (ma 48) _ (mi 5) (mi 7) (mi 8) (mi 9) (mi 10) (mi 11) (mi 12) (mi 13) (mi 14) (mi 15) (mi 16) (mi 17) (mi 19) (mi 20) (mi 27) (mi 28) (mi 29) (mi 30) (mi 31) (mi 32) (mi 35) (mi 36) (mi 37) (mi 44) (mi 49) (mi 50) (mf 0) (mf 1) (mf 2) (mf 46) F (xs (i + 1)) (xs (i + 2)) (xs (i + 3)) _ _ _ _ _ _ _ _ _ q2) yk_X11_part wd_1623 ⟨rfl, rfl, Nat.le_of_ble_eq_true rfl, Nat.le_of_ble_eq_true rfl⟩ ⟨Nat.le_of_ble_eq_true rfl, Nat.le_of_ble_eq_true rfl⟩ hN hT hK hP hD hS hA [true, true, true, true, false, false, false, false, false, false, false, false, false, false, false, false, false, false, false, false, false, false, false, true] (va_recv hK hP (ci := 11) (q0 := 0) rfl rfl) rfl (Nat.le_of_ble_eq_true rfl) rfl rfl rfl rfl hl.1 rfl (Nat.le_of_ble_eq_true rfl) dL_418 (fun H locs hP hD hS => ?_)
  have hP := hP.perm (pmod (a := wC G ca (updI (updI (updI (updI (updI ci 18 a1) 19 l1) 20 x0) 21 x1) 22 x2) cf st1 bx)).symm
  have hD := hD.perm (pmod (a := wC G ca (updI (updI (updI (updI (updI ci 18 a1) 19 l1) 20 x0) 21 x1) 22 x2) cf st1 bx)).symm
  refine lv_icmp_eq (tgt := 1519) hx hb dL_421 (by decide) (fun _ => kk _ _ ⟨ca, (updI (updI (updI (updI (updI ci 18 a1) 19 l1) 20 x0) 21 x1) 22 x2), cf, st1, bx, hm, ma, (updI (updI (updI (updI (updI (updI mi 29 w0) 30 w1) 31 w2) 32 w3) 49 a1) 50 u1), (updA (updA mf 0 al1) 46 was1), tl, (svU sv (pos (nxA a)) o1), hP, hD, hS, ?_, hl⟩) (fun q => absurd rfl q)
  exact h.act hSt rfl ⟨⟨rfl, rfl, rfl, rfl, rfl, rfl, rfl, rfl, rfl, rfl, rfl, rfl⟩, rfl, rfl, rfl⟩
set_option maxRecDepth 100000 in
set_option maxHeartbeats 4000000 in
theorem case_mend (K : lwK p s m meth c b L xs G) (hi : i + 6 ≤ L) (hI : LI G s b i H locs ls) (kk : ∀ (H : Heap) (locs : List Loc), LI G s b i H locs ls → WL p l e s m below meth c b H locs 1519 ls []) : WL p l e s m below meth c b H locs 426 ls [] := by
  obtain ⟨⟨hx, hb, hr, hml, hown, hts, hX, hbl, hlocks, hgv⟩, hL, hN, hT, hK⟩ := K
  have ht0 : ∀ w ∈ gtbl, w.before #[Value.ref b] s = true := fun w hw => hts w (gtbl_sub hw)
  have hA : ∀ q : Nat, s.heap.size ≤ q → lwA s q := fun _ h => h
  obtain ⟨ca, ci, cf, st, bx, hm, ma, mi, mf, tl, sv, hP, hD, hS, ⟨n, k, bk, a, u, Lt, uu, pos, h⟩, hl⟩ := hI
  have hs : st a = some (tl (pos a)).1 := h.hs
  have hn : st (nxA a) = some (tl (pos (nxA a))).1 := h.hn
  have hz : st 0 = some (tl (pos 0)).1 := h.ps 0 (by decide)
  have hk1 : pos a < 15 := by have := h.pl; omega
  have hk2 : pos (nxA a) < 15 := by have := h.pn; omega
  have hk0 : pos 0 < 15 := by have := h.gl.2.1 0 (by decide); omega
  obtain ⟨e1, e2, hSR⟩ := h.cur
  obtain ⟨F, hF⟩ : ∃ F : Nat, 3000000 < F := ⟨3000001, by decide⟩
  obtain ⟨r, a1, l1, u1, st1, o1, al1, was1, x0, x1, x2, w0, w1, w2, w3, q1, q2, hSt⟩ := A_mend (F := F) (la := nI (a + u)) (un := nI u) (o := sv (pos (nxA a))) (was := mf 46) (by omega) h.ha hs hn h.hb hSR (ci 20) (ci 21) (ci 22) (mi 29) (mi 30) (mi 31) (mi 32) (xs (i + 1))
  try simp only [← h.at_, ← h.last, ← e1, ← e2] at q1
  try simp only [← h.bank, ← h.acts, ← h.und] at q2
  refine lv_aload_n hx hb dL_426 rfl (lv_at hl 1 rfl) ?_
  refine arg_push (j := 1) hx hb hX hbl hS (lv_at hl 0 rfl) (lv_at hl 3 rfl) hL hi (by decide) rfl dL_427 dL_428 dL_429 dL_430 dL_431 ?_
  have hne : pos a ≠ pos (nxA a) := h.pne
  have hpm := pool2 (G := G) (tl := tl) (sv := sv) hk1 hk2 hne (wC G ca ci cf st bx) (wM G hm ma mi mf)
  have hP := hP.perm hpm
  have hD := hD.perm hpm
  refine cl_FS (w2 := wC G ca (updI (updI (updI (updI (updI ci 18 a1) 19 l1) 20 x0) 21 x1) 22 x2) cf st1 bx ++ clu G (tl (pos a)) (sv (pos a)) ++ clu G (tl (pos (nxA a))) o1) (As := [.int (xs (i + 1))]) (rest := []) ⟨hx, hb, hml, hown, ht0⟩ (c_X10_mend l (gWith G (allS tl)) (ca 0) (ca 15) (ca 16) (ca 19) ((tl (pos a)).2.1) ((tl (pos a)).2.2.1.1) ((tl (pos a)).2.2.1.2.1) ((tl (pos a)).2.2.1.2.2) ((tl (pos a)).2.2.2.1) ((tl (pos a)).2.2.2.2.1) ((tl (pos a)).2.2.2.2.2.1) ((tl (pos a)).2.2.2.2.2.2.1) ((tl (pos a)).2.2.2.2.2.2.2.1) ((tl (pos a)).2.2.2.2.2.2.2.2) ((tl (pos (nxA a))).2.1) ((tl (pos (nxA a))).2.2.1.1) ((tl (pos (nxA a))).2.2.1.2.1) ((tl (pos (nxA a))).2.2.1.2.2) ((tl (pos (nxA a))).2.2.2.1) ((tl (pos (nxA a))).2.2.2.2.1) ((tl (pos (nxA a))).2.2.2.2.2.1) ((tl (pos (nxA a))).2.2.2.2.2.2.1) ((tl (pos (nxA a))).2.2.2.2.2.2.2.1) ((tl (pos (nxA a))).2.2.2.2.2.2.2.2) (ca 2) (ca 1) (ca 4) (ca 17) (ca 18) (ca 20) (ca 28) (ca 35) (ca 39) ((tl (pos a)).1) ((tl (pos (nxA a))).1) _ (ci 0) (ci 1) (ci 18) (ci 19) st (ci 20) (ci 21) (ci 22) ((sv (pos a)).1) ((sv (pos a)).2.1) ((sv (pos a)).2.2.1) ((sv (pos a)).2.2.2.1) ((sv (pos a)).2.2.2.2.1) ((sv (pos a)).2.2.2.2.2.1) ((sv (pos a)).2.2.2.2.2.2.1) ((sv (pos a)).2.2.2.2.2.2.2.1) ((sv (pos a)).2.2.2.2.2.2.2.2.1) ((sv (pos a)).2.2.2.2.2.2.2.2.2.1) ((sv (pos a)).2.2.2.2.2.2.2.2.2.2) ((sv (pos (nxA a))).1) ((sv (pos (nxA a))).2.1) ((sv (pos (nxA a))).2.2.1) ((sv (pos (nxA a))).2.2.2.1) ((sv (pos (nxA a))).2.2.2.2.1) ((sv (pos (nxA a))).2.2.2.2.2.1) ((sv (pos (nxA a))).2.2.2.2.2.2.1) ((sv (pos (nxA a))).2.2.2.2.2.2.2.1) ((sv (pos (nxA a))).2.2.2.2.2.2.2.2.1) ((sv (pos (nxA a))).2.2.2.2.2.2.2.2.2.1) ((sv (pos (nxA a))).2.2.2.2.2.2.2.2.2.2) F (xs (i + 1)) (tri_in hk1) (tri_in hk2) (st_all h.gl.2.1 h.ps) _ _ _ _ _ _ _ _ _ _ _ _ _ _ _ _ _ _ q1) yk_X10_mend wd_867 ⟨rfl, rfl, Nat.le_of_ble_eq_true rfl, Nat.le_of_ble_eq_true rfl⟩ ⟨Nat.le_of_ble_eq_true rfl, Nat.le_of_ble_eq_true rfl⟩ hN hT hK hP hD hS hA [true, false, false, false, false, false, false, false, false, false, false, false, false, false, false, true, true, false, false, true, false, false, false, false, false, false, false, false, false, false, false, false, false, false, false, false, false, false, false, false, false, false, false, false, false, false, true, true, true, true, true, true, true, true, true, true, false, true, true, true, true, true, true, true, true, true, true] (va_recv hK hP (ci := 10) (q0 := 0) rfl rfl) hpm rfl rfl (Nat.le_of_ble_eq_true rfl) rfl rfl rfl rfl hl.1 rfl (Nat.le_of_ble_eq_true rfl) dL_432 (fun H locs hP hD hS => ?_)
  have hpb := pool2_b (G := G) (tl := tl) (sv := sv) hk1 hk2 hne o1 (wC G ca (updI (updI (updI (updI (updI ci 18 a1) 19 l1) 20 x0) 21 x1) 22 x2) cf st1 bx) (wM G hm ma mi mf)
  have hP := (hP.perm hpb).perm pmod
  have hD := (hD.perm hpb).perm pmod
  refine lv_aload_n hx hb dL_435 rfl (lv_at hl 2 rfl) ?_
  refine arg_push (j := 1) hx hb hX hbl hS (lv_at hl 0 rfl) (lv_at hl 3 rfl) hL hi (by decide) rfl dL_436 dL_437 dL_438 dL_439 dL_440 ?_
  refine cl_F0 (w2 := wM G hm ma (updI (updI (updI (updI (updI (updI mi 29 w0) 30 w1) 31 w2) 32 w3) 49 a1) 50 u1) (updA (updA mf 0 al1) 46 was1)) (As := [.int (xs (i + 1))]) (rest := [.int r]) ⟨hx, hb, hml, hown, ht0⟩ (c_X11_mend l (gWith G []) hm (ma 0) (ma 1) (ma 2) (ma 46) (ma 3) (ma 4) (ma 6) (ma 18) (ma 21) (ma 22) (ma 23) (ma 24) (ma 25) (ma 26) (ma 33) (ma 34) (ma 38) (ma 39) (ma 40) (ma 41) (ma 42) (ma 43) (ma 45) (ma 47) (ma 48) _ (mi 5) (mi 7) (mi 8) (mi 9) (mi 10) (mi 11) (mi 12) (mi 13) (mi 14) (mi 15) (mi 16) (mi 17) (mi 19) (mi 20) (mi 27) (mi 28) (mi 29) (mi 30) (mi 31) (mi 32) (mi 35) (mi 36) (mi 37) (mi 44) (mi 49) (mi 50) (mf 0) (mf 1) (mf 2) (mf 46) F (xs (i + 1)) _ _ _ _ _ _ _ _ _ q2) yk_X11_mend wd_1671 ⟨rfl, rfl, Nat.le_of_ble_eq_true rfl, Nat.le_of_ble_eq_true rfl⟩ ⟨Nat.le_of_ble_eq_true rfl, Nat.le_of_ble_eq_true rfl⟩ hN hT hK hP hD hS hA [true, true, true, true, false, false, false, false, false, false, false, false, false, false, false, false, false, false, false, false, false, false, false, true] (va_recv hK hP (ci := 11) (q0 := 0) rfl rfl) rfl (Nat.le_of_ble_eq_true rfl) rfl rfl rfl rfl hl.1 rfl (Nat.le_of_ble_eq_true rfl) dL_441 (fun H locs hP hD hS => ?_)
  have hP := hP.perm (pmod (a := wC G ca (updI (updI (updI (updI (updI ci 18 a1) 19 l1) 20 x0) 21 x1) 22 x2) cf st1 bx)).symm
  have hD := hD.perm (pmod (a := wC G ca (updI (updI (updI (updI (updI ci 18 a1) 19 l1) 20 x0) 21 x1) 22 x2) cf st1 bx)).symm
  refine lv_icmp_eq (tgt := 1519) hx hb dL_444 (by decide) (fun _ => kk _ _ ⟨ca, (updI (updI (updI (updI (updI ci 18 a1) 19 l1) 20 x0) 21 x1) 22 x2), cf, st1, bx, hm, ma, (updI (updI (updI (updI (updI (updI mi 29 w0) 30 w1) 31 w2) 32 w3) 49 a1) 50 u1), (updA (updA mf 0 al1) 46 was1), tl, (svU sv (pos (nxA a)) o1), hP, hD, hS, ?_, hl⟩) (fun q => absurd rfl q)
  exact h.act hSt rfl ⟨⟨rfl, rfl, rfl, rfl, rfl, rfl, rfl, rfl, rfl, rfl, rfl, rfl⟩, rfl, rfl, rfl⟩
set_option maxRecDepth 100000 in
set_option maxHeartbeats 4000000 in
theorem case_scrub (K : lwK p s m meth c b L xs G) (hi : i + 6 ≤ L) (hI : LI G s b i H locs ls) (kk : ∀ (H : Heap) (locs : List Loc), LI G s b i H locs ls → WL p l e s m below meth c b H locs 1519 ls []) : WL p l e s m below meth c b H locs 449 ls [] := by
  obtain ⟨⟨hx, hb, hr, hml, hown, hts, hX, hbl, hlocks, hgv⟩, hL, hN, hT, hK⟩ := K
  have ht0 : ∀ w ∈ gtbl, w.before #[Value.ref b] s = true := fun w hw => hts w (gtbl_sub hw)
  have hA : ∀ q : Nat, s.heap.size ≤ q → lwA s q := fun _ h => h
  obtain ⟨ca, ci, cf, st, bx, hm, ma, mi, mf, tl, sv, hP, hD, hS, ⟨n, k, bk, a, u, Lt, uu, pos, h⟩, hl⟩ := hI
  have hs : st a = some (tl (pos a)).1 := h.hs
  have hn : st (nxA a) = some (tl (pos (nxA a))).1 := h.hn
  have hz : st 0 = some (tl (pos 0)).1 := h.ps 0 (by decide)
  have hk1 : pos a < 15 := by have := h.pl; omega
  have hk2 : pos (nxA a) < 15 := by have := h.pn; omega
  have hk0 : pos 0 < 15 := by have := h.gl.2.1 0 (by decide); omega
  obtain ⟨e1, e2, hSR⟩ := h.cur
  obtain ⟨F, hF⟩ : ∃ F : Nat, 3000000 < F := ⟨3000001, by decide⟩
  obtain ⟨r, a1, l1, u1, st1, o1, al1, was1, x0, x1, x2, w0, w1, w2, w3, q1, q2, hSt⟩ := A_scrub (F := F) (la := nI (a + u)) (un := nI u) (o := sv (pos (nxA a))) (was := mf 46) (by omega) h.ha hs hn h.hb hSR (ci 20) (ci 21) (ci 22) (mi 29) (mi 30) (mi 31) (mi 32) 
  try simp only [← h.at_, ← h.last, ← e1, ← e2] at q1
  try simp only [← h.bank, ← h.acts, ← h.und] at q2
  refine lv_aload_n hx hb dL_449 rfl (lv_at hl 1 rfl) ?_
  have hne : pos a ≠ pos (nxA a) := h.pne
  have hpm := pool2 (G := G) (tl := tl) (sv := sv) hk1 hk2 hne (wC G ca ci cf st bx) (wM G hm ma mi mf)
  have hP := hP.perm hpm
  have hD := hD.perm hpm
  refine cl_FS (w2 := wC G ca (updI (updI (updI (updI (updI ci 18 a1) 19 l1) 20 x0) 21 x1) 22 x2) cf st1 bx ++ clu G (tl (pos a)) (sv (pos a)) ++ clu G (tl (pos (nxA a))) o1) (As := []) (rest := []) ⟨hx, hb, hml, hown, ht0⟩ (c_X10_scrub l (gWith G (allS tl)) (ca 0) (ca 15) (ca 16) (ca 19) ((tl (pos a)).2.1) ((tl (pos a)).2.2.1.1) ((tl (pos a)).2.2.1.2.1) ((tl (pos a)).2.2.1.2.2) ((tl (pos a)).2.2.2.1) ((tl (pos a)).2.2.2.2.1) ((tl (pos a)).2.2.2.2.2.1) ((tl (pos a)).2.2.2.2.2.2.1) ((tl (pos a)).2.2.2.2.2.2.2.1) ((tl (pos a)).2.2.2.2.2.2.2.2) ((tl (pos (nxA a))).2.1) ((tl (pos (nxA a))).2.2.1.1) ((tl (pos (nxA a))).2.2.1.2.1) ((tl (pos (nxA a))).2.2.1.2.2) ((tl (pos (nxA a))).2.2.2.1) ((tl (pos (nxA a))).2.2.2.2.1) ((tl (pos (nxA a))).2.2.2.2.2.1) ((tl (pos (nxA a))).2.2.2.2.2.2.1) ((tl (pos (nxA a))).2.2.2.2.2.2.2.1) ((tl (pos (nxA a))).2.2.2.2.2.2.2.2) (ca 2) (ca 1) (ca 4) (ca 17) (ca 18) (ca 20) (ca 28) (ca 35) (ca 39) ((tl (pos a)).1) ((tl (pos (nxA a))).1) _ (ci 0) (ci 1) (ci 18) (ci 19) st (ci 20) (ci 21) (ci 22) ((sv (pos a)).1) ((sv (pos a)).2.1) ((sv (pos a)).2.2.1) ((sv (pos a)).2.2.2.1) ((sv (pos a)).2.2.2.2.1) ((sv (pos a)).2.2.2.2.2.1) ((sv (pos a)).2.2.2.2.2.2.1) ((sv (pos a)).2.2.2.2.2.2.2.1) ((sv (pos a)).2.2.2.2.2.2.2.2.1) ((sv (pos a)).2.2.2.2.2.2.2.2.2.1) ((sv (pos a)).2.2.2.2.2.2.2.2.2.2) ((sv (pos (nxA a))).1) ((sv (pos (nxA a))).2.1) ((sv (pos (nxA a))).2.2.1) ((sv (pos (nxA a))).2.2.2.1) ((sv (pos (nxA a))).2.2.2.2.1) ((sv (pos (nxA a))).2.2.2.2.2.1) ((sv (pos (nxA a))).2.2.2.2.2.2.1) ((sv (pos (nxA a))).2.2.2.2.2.2.2.1) ((sv (pos (nxA a))).2.2.2.2.2.2.2.2.1) ((sv (pos (nxA a))).2.2.2.2.2.2.2.2.2.1) ((sv (pos (nxA a))).2.2.2.2.2.2.2.2.2.2) F (tri_in hk1) (tri_in hk2) (st_all h.gl.2.1 h.ps) _ _ _ _ _ _ _ _ _ _ _ _ _ _ _ _ _ _ q1) yk_X10_scrub wd_880 ⟨rfl, rfl, Nat.le_of_ble_eq_true rfl, Nat.le_of_ble_eq_true rfl⟩ ⟨Nat.le_of_ble_eq_true rfl, Nat.le_of_ble_eq_true rfl⟩ hN hT hK hP hD hS hA [true, false, false, false, false, false, false, false, false, false, false, false, false, false, false, true, true, false, false, true, false, false, false, false, false, false, false, false, false, false, false, false, false, false, false, false, false, false, false, false, false, false, false, false, false, false, true, true, true, true, true, true, true, true, true, true, false, true, true, true, true, true, true, true, true, true, true] (va_recv hK hP (ci := 10) (q0 := 0) rfl rfl) hpm rfl rfl (Nat.le_of_ble_eq_true rfl) rfl rfl rfl rfl hl.1 rfl (Nat.le_of_ble_eq_true rfl) dL_450 (fun H locs hP hD hS => ?_)
  have hpb := pool2_b (G := G) (tl := tl) (sv := sv) hk1 hk2 hne o1 (wC G ca (updI (updI (updI (updI (updI ci 18 a1) 19 l1) 20 x0) 21 x1) 22 x2) cf st1 bx) (wM G hm ma mi mf)
  have hP := (hP.perm hpb).perm pmod
  have hD := (hD.perm hpb).perm pmod
  refine lv_aload_n hx hb dL_453 rfl (lv_at hl 2 rfl) ?_
  refine cl_F0 (w2 := wM G hm ma (updI (updI (updI (updI (updI (updI mi 29 w0) 30 w1) 31 w2) 32 w3) 49 a1) 50 u1) (updA (updA mf 0 al1) 46 was1)) (As := []) (rest := [.int r]) ⟨hx, hb, hml, hown, ht0⟩ (c_X11_scrub l (gWith G []) hm (ma 0) (ma 1) (ma 2) (ma 46) (ma 3) (ma 4) (ma 6) (ma 18) (ma 21) (ma 22) (ma 23) (ma 24) (ma 25) (ma 26) (ma 33) (ma 34) (ma 38) (ma 39) (ma 40) (ma 41) (ma 42) (ma 43) (ma 45) (ma 47) (ma 48) _ (mi 5) (mi 7) (mi 8) (mi 9) (mi 10) (mi 11) (mi 12) (mi 13) (mi 14) (mi 15) (mi 16) (mi 17) (mi 19) (mi 20) (mi 27) (mi 28) (mi 29) (mi 30) (mi 31) (mi 32) (mi 35) (mi 36) (mi 37) (mi 44) (mi 49) (mi 50) (mf 0) (mf 1) (mf 2) (mf 46) F _ _ _ _ _ _ _ _ _ q2) yk_X11_scrub wd_1679 ⟨rfl, rfl, Nat.le_of_ble_eq_true rfl, Nat.le_of_ble_eq_true rfl⟩ ⟨Nat.le_of_ble_eq_true rfl, Nat.le_of_ble_eq_true rfl⟩ hN hT hK hP hD hS hA [true, true, true, true, false, false, false, false, false, false, false, false, false, false, false, false, false, false, false, false, false, false, false, true] (va_recv hK hP (ci := 11) (q0 := 0) rfl rfl) rfl (Nat.le_of_ble_eq_true rfl) rfl rfl rfl rfl hl.1 rfl (Nat.le_of_ble_eq_true rfl) dL_454 (fun H locs hP hD hS => ?_)
  have hP := hP.perm (pmod (a := wC G ca (updI (updI (updI (updI (updI ci 18 a1) 19 l1) 20 x0) 21 x1) 22 x2) cf st1 bx)).symm
  have hD := hD.perm (pmod (a := wC G ca (updI (updI (updI (updI (updI ci 18 a1) 19 l1) 20 x0) 21 x1) 22 x2) cf st1 bx)).symm
  refine lv_icmp_eq (tgt := 1519) hx hb dL_457 (by decide) (fun _ => kk _ _ ⟨ca, (updI (updI (updI (updI (updI ci 18 a1) 19 l1) 20 x0) 21 x1) 22 x2), cf, st1, bx, hm, ma, (updI (updI (updI (updI (updI (updI mi 29 w0) 30 w1) 31 w2) 32 w3) 49 a1) 50 u1), (updA (updA mf 0 al1) 46 was1), tl, (svU sv (pos (nxA a)) o1), hP, hD, hS, ?_, hl⟩) (fun q => absurd rfl q)
  exact h.act hSt rfl ⟨⟨rfl, rfl, rfl, rfl, rfl, rfl, rfl, rfl, rfl, rfl, rfl, rfl⟩, rfl, rfl, rfl⟩
set_option maxRecDepth 100000 in
set_option maxHeartbeats 4000000 in
theorem case_storm (K : lwK p s m meth c b L xs G) (hi : i + 6 ≤ L) (hI : LI G s b i H locs ls) (kk : ∀ (H : Heap) (locs : List Loc), LI G s b i H locs ls → WL p l e s m below meth c b H locs 1519 ls []) : WL p l e s m below meth c b H locs 538 ls [] := by
  obtain ⟨⟨hx, hb, hr, hml, hown, hts, hX, hbl, hlocks, hgv⟩, hL, hN, hT, hK⟩ := K
  have ht0 : ∀ w ∈ gtbl, w.before #[Value.ref b] s = true := fun w hw => hts w (gtbl_sub hw)
  have hA : ∀ q : Nat, s.heap.size ≤ q → lwA s q := fun _ h => h
  obtain ⟨ca, ci, cf, st, bx, hm, ma, mi, mf, tl, sv, hP, hD, hS, ⟨n, k, bk, a, u, Lt, uu, pos, h⟩, hl⟩ := hI
  have hs : st a = some (tl (pos a)).1 := h.hs
  have hn : st (nxA a) = some (tl (pos (nxA a))).1 := h.hn
  have hz : st 0 = some (tl (pos 0)).1 := h.ps 0 (by decide)
  have hk1 : pos a < 15 := by have := h.pl; omega
  have hk2 : pos (nxA a) < 15 := by have := h.pn; omega
  have hk0 : pos 0 < 15 := by have := h.gl.2.1 0 (by decide); omega
  obtain ⟨e1, e2, hSR⟩ := h.cur
  obtain ⟨F, hF⟩ : ∃ F : Nat, 3000000 < F := ⟨3000001, by decide⟩
  obtain ⟨r, a1, l1, u1, st1, o1, al1, was1, x0, x1, x2, w0, w1, w2, w3, q1, q2, hSt⟩ := A_storm (F := F) (la := nI (a + u)) (un := nI u) (o := sv (pos (nxA a))) (was := mf 46) (by omega) h.ha hs hn h.hb hSR (ci 20) (ci 21) (ci 22) (mi 29) (mi 30) (mi 31) (mi 32) (xs (i + 1)) (xs (i + 2)) (xs (i + 3))
  try simp only [← h.at_, ← h.last, ← e1, ← e2] at q1
  try simp only [← h.bank, ← h.acts, ← h.und] at q2
  refine lv_aload_n hx hb dL_538 rfl (lv_at hl 1 rfl) ?_
  refine arg_push (j := 1) hx hb hX hbl hS (lv_at hl 0 rfl) (lv_at hl 3 rfl) hL hi (by decide) rfl dL_539 dL_540 dL_541 dL_542 dL_543 ?_
  refine arg_push (j := 2) hx hb hX hbl hS (lv_at hl 0 rfl) (lv_at hl 3 rfl) hL hi (by decide) rfl dL_544 dL_545 dL_546 dL_547 dL_548 ?_
  refine arg_push (j := 3) hx hb hX hbl hS (lv_at hl 0 rfl) (lv_at hl 3 rfl) hL hi (by decide) rfl dL_549 dL_550 dL_551 dL_552 dL_553 ?_
  have hne : pos a ≠ pos (nxA a) := h.pne
  have hpm := pool2 (G := G) (tl := tl) (sv := sv) hk1 hk2 hne (wC G ca ci cf st bx) (wM G hm ma mi mf)
  have hP := hP.perm hpm
  have hD := hD.perm hpm
  refine cl_FS (w2 := wC G ca (updI (updI (updI (updI (updI ci 18 a1) 19 l1) 20 x0) 21 x1) 22 x2) cf st1 bx ++ clu G (tl (pos a)) (sv (pos a)) ++ clu G (tl (pos (nxA a))) o1) (As := [.int (xs (i + 1)), .int (xs (i + 2)), .int (xs (i + 3))]) (rest := []) ⟨hx, hb, hml, hown, ht0⟩ (c_X10_storm l (gWith G (allS tl)) (ca 0) (ca 15) (ca 16) (ca 19) ((tl (pos a)).2.1) ((tl (pos a)).2.2.1.1) ((tl (pos a)).2.2.1.2.1) ((tl (pos a)).2.2.1.2.2) ((tl (pos a)).2.2.2.1) ((tl (pos a)).2.2.2.2.1) ((tl (pos a)).2.2.2.2.2.1) ((tl (pos a)).2.2.2.2.2.2.1) ((tl (pos a)).2.2.2.2.2.2.2.1) ((tl (pos a)).2.2.2.2.2.2.2.2) ((tl (pos (nxA a))).2.1) ((tl (pos (nxA a))).2.2.1.1) ((tl (pos (nxA a))).2.2.1.2.1) ((tl (pos (nxA a))).2.2.1.2.2) ((tl (pos (nxA a))).2.2.2.1) ((tl (pos (nxA a))).2.2.2.2.1) ((tl (pos (nxA a))).2.2.2.2.2.1) ((tl (pos (nxA a))).2.2.2.2.2.2.1) ((tl (pos (nxA a))).2.2.2.2.2.2.2.1) ((tl (pos (nxA a))).2.2.2.2.2.2.2.2) (ca 2) (ca 1) (ca 4) (ca 17) (ca 18) (ca 20) (ca 28) (ca 35) (ca 39) ((tl (pos a)).1) ((tl (pos (nxA a))).1) _ (ci 0) (ci 1) (ci 18) (ci 19) st (ci 20) (ci 21) (ci 22) ((sv (pos a)).1) ((sv (pos a)).2.1) ((sv (pos a)).2.2.1) ((sv (pos a)).2.2.2.1) ((sv (pos a)).2.2.2.2.1) ((sv (pos a)).2.2.2.2.2.1) ((sv (pos a)).2.2.2.2.2.2.1) ((sv (pos a)).2.2.2.2.2.2.2.1) ((sv (pos a)).2.2.2.2.2.2.2.2.1) ((sv (pos a)).2.2.2.2.2.2.2.2.2.1) ((sv (pos a)).2.2.2.2.2.2.2.2.2.2) ((sv (pos (nxA a))).1) ((sv (pos (nxA a))).2.1) ((sv (pos (nxA a))).2.2.1) ((sv (pos (nxA a))).2.2.2.1) ((sv (pos (nxA a))).2.2.2.2.1) ((sv (pos (nxA a))).2.2.2.2.2.1) ((sv (pos (nxA a))).2.2.2.2.2.2.1) ((sv (pos (nxA a))).2.2.2.2.2.2.2.1) ((sv (pos (nxA a))).2.2.2.2.2.2.2.2.1) ((sv (pos (nxA a))).2.2.2.2.2.2.2.2.2.1) ((sv (pos (nxA a))).2.2.2.2.2.2.2.2.2.2) F (xs (i + 1)) (xs (i + 2)) (xs (i + 3)) (tri_in hk1) (tri_in hk2) (st_all h.gl.2.1 h.ps) _ _ _ _ _ _ _ _ _ _ _ _ _ _ _ _ _ _ q1) yk_X10_storm wd_910 ⟨rfl, rfl, Nat.le_of_ble_eq_true rfl, Nat.le_of_ble_eq_true rfl⟩ ⟨Nat.le_of_ble_eq_true rfl, Nat.le_of_ble_eq_true rfl⟩ hN hT hK hP hD hS hA [true, false, false, false, false, false, false, false, false, false, false, false, false, false, false, true, true, false, false, true, false, false, false, false, false, false, false, false, false, false, false, false, false, false, false, false, false, false, false, false, false, false, false, false, false, false, true, true, true, true, true, true, true, true, true, true, false, true, true, true, true, true, true, true, true, true, true] (va_recv hK hP (ci := 10) (q0 := 0) rfl rfl) hpm rfl rfl (Nat.le_of_ble_eq_true rfl) rfl rfl rfl rfl hl.1 rfl (Nat.le_of_ble_eq_true rfl) dL_554 (fun H locs hP hD hS => ?_)
  have hpb := pool2_b (G := G) (tl := tl) (sv := sv) hk1 hk2 hne o1 (wC G ca (updI (updI (updI (updI (updI ci 18 a1) 19 l1) 20 x0) 21 x1) 22 x2) cf st1 bx) (wM G hm ma mi mf)
  have hP := (hP.perm hpb).perm pmod
  have hD := (hD.perm hpb).perm pmod
  refine lv_aload_n hx hb dL_557 rfl (lv_at hl 2 rfl) ?_
  refine arg_push (j := 1) hx hb hX hbl hS (lv_at hl 0 rfl) (lv_at hl 3 rfl) hL hi (by decide) rfl dL_558 dL_559 dL_560 dL_561 dL_562 ?_
  refine arg_push (j := 2) hx hb hX hbl hS (lv_at hl 0 rfl) (lv_at hl 3 rfl) hL hi (by decide) rfl dL_563 dL_564 dL_565 dL_566 dL_567 ?_
  refine arg_push (j := 3) hx hb hX hbl hS (lv_at hl 0 rfl) (lv_at hl 3 rfl) hL hi (by decide) rfl dL_568 dL_569 dL_570 dL_571 dL_572 ?_
  refine cl_F0 (w2 := wM G hm ma (updI (updI (updI (updI (updI (updI mi 29 w0) 30 w1) 31 w2) 32 w3) 49 a1) 50 u1) (updA (updA mf 0 al1) 46 was1)) (As := [.int (xs (i + 1)), .int (xs (i + 2)), .int (xs (i + 3))]) (rest := [.int r]) ⟨hx, hb, hml, hown, ht0⟩ (c_X11_storm l (gWith G []) hm (ma 0) (ma 1) (ma 2) (ma 46) (ma 3) (ma 4) (ma 6) (ma 18) (ma 21) (ma 22) (ma 23) (ma 24) (ma 25) (ma 26) (ma 33) (ma 34) (ma 38) (ma 39) (ma 40) (ma 41) (ma 42) (ma 43) (ma 45) (ma 47) (ma 48) _ (mi 5) (mi 7) (mi 8) (mi 9) (mi 10) (mi 11) (mi 12) (mi 13) (mi 14) (mi 15) (mi 16) (mi 17) (mi 19) (mi 20) (mi 27) (mi 28) (mi 29) (mi 30) (mi 31) (mi 32) (mi 35) (mi 36) (mi 37) (mi 44) (mi 49) (mi 50) (mf 0) (mf 1) (mf 2) (mf 46) F (xs (i + 1)) (xs (i + 2)) (xs (i + 3)) _ _ _ _ _ _ _ _ _ q2) yk_X11_storm wd_1707 ⟨rfl, rfl, Nat.le_of_ble_eq_true rfl, Nat.le_of_ble_eq_true rfl⟩ ⟨Nat.le_of_ble_eq_true rfl, Nat.le_of_ble_eq_true rfl⟩ hN hT hK hP hD hS hA [true, true, true, true, false, false, false, false, false, false, false, false, false, false, false, false, false, false, false, false, false, false, false, true] (va_recv hK hP (ci := 11) (q0 := 0) rfl rfl) rfl (Nat.le_of_ble_eq_true rfl) rfl rfl rfl rfl hl.1 rfl (Nat.le_of_ble_eq_true rfl) dL_573 (fun H locs hP hD hS => ?_)
  have hP := hP.perm (pmod (a := wC G ca (updI (updI (updI (updI (updI ci 18 a1) 19 l1) 20 x0) 21 x1) 22 x2) cf st1 bx)).symm
  have hD := hD.perm (pmod (a := wC G ca (updI (updI (updI (updI (updI ci 18 a1) 19 l1) 20 x0) 21 x1) 22 x2) cf st1 bx)).symm
  refine lv_icmp_eq (tgt := 1519) hx hb dL_576 (by decide) (fun _ => kk _ _ ⟨ca, (updI (updI (updI (updI (updI ci 18 a1) 19 l1) 20 x0) 21 x1) 22 x2), cf, st1, bx, hm, ma, (updI (updI (updI (updI (updI (updI mi 29 w0) 30 w1) 31 w2) 32 w3) 49 a1) 50 u1), (updA (updA mf 0 al1) 46 was1), tl, (svU sv (pos (nxA a)) o1), hP, hD, hS, ?_, hl⟩) (fun q => absurd rfl q)
  exact h.act hSt rfl ⟨⟨rfl, rfl, rfl, rfl, rfl, rfl, rfl, rfl, rfl, rfl, rfl, rfl⟩, rfl, rfl, rfl⟩
set_option maxRecDepth 100000 in
set_option maxHeartbeats 4000000 in
theorem case_way (K : lwK p s m meth c b L xs G) (hi : i + 6 ≤ L) (hI : LI G s b i H locs ls) (kk : ∀ (H : Heap) (locs : List Loc), LI G s b i H locs ls → WL p l e s m below meth c b H locs 1519 ls []) : WL p l e s m below meth c b H locs 713 ls [] := by
  obtain ⟨⟨hx, hb, hr, hml, hown, hts, hX, hbl, hlocks, hgv⟩, hL, hN, hT, hK⟩ := K
  have ht0 : ∀ w ∈ gtbl, w.before #[Value.ref b] s = true := fun w hw => hts w (gtbl_sub hw)
  have hA : ∀ q : Nat, s.heap.size ≤ q → lwA s q := fun _ h => h
  obtain ⟨ca, ci, cf, st, bx, hm, ma, mi, mf, tl, sv, hP, hD, hS, ⟨n, k, bk, a, u, Lt, uu, pos, h⟩, hl⟩ := hI
  have hs : st a = some (tl (pos a)).1 := h.hs
  have hn : st (nxA a) = some (tl (pos (nxA a))).1 := h.hn
  have hz : st 0 = some (tl (pos 0)).1 := h.ps 0 (by decide)
  have hk1 : pos a < 15 := by have := h.pl; omega
  have hk2 : pos (nxA a) < 15 := by have := h.pn; omega
  have hk0 : pos 0 < 15 := by have := h.gl.2.1 0 (by decide); omega
  obtain ⟨e1, e2, hSR⟩ := h.cur
  obtain ⟨F, hF⟩ : ∃ F : Nat, 3000000 < F := ⟨3000001, by decide⟩
  obtain ⟨r, a1, l1, u1, st1, o1, al1, was1, c1', A2', A3', A4', A5', A6', d0', d1', d2', D1', D2', D3', m27', m28', B1', B2', B3', B4', B5', B6', q1, q2, hSt⟩ := A_way (F := F) (la := nI (a + u)) (un := nI u) (o := sv (pos (nxA a))) (was := mf 46) (by omega) h.ha hs hn h.hb hSR hF (ci 14) (cf 5) (cf 6) (cf 7) (cf 8) (cf 9) (ci 35) (ci 36) (ci 37) (cf 36) (cf 37) (cf 38) (mi 27) (mi 28) (mf 21) (mf 22) (mf 23) (mf 24) (mf 25) (mf 26) (xs (i + 1))
  try simp only [← h.at_, ← h.last, ← e1, ← e2] at q1
  try simp only [← h.bank, ← h.acts, ← h.und] at q2
  refine lv_aload_n hx hb dL_713 rfl (lv_at hl 1 rfl) ?_
  refine arg_push (j := 1) hx hb hX hbl hS (lv_at hl 0 rfl) (lv_at hl 3 rfl) hL hi (by decide) rfl dL_714 dL_715 dL_716 dL_717 dL_718 ?_
  have hne : pos a ≠ pos (nxA a) := h.pne
  have hpm := pool2 (G := G) (tl := tl) (sv := sv) hk1 hk2 hne (wC G ca ci cf st bx) (wM G hm ma mi mf)
  have hP := hP.perm hpm
  have hD := hD.perm hpm
  refine cl_FS (w2 := wC G ca (updI (updI (updI (updI (updI (updI ci 14 c1') 18 a1) 19 l1) 35 d0') 36 d1') 37 d2') (updA (updA (updA (updA (updA (updA (updA (updA cf 5 A2') 6 A3') 7 A4') 8 A5') 9 A6') 36 D1') 37 D2') 38 D3') st1 bx ++ clu G (tl (pos a)) (sv (pos a)) ++ clu G (tl (pos (nxA a))) o1) (As := [.int (xs (i + 1))]) (rest := []) ⟨hx, hb, hml, hown, ht0⟩ (c_X10_way l (gWith G (allS tl)) (ca 0) (ca 4) (ca 5) (ca 6) (ca 7) (ca 8) (ca 9) (ca 15) (ca 16) (ca 35) (ca 36) (ca 37) (ca 38) ((tl (pos a)).2.1) ((tl (pos a)).2.2.1.1) ((tl (pos a)).2.2.1.2.1) ((tl (pos a)).2.2.1.2.2) ((tl (pos a)).2.2.2.1) ((tl (pos a)).2.2.2.2.1) ((tl (pos a)).2.2.2.2.2.1) ((tl (pos a)).2.2.2.2.2.2.1) ((tl (pos a)).2.2.2.2.2.2.2.1) ((tl (pos a)).2.2.2.2.2.2.2.2) ((tl (pos (nxA a))).2.1) ((tl (pos (nxA a))).2.2.1.1) ((tl (pos (nxA a))).2.2.1.2.1) ((tl (pos (nxA a))).2.2.1.2.2) ((tl (pos (nxA a))).2.2.2.1) ((tl (pos (nxA a))).2.2.2.2.1) ((tl (pos (nxA a))).2.2.2.2.2.1) ((tl (pos (nxA a))).2.2.2.2.2.2.1) ((tl (pos (nxA a))).2.2.2.2.2.2.2.1) ((tl (pos (nxA a))).2.2.2.2.2.2.2.2) (ca 2) (ca 1) (ca 17) (ca 18) (ca 19) (ca 20) (ca 28) (ca 39) ((tl (pos a)).1) ((tl (pos (nxA a))).1) _ (ci 0) (ci 1) (ci 14) (cf 5) (cf 6) (cf 7) (cf 8) (cf 9) (ci 18) (ci 19) st (ci 35) (ci 36) (ci 37) (cf 36) (cf 37) (cf 38) ((sv (pos a)).1) ((sv (pos a)).2.1) ((sv (pos a)).2.2.1) ((sv (pos a)).2.2.2.1) ((sv (pos a)).2.2.2.2.1) ((sv (pos a)).2.2.2.2.2.1) ((sv (pos a)).2.2.2.2.2.2.1) ((sv (pos a)).2.2.2.2.2.2.2.1) ((sv (pos a)).2.2.2.2.2.2.2.2.1) ((sv (pos a)).2.2.2.2.2.2.2.2.2.1) ((sv (pos a)).2.2.2.2.2.2.2.2.2.2) ((sv (pos (nxA a))).1) ((sv (pos (nxA a))).2.1) ((sv (pos (nxA a))).2.2.1) ((sv (pos (nxA a))).2.2.2.1) ((sv (pos (nxA a))).2.2.2.2.1) ((sv (pos (nxA a))).2.2.2.2.2.1) ((sv (pos (nxA a))).2.2.2.2.2.2.1) ((sv (pos (nxA a))).2.2.2.2.2.2.2.1) ((sv (pos (nxA a))).2.2.2.2.2.2.2.2.1) ((sv (pos (nxA a))).2.2.2.2.2.2.2.2.2.1) ((sv (pos (nxA a))).2.2.2.2.2.2.2.2.2.2) F (xs (i + 1)) (tri_in hk1) (tri_in hk2) (st_all h.gl.2.1 h.ps) _ _ _ _ _ _ _ _ _ _ _ _ _ _ _ _ _ _ _ _ _ _ _ _ _ _ _ q1) yk_X10_way wd_971 ⟨rfl, rfl, Nat.le_of_ble_eq_true rfl, Nat.le_of_ble_eq_true rfl⟩ ⟨Nat.le_of_ble_eq_true rfl, Nat.le_of_ble_eq_true rfl⟩ hN hT hK hP hD hS hA [true, false, false, false, true, true, true, true, true, true, false, false, false, false, false, true, true, false, false, false, false, false, false, false, false, false, false, false, false, false, false, false, false, false, false, true, true, true, true, false, false, false, false, false, false, false, true, true, true, true, true, true, true, true, true, true, false, true, true, true, true, true, true, true, true, true, true] (va_recv hK hP (ci := 10) (q0 := 0) rfl rfl) hpm rfl rfl (Nat.le_of_ble_eq_true rfl) rfl rfl rfl rfl hl.1 rfl (Nat.le_of_ble_eq_true rfl) dL_719 (fun H locs hP hD hS => ?_)
  have hpb := pool2_b (G := G) (tl := tl) (sv := sv) hk1 hk2 hne o1 (wC G ca (updI (updI (updI (updI (updI (updI ci 14 c1') 18 a1) 19 l1) 35 d0') 36 d1') 37 d2') (updA (updA (updA (updA (updA (updA (updA (updA cf 5 A2') 6 A3') 7 A4') 8 A5') 9 A6') 36 D1') 37 D2') 38 D3') st1 bx) (wM G hm ma mi mf)
  have hP := (hP.perm hpb).perm pmod
  have hD := (hD.perm hpb).perm pmod
  refine lv_aload_n hx hb dL_722 rfl (lv_at hl 2 rfl) ?_
  refine arg_push (j := 1) hx hb hX hbl hS (lv_at hl 0 rfl) (lv_at hl 3 rfl) hL hi (by decide) rfl dL_723 dL_724 dL_725 dL_726 dL_727 ?_
  refine cl_F0 (w2 := wM G hm ma (updI (updI (updI (updI mi 27 m27') 28 m28') 49 a1) 50 u1) (updA (updA (updA (updA (updA (updA (updA (updA mf 0 al1) 21 B1') 22 B2') 23 B3') 24 B4') 25 B5') 26 B6') 46 was1)) (As := [.int (xs (i + 1))]) (rest := [.int r]) ⟨hx, hb, hml, hown, ht0⟩ (c_X11_way l (gWith G []) hm (ma 0) (ma 1) (ma 2) (ma 21) (ma 22) (ma 23) (ma 24) (ma 25) (ma 26) (ma 46) (ma 3) (ma 4) (ma 6) (ma 18) (ma 33) (ma 34) (ma 38) (ma 39) (ma 40) (ma 41) (ma 42) (ma 43) (ma 45) (ma 47) (ma 48) _ (mi 5) (mi 7) (mi 8) (mi 9) (mi 10) (mi 11) (mi 12) (mi 13) (mi 14) (mi 15) (mi 16) (mi 17) (mi 19) (mi 20) (mi 27) (mi 28) (mi 29) (mi 30) (mi 31) (mi 32) (mi 35) (mi 36) (mi 37) (mi 44) (mi 49) (mi 50) (mf 0) (mf 1) (mf 2) (mf 21) (mf 22) (mf 23) (mf 24) (mf 25) (mf 26) (mf 46) F (xs (i + 1)) _ _ _ _ _ _ _ _ _ _ _ _ _ q2) yk_X11_way wd_1758 ⟨rfl, rfl, Nat.le_of_ble_eq_true rfl, Nat.le_of_ble_eq_true rfl⟩ ⟨Nat.le_of_ble_eq_true rfl, Nat.le_of_ble_eq_true rfl⟩ hN hT hK hP hD hS hA [true, true, true, true, false, false, false, false, true, true, true, true, true, true, false, false, false, false, false, false, false, false, false, true] (va_recv hK hP (ci := 11) (q0 := 0) rfl rfl) rfl (Nat.le_of_ble_eq_true rfl) rfl rfl rfl rfl hl.1 rfl (Nat.le_of_ble_eq_true rfl) dL_728 (fun H locs hP hD hS => ?_)
  have hP := hP.perm (pmod (a := wC G ca (updI (updI (updI (updI (updI (updI ci 14 c1') 18 a1) 19 l1) 35 d0') 36 d1') 37 d2') (updA (updA (updA (updA (updA (updA (updA (updA cf 5 A2') 6 A3') 7 A4') 8 A5') 9 A6') 36 D1') 37 D2') 38 D3') st1 bx)).symm
  have hD := hD.perm (pmod (a := wC G ca (updI (updI (updI (updI (updI (updI ci 14 c1') 18 a1) 19 l1) 35 d0') 36 d1') 37 d2') (updA (updA (updA (updA (updA (updA (updA (updA cf 5 A2') 6 A3') 7 A4') 8 A5') 9 A6') 36 D1') 37 D2') 38 D3') st1 bx)).symm
  refine lv_icmp_eq (tgt := 1519) hx hb dL_731 (by decide) (fun _ => kk _ _ ⟨ca, (updI (updI (updI (updI (updI (updI ci 14 c1') 18 a1) 19 l1) 35 d0') 36 d1') 37 d2'), (updA (updA (updA (updA (updA (updA (updA (updA cf 5 A2') 6 A3') 7 A4') 8 A5') 9 A6') 36 D1') 37 D2') 38 D3'), st1, bx, hm, ma, (updI (updI (updI (updI mi 27 m27') 28 m28') 49 a1) 50 u1), (updA (updA (updA (updA (updA (updA (updA (updA mf 0 al1) 21 B1') 22 B2') 23 B3') 24 B4') 25 B5') 26 B6') 46 was1), tl, (svU sv (pos (nxA a)) o1), hP, hD, hS, ?_, hl⟩) (fun q => absurd rfl q)
  exact h.act hSt rfl ⟨⟨rfl, rfl, rfl, rfl, rfl, rfl, rfl, rfl, rfl, rfl, rfl, rfl⟩, rfl, rfl, rfl⟩
set_option maxRecDepth 100000 in
set_option maxHeartbeats 4000000 in
theorem case_better (K : lwK p s m meth c b L xs G) (hi : i + 6 ≤ L) (hI : LI G s b i H locs ls) (kk : ∀ (H : Heap) (locs : List Loc), LI G s b i H locs ls → WL p l e s m below meth c b H locs 1519 ls []) : WL p l e s m below meth c b H locs 775 ls [] := by
  obtain ⟨⟨hx, hb, hr, hml, hown, hts, hX, hbl, hlocks, hgv⟩, hL, hN, hT, hK⟩ := K
  have ht0 : ∀ w ∈ gtbl, w.before #[Value.ref b] s = true := fun w hw => hts w (gtbl_sub hw)
  have hA : ∀ q : Nat, s.heap.size ≤ q → lwA s q := fun _ h => h
  obtain ⟨ca, ci, cf, st, bx, hm, ma, mi, mf, tl, sv, hP, hD, hS, ⟨n, k, bk, a, u, Lt, uu, pos, h⟩, hl⟩ := hI
  have hs : st a = some (tl (pos a)).1 := h.hs
  have hn : st (nxA a) = some (tl (pos (nxA a))).1 := h.hn
  have hz : st 0 = some (tl (pos 0)).1 := h.ps 0 (by decide)
  have hk1 : pos a < 15 := by have := h.pl; omega
  have hk2 : pos (nxA a) < 15 := by have := h.pn; omega
  have hk0 : pos 0 < 15 := by have := h.gl.2.1 0 (by decide); omega
  obtain ⟨e1, e2, hSR⟩ := h.cur
  obtain ⟨F, hF⟩ : ∃ F : Nat, 3000000 < F := ⟨3000001, by decide⟩
  obtain ⟨r, a1, l1, u1, st1, o1, al1, was1, x0, x1, x2, B1, B2, om', cp', cc', cl', ord', T', q1, q2, hSt⟩ := A_better (F := F) (la := nI (a + u)) (un := nI u) (o := sv (pos (nxA a))) (was := mf 46) (by omega) h.ha hs hn h.hb hSR (ci 23) (ci 24) (ci 25) (cf 21) (cf 22) (mi 27) (mi 35) (mi 36) (mi 37) (mf 21) (mf 34)
  try simp only [← h.at_, ← h.last, ← e1, ← e2] at q1
  try simp only [← h.bank, ← h.acts, ← h.und] at q2
  refine lv_aload_n hx hb dL_775 rfl (lv_at hl 1 rfl) ?_
  have hne : pos a ≠ pos (nxA a) := h.pne
  have hpm := pool2 (G := G) (tl := tl) (sv := sv) hk1 hk2 hne (wC G ca ci cf st bx) (wM G hm ma mi mf)
  have hP := hP.perm hpm
  have hD := hD.perm hpm
  refine cl_FS (w2 := wC G ca (updI (updI (updI (updI (updI ci 18 a1) 19 l1) 23 x0) 24 x1) 25 x2) (updA (updA cf 21 B1) 22 B2) st1 bx ++ clu G (tl (pos a)) (sv (pos a)) ++ clu G (tl (pos (nxA a))) o1) (As := []) (rest := []) ⟨hx, hb, hml, hown, ht0⟩ (c_X10_better l (gWith G (allS tl)) (ca 0) (ca 15) (ca 16) (ca 20) (ca 21) (ca 22) ((tl (pos a)).2.1) ((tl (pos a)).2.2.1.1) ((tl (pos a)).2.2.1.2.1) ((tl (pos a)).2.2.1.2.2) ((tl (pos a)).2.2.2.1) ((tl (pos a)).2.2.2.2.1) ((tl (pos a)).2.2.2.2.2.1) ((tl (pos a)).2.2.2.2.2.2.1) ((tl (pos a)).2.2.2.2.2.2.2.1) ((tl (pos a)).2.2.2.2.2.2.2.2) ((tl (pos (nxA a))).2.1) ((tl (pos (nxA a))).2.2.1.1) ((tl (pos (nxA a))).2.2.1.2.1) ((tl (pos (nxA a))).2.2.1.2.2) ((tl (pos (nxA a))).2.2.2.1) ((tl (pos (nxA a))).2.2.2.2.1) ((tl (pos (nxA a))).2.2.2.2.2.1) ((tl (pos (nxA a))).2.2.2.2.2.2.1) ((tl (pos (nxA a))).2.2.2.2.2.2.2.1) ((tl (pos (nxA a))).2.2.2.2.2.2.2.2) (ca 2) (ca 1) (ca 4) (ca 17) (ca 18) (ca 19) (ca 28) (ca 35) (ca 39) (ca 23) (ca 27) ((tl (pos a)).1) ((tl (pos (nxA a))).1) _ (ci 0) (ci 1) (ci 18) (ci 19) st (ci 23) (ci 24) (ci 25) (cf 21) (cf 22) ((sv (pos a)).1) ((sv (pos a)).2.1) ((sv (pos a)).2.2.1) ((sv (pos a)).2.2.2.1) ((sv (pos a)).2.2.2.2.1) ((sv (pos a)).2.2.2.2.2.1) ((sv (pos a)).2.2.2.2.2.2.1) ((sv (pos a)).2.2.2.2.2.2.2.1) ((sv (pos a)).2.2.2.2.2.2.2.2.1) ((sv (pos a)).2.2.2.2.2.2.2.2.2.1) ((sv (pos a)).2.2.2.2.2.2.2.2.2.2) ((sv (pos (nxA a))).1) ((sv (pos (nxA a))).2.1) ((sv (pos (nxA a))).2.2.1) ((sv (pos (nxA a))).2.2.2.1) ((sv (pos (nxA a))).2.2.2.2.1) ((sv (pos (nxA a))).2.2.2.2.2.1) ((sv (pos (nxA a))).2.2.2.2.2.2.1) ((sv (pos (nxA a))).2.2.2.2.2.2.2.1) ((sv (pos (nxA a))).2.2.2.2.2.2.2.2.1) ((sv (pos (nxA a))).2.2.2.2.2.2.2.2.2.1) ((sv (pos (nxA a))).2.2.2.2.2.2.2.2.2.2) F (tri_in hk1) (tri_in hk2) (st_all h.gl.2.1 h.ps) _ _ _ _ _ _ _ _ _ _ _ _ _ _ _ _ _ _ _ _ q1) yk_X10_better wd_983 ⟨rfl, rfl, Nat.le_of_ble_eq_true rfl, Nat.le_of_ble_eq_true rfl⟩ ⟨Nat.le_of_ble_eq_true rfl, Nat.le_of_ble_eq_true rfl⟩ hN hT hK hP hD hS hA [true, false, false, false, false, false, false, false, false, false, false, false, false, false, false, true, true, false, false, false, true, true, true, false, false, false, false, false, false, false, false, false, false, false, false, false, false, false, false, false, false, false, false, false, false, false, true, true, true, true, true, true, true, true, true, true, false, true, true, true, true, true, true, true, true, true, true] (va_recv hK hP (ci := 10) (q0 := 0) rfl rfl) hpm rfl rfl (Nat.le_of_ble_eq_true rfl) rfl rfl rfl rfl hl.1 rfl (Nat.le_of_ble_eq_true rfl) dL_776 (fun H locs hP hD hS => ?_)
  have hpb := pool2_b (G := G) (tl := tl) (sv := sv) hk1 hk2 hne o1 (wC G ca (updI (updI (updI (updI (updI ci 18 a1) 19 l1) 23 x0) 24 x1) 25 x2) (updA (updA cf 21 B1) 22 B2) st1 bx) (wM G hm ma mi mf)
  have hP := (hP.perm hpb).perm pmod
  have hD := (hD.perm hpb).perm pmod
  refine lv_aload_n hx hb dL_779 rfl (lv_at hl 2 rfl) ?_
  refine cl_F0 (w2 := wM G hm ma (updI (updI (updI (updI (updI (updI mi 27 om') 35 cp') 36 cc') 37 cl') 49 a1) 50 u1) (updA (updA (updA (updA mf 0 al1) 21 ord') 34 T') 46 was1)) (As := []) (rest := [.int r]) ⟨hx, hb, hml, hown, ht0⟩ (c_X11_better l (gWith G []) hm (ma 0) (ma 1) (ma 2) (ma 21) (ma 34) (ma 46) (ma 3) (ma 4) (ma 6) (ma 18) (ma 22) (ma 23) (ma 24) (ma 25) (ma 26) (ma 33) (ma 38) (ma 39) (ma 40) (ma 41) (ma 42) (ma 43) (ma 45) (ma 47) (ma 48) _ (mi 5) (mi 7) (mi 8) (mi 9) (mi 10) (mi 11) (mi 12) (mi 13) (mi 14) (mi 15) (mi 16) (mi 17) (mi 19) (mi 20) (mi 27) (mi 28) (mi 29) (mi 30) (mi 31) (mi 32) (mi 35) (mi 36) (mi 37) (mi 44) (mi 49) (mi 50) (mf 0) (mf 1) (mf 2) (mf 21) (mf 34) (mf 46) F _ _ _ _ _ _ _ _ _ _ _ q2) yk_X11_better wd_1766 ⟨rfl, rfl, Nat.le_of_ble_eq_true rfl, Nat.le_of_ble_eq_true rfl⟩ ⟨Nat.le_of_ble_eq_true rfl, Nat.le_of_ble_eq_true rfl⟩ hN hT hK hP hD hS hA [true, true, true, true, false, false, false, false, true, false, false, false, false, false, false, true, false, false, false, false, false, false, false, true] (va_recv hK hP (ci := 11) (q0 := 0) rfl rfl) rfl (Nat.le_of_ble_eq_true rfl) rfl rfl rfl rfl hl.1 rfl (Nat.le_of_ble_eq_true rfl) dL_780 (fun H locs hP hD hS => ?_)
  have hP := hP.perm (pmod (a := wC G ca (updI (updI (updI (updI (updI ci 18 a1) 19 l1) 23 x0) 24 x1) 25 x2) (updA (updA cf 21 B1) 22 B2) st1 bx)).symm
  have hD := hD.perm (pmod (a := wC G ca (updI (updI (updI (updI (updI ci 18 a1) 19 l1) 23 x0) 24 x1) 25 x2) (updA (updA cf 21 B1) 22 B2) st1 bx)).symm
  refine lv_icmp_eq (tgt := 1519) hx hb dL_783 (by decide) (fun _ => kk _ _ ⟨ca, (updI (updI (updI (updI (updI ci 18 a1) 19 l1) 23 x0) 24 x1) 25 x2), (updA (updA cf 21 B1) 22 B2), st1, bx, hm, ma, (updI (updI (updI (updI (updI (updI mi 27 om') 35 cp') 36 cc') 37 cl') 49 a1) 50 u1), (updA (updA (updA (updA mf 0 al1) 21 ord') 34 T') 46 was1), tl, (svU sv (pos (nxA a)) o1), hP, hD, hS, ?_, hl⟩) (fun q => absurd rfl q)
  exact h.act hSt rfl ⟨⟨rfl, rfl, rfl, rfl, rfl, rfl, rfl, rfl, rfl, rfl, rfl, rfl⟩, rfl, rfl, rfl⟩
end Cases82
