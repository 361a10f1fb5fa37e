/-! the law's cases -/
section Cases80
variable {p : Program} {l : Launch} {e : Env} {s : State} {m : MethodId} {below : List Frame} {meth : Method} {c : Code} {H : Heap} {locs : List Loc} {ls : Array Slot} {G : GG} {b L i : Nat} {xs : Nat → Int32}
set_option maxRecDepth 100000 in
set_option maxHeartbeats 4000000 in
theorem case_fault (K : lwK p s m meth c b L xs G) (hi : i + 6 ≤ L) (hI : LI G s b i H locs ls) (kk : ∀ (H : Heap) (locs : List Loc), LI G s b i H locs ls → WL p l e s m below meth c b H locs 1519 ls []) : WL p l e s m below meth c b H locs 327 ls [] := by
  obtain ⟨⟨hx, hb, hr, hml, hown, hts, hX, hbl, hlocks, hgv⟩, hL, hN, hT, hK⟩ := K
  have ht0 : ∀ w ∈ gtbl, w.before #[Value.ref b] s = true := fun w hw => hts w (gtbl_sub hw)
  have hA : ∀ q : Nat, s.heap.size ≤ q → lwA s q := fun _ h => h
  obtain ⟨ca, ci, cf, st, bx, hm, ma, mi, mf, tl, sv, hP, hD, hS, ⟨n, k, bk, a, u, Lt, uu, pos, h⟩, hl⟩ := hI
  have hs : st a = some (tl (pos a)).1 := h.hs
  have hn : st (nxA a) = some (tl (pos (nxA a))).1 := h.hn
  have hz : st 0 = some (tl (pos 0)).1 := h.ps 0 (by decide)
  have hk1 : pos a < 15 := by have := h.pl; omega
  have hk2 : pos (nxA a) < 15 := by have := h.pn; omega
  have hk0 : pos 0 < 15 := by have := h.gl.2.1 0 (by decide); omega
  obtain ⟨e1, e2, hSR⟩ := h.cur
  obtain ⟨F, hF⟩ : ∃ F : Nat, 3000000 < F := ⟨3000001, by decide⟩
  obtain ⟨r, q1, q2⟩ := Q_fault F (ci 0) (ci 1) (xs (i + 1))
  rw [h.f0, h.f1] at q2
  refine lv_aload_n hx hb dL_327 rfl (lv_at hl 1 rfl) ?_
  refine arg_push (j := 1) hx hb hX hbl hS (lv_at hl 0 rfl) (lv_at hl 3 rfl) hL hi (by decide) rfl dL_328 dL_329 dL_330 dL_331 dL_332 ?_
  have hpm : (wC G ca ci cf st bx ++ wM G hm ma mi mf ++ poolS G tl sv sk0 15).Perm ((wC G ca ci cf st bx) ++ (wM G hm ma mi mf ++ poolS G tl sv sk0 15)) := by rw [List.append_assoc]
  have hP := hP.perm hpm
  have hD := hD.perm hpm
  refine cl_F0 (w2 := wC G ca ci cf st bx) (As := [.int (xs (i + 1))]) (rest := []) ⟨hx, hb, hml, hown, ht0⟩ (c_X10_fault l (gWith G []) (ca 0) (ca 2) (ca 1) (ca 4) (ca 15) (ca 17) (ca 18) (ca 19) (ca 20) (ca 28) (ca 35) (ca 39) _ (ci 0) (ci 1) F (xs (i + 1)) _ q1) yk_X10_fault wd_783 ⟨rfl, rfl, Nat.le_of_ble_eq_true rfl, Nat.le_of_ble_eq_true rfl⟩ ⟨Nat.le_of_ble_eq_true rfl, Nat.le_of_ble_eq_true rfl⟩ hN hT hK hP hD hS hA [true] (va_recv hK hP (ci := 10) (q0 := 0) rfl rfl) rfl (Nat.le_of_ble_eq_true rfl) rfl rfl rfl rfl hl.1 rfl (Nat.le_of_ble_eq_true rfl) dL_333 (fun H locs hP hD hS => ?_)
  have hpb : ((wC G ca ci cf st bx) ++ (wM G hm ma mi mf ++ poolS G tl sv sk0 15)).Perm (wC G ca ci cf st bx ++ wM G hm ma mi mf ++ poolS G tl sv sk0 15) := by rw [List.append_assoc]
  have hP := (hP.perm hpb).perm pmod
  have hD := (hD.perm hpb).perm pmod
  refine lv_aload_n hx hb dL_336 rfl (lv_at hl 2 rfl) ?_
  refine arg_push (j := 1) hx hb hX hbl hS (lv_at hl 0 rfl) (lv_at hl 3 rfl) hL hi (by decide) rfl dL_337 dL_338 dL_339 dL_340 dL_341 ?_
  refine cl_F0 (w2 := wM G hm ma mi mf) (As := [.int (xs (i + 1))]) (rest := [.int r]) ⟨hx, hb, hml, hown, ht0⟩ (c_X11_fault l (gWith G []) hm (ma 0) (ma 1) (ma 2) (ma 3) (ma 4) (ma 6) (ma 18) (ma 21) (ma 22) (ma 23) (ma 24) (ma 25) (ma 26) (ma 33) (ma 34) (ma 38) (ma 39) (ma 40) (ma 41) (ma 42) (ma 43) (ma 45) (ma 46) (ma 47) (ma 48) _ (mi 5) (mi 7) (mi 8) (mi 9) (mi 10) (mi 11) (mi 12) (mi 13) (mi 14) (mi 15) (mi 16) (mi 17) (mi 19) (mi 20) (mi 27) (mi 28) (mi 29) (mi 30) (mi 31) (mi 32) (mi 35) (mi 36) (mi 37) (mi 44) (mi 49) (mi 50) F (xs (i + 1)) _ q2) yk_X11_fault wd_1580 ⟨rfl, rfl, Nat.le_of_ble_eq_true rfl, Nat.le_of_ble_eq_true rfl⟩ ⟨Nat.le_of_ble_eq_true rfl, Nat.le_of_ble_eq_true rfl⟩ hN hT hK hP hD hS hA [true] (va_recv hK hP (ci := 11) (q0 := 0) rfl rfl) rfl (Nat.le_of_ble_eq_true rfl) rfl rfl rfl rfl hl.1 rfl (Nat.le_of_ble_eq_true rfl) dL_342 (fun H locs hP hD hS => ?_)
  have hP := hP.perm (pmod (a := wC G ca ci cf st bx)).symm
  have hD := hD.perm (pmod (a := wC G ca ci cf st bx)).symm
  refine lv_icmp_eq (tgt := 1519) hx hb dL_345 (by decide) (fun _ => kk _ _ ⟨ca, ci, cf, st, bx, hm, ma, mi, mf, tl, sv, hP, hD, hS, ?_, hl⟩) (fun q => absurd rfl q)
  exact h.same (fun _ _ => rfl) ⟨⟨rfl, rfl, rfl, rfl, rfl, rfl, rfl, rfl, rfl, rfl, rfl, rfl⟩, ⟨rfl, rfl, rfl⟩, rfl, rfl, rfl, rfl, rfl⟩
set_option maxRecDepth 100000 in
set_option maxHeartbeats 4000000 in
theorem case_columnOf (K : lwK p s m meth c b L xs G) (hi : i + 6 ≤ L) (hI : LI G s b i H locs ls) (kk : ∀ (H : Heap) (locs : List Loc), LI G s b i H locs ls → WL p l e s m below meth c b H locs 1519 ls []) : WL p l e s m below meth c b H locs 814 ls [] := by
  obtain ⟨⟨hx, hb, hr, hml, hown, hts, hX, hbl, hlocks, hgv⟩, hL, hN, hT, hK⟩ := K
  have ht0 : ∀ w ∈ gtbl, w.before #[Value.ref b] s = true := fun w hw => hts w (gtbl_sub hw)
  have hA : ∀ q : Nat, s.heap.size ≤ q → lwA s q := fun _ h => h
  obtain ⟨ca, ci, cf, st, bx, hm, ma, mi, mf, tl, sv, hP, hD, hS, ⟨n, k, bk, a, u, Lt, uu, pos, h⟩, hl⟩ := hI
  have hs : st a = some (tl (pos a)).1 := h.hs
  have hn : st (nxA a) = some (tl (pos (nxA a))).1 := h.hn
  have hz : st 0 = some (tl (pos 0)).1 := h.ps 0 (by decide)
  have hk1 : pos a < 15 := by have := h.pl; omega
  have hk2 : pos (nxA a) < 15 := by have := h.pn; omega
  have hk0 : pos 0 < 15 := by have := h.gl.2.1 0 (by decide); omega
  obtain ⟨e1, e2, hSR⟩ := h.cur
  obtain ⟨F, hF⟩ : ∃ F : Nat, 3000000 < F := ⟨3000001, by decide⟩
  obtain ⟨r, q1, q2⟩ := Q_columnOf (F := F) h.ha hs h.hb hSR (xs (i + 1))
  try simp only [← h.at_, ← h.last, ← e1, ← e2] at q1
  try simp only [← h.bank, ← h.acts, ← h.und] at q2
  refine lv_aload_n hx hb dL_814 rfl (lv_at hl 1 rfl) ?_
  refine arg_push (j := 1) hx hb hX hbl hS (lv_at hl 0 rfl) (lv_at hl 3 rfl) hL hi (by decide) rfl dL_815 dL_816 dL_817 dL_818 dL_819 ?_
  have hpm := pool1 (G := G) (tl := tl) (sv := sv) hk1 (wC G ca ci cf st bx) (wM G hm ma mi mf)
  have hP := hP.perm hpm
  have hD := hD.perm hpm
  refine cl_FS (w2 := wC G ca ci cf st bx ++ clu G (tl (pos a)) (sv (pos a))) (As := [.int (xs (i + 1))]) (rest := []) ⟨hx, hb, hml, hown, ht0⟩ (c_X10_columnOf l (gWith G (allS tl)) (ca 0) (ca 15) (ca 16) ((tl (pos a)).2.1) ((tl (pos a)).2.2.1.1) (ca 2) (ca 1) (ca 4) (ca 17) (ca 18) (ca 19) (ca 20) (ca 28) (ca 35) (ca 39) ((tl (pos a)).2.2.1.2.1) ((tl (pos a)).2.2.1.2.2) ((tl (pos a)).1) ((tl (pos a)).2.2.2.1) _ (ci 0) (ci 1) (ci 18) (ci 19) st ((sv (pos a)).1) ((sv (pos a)).2.1) ((sv (pos a)).2.2.1) ((sv (pos a)).2.2.2.1) F (xs (i + 1)) (tri_in hk1) _ q1) yk_X10_columnOf wd_1031 ⟨rfl, rfl, Nat.le_of_ble_eq_true rfl, Nat.le_of_ble_eq_true rfl⟩ ⟨Nat.le_of_ble_eq_true rfl, Nat.le_of_ble_eq_true rfl⟩ hN hT hK hP hD hS hA [true, false, false, false, false, false, false, false, false, false, false, false, false, false, false, true, true, false, false, false, false, false, false, false, false, false, false, false, false, false, false, false, false, false, false, false, false, false, false, false, false, false, false, false, false, false, true, true] (va_recv hK hP (ci := 10) (q0 := 0) rfl rfl) hpm rfl rfl (Nat.le_of_ble_eq_true rfl) rfl rfl rfl rfl hl.1 rfl (Nat.le_of_ble_eq_true rfl) dL_820 (fun H locs hP hD hS => ?_)
  have hpb := (pool1 (G := G) (tl := tl) (sv := sv) hk1 (wC G ca ci cf st bx) (wM G hm ma mi mf)).symm
  have hP := (hP.perm hpb).perm pmod
  have hD := (hD.perm hpb).perm pmod
  refine lv_aload_n hx hb dL_823 rfl (lv_at hl 2 rfl) ?_
  refine arg_push (j := 1) hx hb hX hbl hS (lv_at hl 0 rfl) (lv_at hl 3 rfl) hL hi (by decide) rfl dL_824 dL_825 dL_826 dL_827 dL_828 ?_
  refine cl_F0 (w2 := wM G hm ma mi mf) (As := [.int (xs (i + 1))]) (rest := [.int r]) ⟨hx, hb, hml, hown, ht0⟩ (c_X11_columnOf l (gWith G []) hm (ma 0) (ma 1) (ma 2) (ma 3) (ma 4) (ma 6) (ma 18) (ma 21) (ma 22) (ma 23) (ma 24) (ma 25) (ma 26) (ma 33) (ma 34) (ma 38) (ma 39) (ma 40) (ma 41) (ma 42) (ma 43) (ma 45) (ma 46) (ma 47) (ma 48) _ (mi 5) (mi 7) (mi 8) (mi 9) (mi 10) (mi 11) (mi 12) (mi 13) (mi 14) (mi 15) (mi 16) (mi 17) (mi 19) (mi 20) (mi 27) (mi 28) (mi 29) (mi 30) (mi 31) (mi 32) (mi 35) (mi 36) (mi 37) (mi 44) (mi 49) (mi 50) (mf 0) (mf 1) (mf 2) F (xs (i + 1)) _ q2) yk_X11_columnOf wd_1782 ⟨rfl, rfl, Nat.le_of_ble_eq_true rfl, Nat.le_of_ble_eq_true rfl⟩ ⟨Nat.le_of_ble_eq_true rfl, Nat.le_of_ble_eq_true rfl⟩ hN hT hK hP hD hS hA [true, true, true, true] (va_recv hK hP (ci := 11) (q0 := 0) rfl rfl) rfl (Nat.le_of_ble_eq_true rfl) rfl rfl rfl rfl hl.1 rfl (Nat.le_of_ble_eq_true rfl) dL_829 (fun H locs hP hD hS => ?_)
  have hP := hP.perm (pmod (a := wC G ca ci cf st bx)).symm
  have hD := hD.perm (pmod (a := wC G ca ci cf st bx)).symm
  refine lv_icmp_eq (tgt := 1519) hx hb dL_832 (by decide) (fun _ => kk _ _ ⟨ca, ci, cf, st, bx, hm, ma, mi, mf, tl, sv, hP, hD, hS, ?_, hl⟩) (fun q => absurd rfl q)
  exact h.same (fun _ _ => rfl) ⟨⟨rfl, rfl, rfl, rfl, rfl, rfl, rfl, rfl, rfl, rfl, rfl, rfl⟩, ⟨rfl, rfl, rfl⟩, rfl, rfl, rfl, rfl, rfl⟩
set_option maxRecDepth 100000 in
set_option maxHeartbeats 4000000 in
theorem case_row (K : lwK p s m meth c b L xs G) (hi : i + 6 ≤ L) (hI : LI G s b i H locs ls) (kk : ∀ (H : Heap) (locs : List Loc), LI G s b i H locs ls → WL p l e s m below meth c b H locs 1519 ls []) : WL p l e s m below meth c b H locs 837 ls [] := by
  obtain ⟨⟨hx, hb, hr, hml, hown, hts, hX, hbl, hlocks, hgv⟩, hL, hN, hT, hK⟩ := K
  have ht0 : ∀ w ∈ gtbl, w.before #[Value.ref b] s = true := fun w hw => hts w (gtbl_sub hw)
  have hA : ∀ q : Nat, s.heap.size ≤ q → lwA s q := fun _ h => h
  obtain ⟨ca, ci, cf, st, bx, hm, ma, mi, mf, tl, sv, hP, hD, hS, ⟨n, k, bk, a, u, Lt, uu, pos, h⟩, hl⟩ := hI
  have hs : st a = some (tl (pos a)).1 := h.hs
  have hn : st (nxA a) = some (tl (pos (nxA a))).1 := h.hn
  have hz : st 0 = some (tl (pos 0)).1 := h.ps 0 (by decide)
  have hk1 : pos a < 15 := by have := h.pl; omega
  have hk2 : pos (nxA a) < 15 := by have := h.pn; omega
  have hk0 : pos 0 < 15 := by have := h.gl.2.1 0 (by decide); omega
  obtain ⟨e1, e2, hSR⟩ := h.cur
  obtain ⟨F, hF⟩ : ∃ F : Nat, 3000000 < F := ⟨3000001, by decide⟩
  obtain ⟨r, q1, q2⟩ := Q_row (F := F) (by omega) h.ha hs h.hb hSR (xs (i + 1)) (xs (i + 2))
  try simp only [← h.at_, ← h.last, ← e1, ← e2] at q1
  try simp only [← h.bank, ← h.acts, ← h.und] at q2
  refine lv_aload_n hx hb dL_837 rfl (lv_at hl 1 rfl) ?_
  refine arg_push (j := 1) hx hb hX hbl hS (lv_at hl 0 rfl) (lv_at hl 3 rfl) hL hi (by decide) rfl dL_838 dL_839 dL_840 dL_841 dL_842 ?_
  refine arg_push (j := 2) hx hb hX hbl hS (lv_at hl 0 rfl) (lv_at hl 3 rfl) hL hi (by decide) rfl dL_843 dL_844 dL_845 dL_846 dL_847 ?_
  have hpm := pool1 (G := G) (tl := tl) (sv := sv) hk1 (wC G ca ci cf st bx) (wM G hm ma mi mf)
  have hP := hP.perm hpm
  have hD := hD.perm hpm
  refine cl_FS (w2 := wC G ca ci cf st bx ++ clu G (tl (pos a)) (sv (pos a))) (As := [.int (xs (i + 1)), .int (xs (i + 2))]) (rest := []) ⟨hx, hb, hml, hown, ht0⟩ (c_X10_row l (gWith G (allS tl)) (ca 0) (ca 15) (ca 16) ((tl (pos a)).2.1) ((tl (pos a)).2.2.1.1) (ca 2) (ca 1) (ca 4) (ca 17) (ca 18) (ca 19) (ca 20) (ca 28) (ca 35) (ca 39) ((tl (pos a)).2.2.1.2.1) ((tl (pos a)).2.2.1.2.2) ((tl (pos a)).1) ((tl (pos a)).2.2.2.1) _ (ci 0) (ci 1) (ci 18) (ci 19) st ((sv (pos a)).1) ((sv (pos a)).2.1) ((sv (pos a)).2.2.1) ((sv (pos a)).2.2.2.1) F (xs (i + 1)) (xs (i + 2)) (tri_in hk1) _ q1) yk_X10_row wd_1035 ⟨rfl, rfl, Nat.le_of_ble_eq_true rfl, Nat.le_of_ble_eq_true rfl⟩ ⟨Nat.le_of_ble_eq_true rfl, Nat.le_of_ble_eq_true rfl⟩ hN hT hK hP hD hS hA [true, false, false, false, false, false, false, false, false, false, false, false, false, false, false, true, true, false, false, false, false, false, false, false, false, false, false, false, false, false, false, false, false, false, false, false, false, false, false, false, false, false, false, false, false, false, true, true] (va_recv hK hP (ci := 10) (q0 := 0) rfl rfl) hpm rfl rfl (Nat.le_of_ble_eq_true rfl) rfl rfl rfl rfl hl.1 rfl (Nat.le_of_ble_eq_true rfl) dL_848 (fun H locs hP hD hS => ?_)
  have hpb := (pool1 (G := G) (tl := tl) (sv := sv) hk1 (wC G ca ci cf st bx) (wM G hm ma mi mf)).symm
  have hP := (hP.perm hpb).perm pmod
  have hD := (hD.perm hpb).perm pmod
  refine lv_aload_n hx hb dL_851 rfl (lv_at hl 2 rfl) ?_
  refine arg_push (j := 1) hx hb hX hbl hS (lv_at hl 0 rfl) (lv_at hl 3 rfl) hL hi (by decide) rfl dL_852 dL_853 dL_854 dL_855 dL_856 ?_
  refine arg_push (j := 2) hx hb hX hbl hS (lv_at hl 0 rfl) (lv_at hl 3 rfl) hL hi (by decide) rfl dL_857 dL_858 dL_859 dL_860 dL_861 ?_
  refine cl_F0 (w2 := wM G hm ma mi mf) (As := [.int (xs (i + 1)), .int (xs (i + 2))]) (rest := [.int r]) ⟨hx, hb, hml, hown, ht0⟩ (c_X11_row l (gWith G []) hm (ma 0) (ma 1) (ma 2) (ma 3) (ma 4) (ma 6) (ma 18) (ma 21) (ma 22) (ma 23) (ma 24) (ma 25) (ma 26) (ma 33) (ma 34) (ma 38) (ma 39) (ma 40) (ma 41) (ma 42) (ma 43) (ma 45) (ma 46) (ma 47) (ma 48) _ (mi 5) (mi 7) (mi 8) (mi 9) (mi 10) (mi 11) (mi 12) (mi 13) (mi 14) (mi 15) (mi 16) (mi 17) (mi 19) (mi 20) (mi 27) (mi 28) (mi 29) (mi 30) (mi 31) (mi 32) (mi 35) (mi 36) (mi 37) (mi 44) (mi 49) (mi 50) (mf 0) (mf 1) (mf 2) F (xs (i + 1)) (xs (i + 2)) _ q2) yk_X11_row wd_1786 ⟨rfl, rfl, Nat.le_of_ble_eq_true rfl, Nat.le_of_ble_eq_true rfl⟩ ⟨Nat.le_of_ble_eq_true rfl, Nat.le_of_ble_eq_true rfl⟩ hN hT hK hP hD hS hA [true, true, true, true] (va_recv hK hP (ci := 11) (q0 := 0) rfl rfl) rfl (Nat.le_of_ble_eq_true rfl) rfl rfl rfl rfl hl.1 rfl (Nat.le_of_ble_eq_true rfl) dL_862 (fun H locs hP hD hS => ?_)
  have hP := hP.perm (pmod (a := wC G ca ci cf st bx)).symm
  have hD := hD.perm (pmod (a := wC G ca ci cf st bx)).symm
  refine lv_icmp_eq (tgt := 1519) hx hb dL_865 (by decide) (fun _ => kk _ _ ⟨ca, ci, cf, st, bx, hm, ma, mi, mf, tl, sv, hP, hD, hS, ?_, hl⟩) (fun q => absurd rfl q)
  exact h.same (fun _ _ => rfl) ⟨⟨rfl, rfl, rfl, rfl, rfl, rfl, rfl, rfl, rfl, rfl, rfl, rfl⟩, ⟨rfl, rfl, rfl⟩, rfl, rfl, rfl, rfl, rfl⟩
set_option maxRecDepth 100000 in
set_option maxHeartbeats 4000000 in
theorem case_rows (K : lwK p s m meth c b L xs G) (hi : i + 6 ≤ L) (hI : LI G s b i H locs ls) (kk : ∀ (H : Heap) (locs : List Loc), LI G s b i H locs ls → WL p l e s m below meth c b H locs 1519 ls []) : WL p l e s m below meth c b H locs 870 ls [] := by
  obtain ⟨⟨hx, hb, hr, hml, hown, hts, hX, hbl, hlocks, hgv⟩, hL, hN, hT, hK⟩ := K
  have ht0 : ∀ w ∈ gtbl, w.before #[Value.ref b] s = true := fun w hw => hts w (gtbl_sub hw)
  have hA : ∀ q : Nat, s.heap.size ≤ q → lwA s q := fun _ h => h
  obtain ⟨ca, ci, cf, st, bx, hm, ma, mi, mf, tl, sv, hP, hD, hS, ⟨n, k, bk, a, u, Lt, uu, pos, h⟩, hl⟩ := hI
  have hs : st a = some (tl (pos a)).1 := h.hs
  have hn : st (nxA a) = some (tl (pos (nxA a))).1 := h.hn
  have hz : st 0 = some (tl (pos 0)).1 := h.ps 0 (by decide)
  have hk1 : pos a < 15 := by have := h.pl; omega
  have hk2 : pos (nxA a) < 15 := by have := h.pn; omega
  have hk0 : pos 0 < 15 := by have := h.gl.2.1 0 (by decide); omega
  obtain ⟨e1, e2, hSR⟩ := h.cur
  obtain ⟨F, hF⟩ : ∃ F : Nat, 3000000 < F := ⟨3000001, by decide⟩
  obtain ⟨r, q1, q2⟩ := Q_rows (F := F) (by omega) h.ha hs h.hb hSR (xs (i + 1))
  try simp only [← h.at_, ← h.last, ← e1, ← e2] at q1
  try simp only [← h.bank, ← h.acts, ← h.und] at q2
  refine lv_aload_n hx hb dL_870 rfl (lv_at hl 1 rfl) ?_
  refine arg_push (j := 1) hx hb hX hbl hS (lv_at hl 0 rfl) (lv_at hl 3 rfl) hL hi (by decide) rfl dL_871 dL_872 dL_873 dL_874 dL_875 ?_
  have hpm := pool1 (G := G) (tl := tl) (sv := sv) hk1 (wC G ca ci cf st bx) (wM G hm ma mi mf)
  have hP := hP.perm hpm
  have hD := hD.perm hpm
  refine cl_FS (w2 := wC G ca ci cf st bx ++ clu G (tl (pos a)) (sv (pos a))) (As := [.int (xs (i + 1))]) (rest := []) ⟨hx, hb, hml, hown, ht0⟩ (c_X10_rows l (gWith G (allS tl)) (ca 0) (ca 15) (ca 16) ((tl (pos a)).2.1) ((tl (pos a)).2.2.1.1) (ca 2) (ca 1) (ca 4) (ca 17) (ca 18) (ca 19) (ca 20) (ca 28) (ca 35) (ca 39) ((tl (pos a)).2.2.1.2.1) ((tl (pos a)).2.2.1.2.2) ((tl (pos a)).1) ((tl (pos a)).2.2.2.1) _ (ci 0) (ci 1) (ci 18) (ci 19) st ((sv (pos a)).1) ((sv (pos a)).2.1) ((sv (pos a)).2.2.1) ((sv (pos a)).2.2.2.1) F (xs (i + 1)) (tri_in hk1) _ q1) yk_X10_rows wd_1046 ⟨rfl, rfl, Nat.le_of_ble_eq_true rfl, Nat.le_of_ble_eq_true rfl⟩ ⟨Nat.le_of_ble_eq_true rfl, Nat.le_of_ble_eq_true rfl⟩ hN hT hK hP hD hS hA [true, false, false, false, false, false, false, false, false, false, false, false, false, false, false, true, true, false, false, false, false, false, false, false, false, false, false, false, false, false, false, false, false, false, false, false, false, false, false, false, false, false, false, false, false, false, true, true] (va_recv hK hP (ci := 10) (q0 := 0) rfl rfl) hpm rfl rfl (Nat.le_of_ble_eq_true rfl) rfl rfl rfl rfl hl.1 rfl (Nat.le_of_ble_eq_true rfl) dL_876 (fun H locs hP hD hS => ?_)
  have hpb := (pool1 (G := G) (tl := tl) (sv := sv) hk1 (wC G ca ci cf st bx) (wM G hm ma mi mf)).symm
  have hP := (hP.perm hpb).perm pmod
  have hD := (hD.perm hpb).perm pmod
  refine lv_aload_n hx hb dL_879 rfl (lv_at hl 2 rfl) ?_
  refine arg_push (j := 1) hx hb hX hbl hS (lv_at hl 0 rfl) (lv_at hl 3 rfl) hL hi (by decide) rfl dL_880 dL_881 dL_882 dL_883 dL_884 ?_
  refine cl_F0 (w2 := wM G hm ma mi mf) (As := [.int (xs (i + 1))]) (rest := [.int r]) ⟨hx, hb, hml, hown, ht0⟩ (c_X11_rows l (gWith G []) hm (ma 0) (ma 1) (ma 2) (ma 3) (ma 4) (ma 6) (ma 18) (ma 21) (ma 22) (ma 23) (ma 24) (ma 25) (ma 26) (ma 33) (ma 34) (ma 38) (ma 39) (ma 40) (ma 41) (ma 42) (ma 43) (ma 45) (ma 46) (ma 47) (ma 48) _ (mi 5) (mi 7) (mi 8) (mi 9) (mi 10) (mi 11) (mi 12) (mi 13) (mi 14) (mi 15) (mi 16) (mi 17) (mi 19) (mi 20) (mi 27) (mi 28) (mi 29) (mi 30) (mi 31) (mi 32) (mi 35) (mi 36) (mi 37) (mi 44) (mi 49) (mi 50) (mf 0) (mf 1) (mf 2) F (xs (i + 1)) _ q2) yk_X11_rows wd_1798 ⟨rfl, rfl, Nat.le_of_ble_eq_true rfl, Nat.le_of_ble_eq_true rfl⟩ ⟨Nat.le_of_ble_eq_true rfl, Nat.le_of_ble_eq_true rfl⟩ hN hT hK hP hD hS hA [true, true, true, true] (va_recv hK hP (ci := 11) (q0 := 0) rfl rfl) rfl (Nat.le_of_ble_eq_true rfl) rfl rfl rfl rfl hl.1 rfl (Nat.le_of_ble_eq_true rfl) dL_885 (fun H locs hP hD hS => ?_)
  have hP := hP.perm (pmod (a := wC G ca ci cf st bx)).symm
  have hD := hD.perm (pmod (a := wC G ca ci cf st bx)).symm
  refine lv_icmp_eq (tgt := 1519) hx hb dL_888 (by decide) (fun _ => kk _ _ ⟨ca, ci, cf, st, bx, hm, ma, mi, mf, tl, sv, hP, hD, hS, ?_, hl⟩) (fun q => absurd rfl q)
  exact h.same (fun _ _ => rfl) ⟨⟨rfl, rfl, rfl, rfl, rfl, rfl, rfl, rfl, rfl, rfl, rfl, rfl⟩, ⟨rfl, rfl, rfl⟩, rfl, rfl, rfl, rfl, rfl⟩
set_option maxRecDepth 100000 in
set_option maxHeartbeats 4000000 in
theorem case_word (K : lwK p s m meth c b L xs G) (hi : i + 6 ≤ L) (hI : LI G s b i H locs ls) (kk : ∀ (H : Heap) (locs : List Loc), LI G s b i H locs ls → WL p l e s m below meth c b H locs 1519 ls []) : WL p l e s m below meth c b H locs 893 ls [] := by
  obtain ⟨⟨hx, hb, hr, hml, hown, hts, hX, hbl, hlocks, hgv⟩, hL, hN, hT, hK⟩ := K
  have ht0 : ∀ w ∈ gtbl, w.before #[Value.ref b] s = true := fun w hw => hts w (gtbl_sub hw)
  have hA : ∀ q : Nat, s.heap.size ≤ q → lwA s q := fun _ h => h
  obtain ⟨ca, ci, cf, st, bx, hm, ma, mi, mf, tl, sv, hP, hD, hS, ⟨n, k, bk, a, u, Lt, uu, pos, h⟩, hl⟩ := hI
  have hs : st a = some (tl (pos a)).1 := h.hs
  have hn : st (nxA a) = some (tl (pos (nxA a))).1 := h.hn
  have hz : st 0 = some (tl (pos 0)).1 := h.ps 0 (by decide)
  have hk1 : pos a < 15 := by have := h.pl; omega
  have hk2 : pos (nxA a) < 15 := by have := h.pn; omega
  have hk0 : pos 0 < 15 := by have := h.gl.2.1 0 (by decide); omega
  obtain ⟨e1, e2, hSR⟩ := h.cur
  obtain ⟨F, hF⟩ : ∃ F : Nat, 3000000 < F := ⟨3000001, by decide⟩
  obtain ⟨r, q1, q2⟩ := Q_word (F := F) (by omega) h.ha hs h.hb hSR (xs (i + 1)) (xs (i + 2))
  try simp only [← h.at_, ← h.last, ← e1, ← e2] at q1
  try simp only [← h.bank, ← h.acts, ← h.und] at q2
  refine lv_aload_n hx hb dL_893 rfl (lv_at hl 1 rfl) ?_
  refine arg_push (j := 1) hx hb hX hbl hS (lv_at hl 0 rfl) (lv_at hl 3 rfl) hL hi (by decide) rfl dL_894 dL_895 dL_896 dL_897 dL_898 ?_
  refine arg_push (j := 2) hx hb hX hbl hS (lv_at hl 0 rfl) (lv_at hl 3 rfl) hL hi (by decide) rfl dL_899 dL_900 dL_901 dL_902 dL_903 ?_
  have hpm := pool1 (G := G) (tl := tl) (sv := sv) hk1 (wC G ca ci cf st bx) (wM G hm ma mi mf)
  have hP := hP.perm hpm
  have hD := hD.perm hpm
  refine cl_FS (w2 := wC G ca ci cf st bx ++ clu G (tl (pos a)) (sv (pos a))) (As := [.int (xs (i + 1)), .int (xs (i + 2))]) (rest := []) ⟨hx, hb, hml, hown, ht0⟩ (c_X10_word l (gWith G (allS tl)) (ca 0) (ca 15) (ca 16) ((tl (pos a)).2.1) ((tl (pos a)).2.2.2.1) ((tl (pos a)).2.2.2.2.1) ((tl (pos a)).2.2.2.2.2.1) ((tl (pos a)).2.2.2.2.2.2.2.1) (ca 2) (ca 1) (ca 4) (ca 17) (ca 18) (ca 19) (ca 20) (ca 28) (ca 35) (ca 39) ((tl (pos a)).2.2.1.1) ((tl (pos a)).2.2.1.2.1) ((tl (pos a)).2.2.1.2.2) ((tl (pos a)).2.2.2.2.2.2.1) ((tl (pos a)).2.2.2.2.2.2.2.2) ((tl (pos a)).1) _ (ci 0) (ci 1) (ci 18) (ci 19) st ((sv (pos a)).1) ((sv (pos a)).2.1) ((sv (pos a)).2.2.1) ((sv (pos a)).2.2.2.2.2.2.1) ((sv (pos a)).2.2.2.2.2.2.2.1) ((sv (pos a)).2.2.2.2.2.2.2.2.2.1) F (xs (i + 1)) (xs (i + 2)) (tri_in hk1) _ q1) yk_X10_word wd_1052 ⟨rfl, rfl, Nat.le_of_ble_eq_true rfl, Nat.le_of_ble_eq_true rfl⟩ ⟨Nat.le_of_ble_eq_true rfl, Nat.le_of_ble_eq_true rfl⟩ hN hT hK hP hD hS hA [true, false, false, false, false, false, false, false, false, false, false, false, false, false, false, true, true, false, false, false, false, false, false, false, false, false, false, false, false, false, false, false, false, false, false, false, false, false, false, false, false, false, false, false, false, false, true, false, false, false, true, true, true, false, true] (va_recv hK hP (ci := 10) (q0 := 0) rfl rfl) hpm rfl rfl (Nat.le_of_ble_eq_true rfl) rfl rfl rfl rfl hl.1 rfl (Nat.le_of_ble_eq_true rfl) dL_904 (fun H locs hP hD hS => ?_)
  have hpb := (pool1 (G := G) (tl := tl) (sv := sv) hk1 (wC G ca ci cf st bx) (wM G hm ma mi mf)).symm
  have hP := (hP.perm hpb).perm pmod
  have hD := (hD.perm hpb).perm pmod
  refine lv_aload_n hx hb dL_907 rfl (lv_at hl 2 rfl) ?_
  refine arg_push (j := 1) hx hb hX hbl hS (lv_at hl 0 rfl) (lv_at hl 3 rfl) hL hi (by decide) rfl dL_908 dL_909 dL_910 dL_911 dL_912 ?_
  refine arg_push (j := 2) hx hb hX hbl hS (lv_at hl 0 rfl) (lv_at hl 3 rfl) hL hi (by decide) rfl dL_913 dL_914 dL_915 dL_916 dL_917 ?_
  refine cl_F0 (w2 := wM G hm ma mi mf) (As := [.int (xs (i + 1)), .int (xs (i + 2))]) (rest := [.int r]) ⟨hx, hb, hml, hown, ht0⟩ (c_X11_word l (gWith G []) hm (ma 0) (ma 1) (ma 2) (ma 3) (ma 4) (ma 6) (ma 18) (ma 21) (ma 22) (ma 23) (ma 24) (ma 25) (ma 26) (ma 33) (ma 34) (ma 38) (ma 39) (ma 40) (ma 41) (ma 42) (ma 43) (ma 45) (ma 46) (ma 47) (ma 48) _ (mi 5) (mi 7) (mi 8) (mi 9) (mi 10) (mi 11) (mi 12) (mi 13) (mi 14) (mi 15) (mi 16) (mi 17) (mi 19) (mi 20) (mi 27) (mi 28) (mi 29) (mi 30) (mi 31) (mi 32) (mi 35) (mi 36) (mi 37) (mi 44) (mi 49) (mi 50) (mf 0) (mf 1) F (xs (i + 1)) (xs (i + 2)) _ q2) yk_X11_word wd_1805 ⟨rfl, rfl, Nat.le_of_ble_eq_true rfl, Nat.le_of_ble_eq_true rfl⟩ ⟨Nat.le_of_ble_eq_true rfl, Nat.le_of_ble_eq_true rfl⟩ hN hT hK hP hD hS hA [true, true, true] (va_recv hK hP (ci := 11) (q0 := 0) rfl rfl) rfl (Nat.le_of_ble_eq_true rfl) rfl rfl rfl rfl hl.1 rfl (Nat.le_of_ble_eq_true rfl) dL_918 (fun H locs hP hD hS => ?_)
  have hP := hP.perm (pmod (a := wC G ca ci cf st bx)).symm
  have hD := hD.perm (pmod (a := wC G ca ci cf st bx)).symm
  refine lv_icmp_eq (tgt := 1519) hx hb dL_921 (by decide) (fun _ => kk _ _ ⟨ca, ci, cf, st, bx, hm, ma, mi, mf, tl, sv, hP, hD, hS, ?_, hl⟩) (fun q => absurd rfl q)
  exact h.same (fun _ _ => rfl) ⟨⟨rfl, rfl, rfl, rfl, rfl, rfl, rfl, rfl, rfl, rfl, rfl, rfl⟩, ⟨rfl, rfl, rfl⟩, rfl, rfl, rfl, rfl, rfl⟩
set_option maxRecDepth 100000 in
set_option maxHeartbeats 4000000 in
theorem case_find (K : lwK p s m meth c b L xs G) (hi : i + 6 ≤ L) (hI : LI G s b i H locs ls) (kk : ∀ (H : Heap) (locs : List Loc), LI G s b i H locs ls → WL p l e s m below meth c b H locs 1519 ls []) : WL p l e s m below meth c b H locs 1025 ls [] := by
  obtain ⟨⟨hx, hb, hr, hml, hown, hts, hX, hbl, hlocks, hgv⟩, hL, hN, hT, hK⟩ := K
  have ht0 : ∀ w ∈ gtbl, w.before #[Value.ref b] s = true := fun w hw => hts w (gtbl_sub hw)
  have hA : ∀ q : Nat, s.heap.size ≤ q → lwA s q := fun _ h => h
  obtain ⟨ca, ci, cf, st, bx, hm, ma, mi, mf, tl, sv, hP, hD, hS, ⟨n, k, bk, a, u, Lt, uu, pos, h⟩, hl⟩ := hI
  have hs : st a = some (tl (pos a)).1 := h.hs
  have hn : st (nxA a) = some (tl (pos (nxA a))).1 := h.hn
  have hz : st 0 = some (tl (pos 0)).1 := h.ps 0 (by decide)
  have hk1 : pos a < 15 := by have := h.pl; omega
  have hk2 : pos (nxA a) < 15 := by have := h.pn; omega
  have hk0 : pos 0 < 15 := by have := h.gl.2.1 0 (by decide); omega
  obtain ⟨e1, e2, hSR⟩ := h.cur
  obtain ⟨F, hF⟩ : ∃ F : Nat, 3000000 < F := ⟨3000001, by decide⟩
  obtain ⟨r, q1, q2⟩ := Q_find (F := F) (by omega) h.ha hs h.hb hSR (xs (i + 1)) (xs (i + 2))
  try simp only [← h.at_, ← h.last, ← e1, ← e2] at q1
  try simp only [← h.bank, ← h.acts, ← h.und] at q2
  refine lv_aload_n hx hb dL_1025 rfl (lv_at hl 1 rfl) ?_
  refine arg_push (j := 1) hx hb hX hbl hS (lv_at hl 0 rfl) (lv_at hl 3 rfl) hL hi (by decide) rfl dL_1026 dL_1027 dL_1028 dL_1029 dL_1030 ?_
  refine arg_push (j := 2) hx hb hX hbl hS (lv_at hl 0 rfl) (lv_at hl 3 rfl) hL hi (by decide) rfl dL_1031 dL_1032 dL_1033 dL_1034 dL_1035 ?_
  have hpm := pool1 (G := G) (tl := tl) (sv := sv) hk1 (wC G ca ci cf st bx) (wM G hm ma mi mf)
  have hP := hP.perm hpm
  have hD := hD.perm hpm
  refine cl_FS (w2 := wC G ca ci cf st bx ++ clu G (tl (pos a)) (sv (pos a))) (As := [.int (xs (i + 1)), .int (xs (i + 2))]) (rest := []) ⟨hx, hb, hml, hown, ht0⟩ (c_X10_find l (gWith G (allS tl)) (ca 0) (ca 15) (ca 16) ((tl (pos a)).2.1) ((tl (pos a)).2.2.1.2.1) ((tl (pos a)).2.2.1.2.2) (ca 2) (ca 1) (ca 4) (ca 17) (ca 18) (ca 19) (ca 20) (ca 28) (ca 35) (ca 39) ((tl (pos a)).2.2.1.1) ((tl (pos a)).1) ((tl (pos a)).2.2.2.1) _ (ci 0) (ci 1) (ci 18) (ci 19) st ((sv (pos a)).1) ((sv (pos a)).2.1) ((sv (pos a)).2.2.1) ((sv (pos a)).2.2.2.2.1) ((sv (pos a)).2.2.2.2.2.1) F (xs (i + 1)) (xs (i + 2)) (tri_in hk1) _ q1) yk_X10_find wd_1074 ⟨rfl, rfl, Nat.le_of_ble_eq_true rfl, Nat.le_of_ble_eq_true rfl⟩ ⟨Nat.le_of_ble_eq_true rfl, Nat.le_of_ble_eq_true rfl⟩ hN hT hK hP hD hS hA [true, false, false, false, false, false, false, false, false, false, false, false, false, false, false, true, true, false, false, false, false, false, false, false, false, false, false, false, false, false, false, false, false, false, false, false, false, false, false, false, false, false, false, false, false, false, true, false, true, true] (va_recv hK hP (ci := 10) (q0 := 0) rfl rfl) hpm rfl rfl (Nat.le_of_ble_eq_true rfl) rfl rfl rfl rfl hl.1 rfl (Nat.le_of_ble_eq_true rfl) dL_1036 (fun H locs hP hD hS => ?_)
  have hpb := (pool1 (G := G) (tl := tl) (sv := sv) hk1 (wC G ca ci cf st bx) (wM G hm ma mi mf)).symm
  have hP := (hP.perm hpb).perm pmod
  have hD := (hD.perm hpb).perm pmod
  refine lv_aload_n hx hb dL_1039 rfl (lv_at hl 2 rfl) ?_
  refine arg_push (j := 1) hx hb hX hbl hS (lv_at hl 0 rfl) (lv_at hl 3 rfl) hL hi (by decide) rfl dL_1040 dL_1041 dL_1042 dL_1043 dL_1044 ?_
  refine arg_push (j := 2) hx hb hX hbl hS (lv_at hl 0 rfl) (lv_at hl 3 rfl) hL hi (by decide) rfl dL_1045 dL_1046 dL_1047 dL_1048 dL_1049 ?_
  refine cl_F0 (w2 := wM G hm ma mi mf) (As := [.int (xs (i + 1)), .int (xs (i + 2))]) (rest := [.int r]) ⟨hx, hb, hml, hown, ht0⟩ (c_X11_find l (gWith G []) hm (ma 0) (ma 1) (ma 2) (ma 3) (ma 4) (ma 6) (ma 18) (ma 21) (ma 22) (ma 23) (ma 24) (ma 25) (ma 26) (ma 33) (ma 34) (ma 38) (ma 39) (ma 40) (ma 41) (ma 42) (ma 43) (ma 45) (ma 46) (ma 47) (ma 48) _ (mi 5) (mi 7) (mi 8) (mi 9) (mi 10) (mi 11) (mi 12) (mi 13) (mi 14) (mi 15) (mi 16) (mi 17) (mi 19) (mi 20) (mi 27) (mi 28) (mi 29) (mi 30) (mi 31) (mi 32) (mi 35) (mi 36) (mi 37) (mi 44) (mi 49) (mi 50) (mf 0) (mf 1) (mf 2) F (xs (i + 1)) (xs (i + 2)) _ q2) yk_X11_find wd_1829 ⟨rfl, rfl, Nat.le_of_ble_eq_true rfl, Nat.le_of_ble_eq_true rfl⟩ ⟨Nat.le_of_ble_eq_true rfl, Nat.le_of_ble_eq_true rfl⟩ hN hT hK hP hD hS hA [true, true, true, true] (va_recv hK hP (ci := 11) (q0 := 0) rfl rfl) rfl (Nat.le_of_ble_eq_true rfl) rfl rfl rfl rfl hl.1 rfl (Nat.le_of_ble_eq_true rfl) dL_1050 (fun H locs hP hD hS => ?_)
  have hP := hP.perm (pmod (a := wC G ca ci cf st bx)).symm
  have hD := hD.perm (pmod (a := wC G ca ci cf st bx)).symm
  refine lv_icmp_eq (tgt := 1519) hx hb dL_1053 (by decide) (fun _ => kk _ _ ⟨ca, ci, cf, st, bx, hm, ma, mi, mf, tl, sv, hP, hD, hS, ?_, hl⟩) (fun q => absurd rfl q)
  exact h.same (fun _ _ => rfl) ⟨⟨rfl, rfl, rfl, rfl, rfl, rfl, rfl, rfl, rfl, rfl, rfl, rfl⟩, ⟨rfl, rfl, rfl⟩, rfl, rfl, rfl, rfl, rfl⟩
set_option maxRecDepth 100000 in
set_option maxHeartbeats 4000000 in
theorem case_columns (K : lwK p s m meth c b L xs G) (hi : i + 6 ≤ L) (hI : LI G s b i H locs ls) (kk : ∀ (H : Heap) (locs : List Loc), LI G s b i H locs ls → WL p l e s m below meth c b H locs 1519 ls []) : WL p l e s m below meth c b H locs 1275 ls [] := by
  obtain ⟨⟨hx, hb, hr, hml, hown, hts, hX, hbl, hlocks, hgv⟩, hL, hN, hT, hK⟩ := K
  have ht0 : ∀ w ∈ gtbl, w.before #[Value.ref b] s = true := fun w hw => hts w (gtbl_sub hw)
  have hA : ∀ q : Nat, s.heap.size ≤ q → lwA s q := fun _ h => h
  obtain ⟨ca, ci, cf, st, bx, hm, ma, mi, mf, tl, sv, hP, hD, hS, ⟨n, k, bk, a, u, Lt, uu, pos, h⟩, hl⟩ := hI
  have hs : st a = some (tl (pos a)).1 := h.hs
  have hn : st (nxA a) = some (tl (pos (nxA a))).1 := h.hn
  have hz : st 0 = some (tl (pos 0)).1 := h.ps 0 (by decide)
  have hk1 : pos a < 15 := by have := h.pl; omega
  have hk2 : pos (nxA a) < 15 := by have := h.pn; omega
  have hk0 : pos 0 < 15 := by have := h.gl.2.1 0 (by decide); omega
  obtain ⟨e1, e2, hSR⟩ := h.cur
  obtain ⟨F, hF⟩ : ∃ F : Nat, 3000000 < F := ⟨3000001, by decide⟩
  obtain ⟨r, q1, q2⟩ := Q_columns (F := F) (by omega) h.ha hs h.hb hSR (xs (i + 1)) (xs (i + 2))
  try simp only [← h.at_, ← h.last, ← e1, ← e2] at q1
  try simp only [← h.bank, ← h.acts, ← h.und] at q2
  refine lv_aload_n hx hb dL_1275 rfl (lv_at hl 1 rfl) ?_
  refine arg_push (j := 1) hx hb hX hbl hS (lv_at hl 0 rfl) (lv_at hl 3 rfl) hL hi (by decide) rfl dL_1276 dL_1277 dL_1278 dL_1279 dL_1280 ?_
  refine arg_push (j := 2) hx hb hX hbl hS (lv_at hl 0 rfl) (lv_at hl 3 rfl) hL hi (by decide) rfl dL_1281 dL_1282 dL_1283 dL_1284 dL_1285 ?_
  have hpm := pool1 (G := G) (tl := tl) (sv := sv) hk1 (wC G ca ci cf st bx) (wM G hm ma mi mf)
  have hP := hP.perm hpm
  have hD := hD.perm hpm
  refine cl_FS (w2 := wC G ca ci cf st bx ++ clu G (tl (pos a)) (sv (pos a))) (As := [.int (xs (i + 1)), .int (xs (i + 2))]) (rest := []) ⟨hx, hb, hml, hown, ht0⟩ (c_X10_columns l (gWith G (allS tl)) (ca 0) (ca 15) (ca 16) ((tl (pos a)).2.1) ((tl (pos a)).2.2.1.2.1) (ca 2) (ca 1) (ca 4) (ca 17) (ca 18) (ca 19) (ca 20) (ca 28) (ca 35) (ca 39) ((tl (pos a)).2.2.1.1) ((tl (pos a)).2.2.1.2.2) ((tl (pos a)).1) ((tl (pos a)).2.2.2.1) _ (ci 0) (ci 1) (ci 18) (ci 19) st ((sv (pos a)).1) ((sv (pos a)).2.1) ((sv (pos a)).2.2.1) ((sv (pos a)).2.2.2.2.1) F (xs (i + 1)) (xs (i + 2)) (tri_in hk1) _ q1) yk_X10_columns wd_1208 ⟨rfl, rfl, Nat.le_of_ble_eq_true rfl, Nat.le_of_ble_eq_true rfl⟩ ⟨Nat.le_of_ble_eq_true rfl, Nat.le_of_ble_eq_true rfl⟩ hN hT hK hP hD hS hA [true, false, false, false, false, false, false, false, false, false, false, false, false, false, false, true, true, false, false, false, false, false, false, false, false, false, false, false, false, false, false, false, false, false, false, false, false, false, false, false, false, false, false, false, false, false, true, false, true] (va_recv hK hP (ci := 10) (q0 := 0) rfl rfl) hpm rfl rfl (Nat.le_of_ble_eq_true rfl) rfl rfl rfl rfl hl.1 rfl (Nat.le_of_ble_eq_true rfl) dL_1286 (fun H locs hP hD hS => ?_)
  have hpb := (pool1 (G := G) (tl := tl) (sv := sv) hk1 (wC G ca ci cf st bx) (wM G hm ma mi mf)).symm
  have hP := (hP.perm hpb).perm pmod
  have hD := (hD.perm hpb).perm pmod
  refine lv_aload_n hx hb dL_1289 rfl (lv_at hl 2 rfl) ?_
  refine arg_push (j := 1) hx hb hX hbl hS (lv_at hl 0 rfl) (lv_at hl 3 rfl) hL hi (by decide) rfl dL_1290 dL_1291 dL_1292 dL_1293 dL_1294 ?_
  refine arg_push (j := 2) hx hb hX hbl hS (lv_at hl 0 rfl) (lv_at hl 3 rfl) hL hi (by decide) rfl dL_1295 dL_1296 dL_1297 dL_1298 dL_1299 ?_
  refine cl_F0 (w2 := wM G hm ma mi mf) (As := [.int (xs (i + 1)), .int (xs (i + 2))]) (rest := [.int r]) ⟨hx, hb, hml, hown, ht0⟩ (c_X11_columns l (gWith G []) hm (ma 0) (ma 1) (ma 2) (ma 3) (ma 4) (ma 6) (ma 18) (ma 21) (ma 22) (ma 23) (ma 24) (ma 25) (ma 26) (ma 33) (ma 34) (ma 38) (ma 39) (ma 40) (ma 41) (ma 42) (ma 43) (ma 45) (ma 46) (ma 47) (ma 48) _ (mi 5) (mi 7) (mi 8) (mi 9) (mi 10) (mi 11) (mi 12) (mi 13) (mi 14) (mi 15) (mi 16) (mi 17) (mi 19) (mi 20) (mi 27) (mi 28) (mi 29) (mi 30) (mi 31) (mi 32) (mi 35) (mi 36) (mi 37) (mi 44) (mi 49) (mi 50) (mf 0) (mf 1) (mf 2) F (xs (i + 1)) (xs (i + 2)) _ q2) yk_X11_columns wd_1920 ⟨rfl, rfl, Nat.le_of_ble_eq_true rfl, Nat.le_of_ble_eq_true rfl⟩ ⟨Nat.le_of_ble_eq_true rfl, Nat.le_of_ble_eq_true rfl⟩ hN hT hK hP hD hS hA [true, true, true, true] (va_recv hK hP (ci := 11) (q0 := 0) rfl rfl) rfl (Nat.le_of_ble_eq_true rfl) rfl rfl rfl rfl hl.1 rfl (Nat.le_of_ble_eq_true rfl) dL_1300 (fun H locs hP hD hS => ?_)
  have hP := hP.perm (pmod (a := wC G ca ci cf st bx)).symm
  have hD := hD.perm (pmod (a := wC G ca ci cf st bx)).symm
  refine lv_icmp_eq (tgt := 1519) hx hb dL_1303 (by decide) (fun _ => kk _ _ ⟨ca, ci, cf, st, bx, hm, ma, mi, mf, tl, sv, hP, hD, hS, ?_, hl⟩) (fun q => absurd rfl q)
  exact h.same (fun _ _ => rfl) ⟨⟨rfl, rfl, rfl, rfl, rfl, rfl, rfl, rfl, rfl, rfl, rfl, rfl⟩, ⟨rfl, rfl, rfl⟩, rfl, rfl, rfl, rfl, rfl⟩
set_option maxRecDepth 100000 in
set_option maxHeartbeats 4000000 in
theorem case_stuck (K : lwK p s m meth c b L xs G) (hi : i + 6 ≤ L) (hI : LI G s b i H locs ls) (kk : ∀ (H : Heap) (locs : List Loc), LI G s b i H locs ls → WL p l e s m below meth c b H locs 1519 ls []) : WL p l e s m below meth c b H locs 959 ls [] := by
  obtain ⟨⟨hx, hb, hr, hml, hown, hts, hX, hbl, hlocks, hgv⟩, hL, hN, hT, hK⟩ := K
  have ht0 : ∀ w ∈ gtbl, w.before #[Value.ref b] s = true := fun w hw => hts w (gtbl_sub hw)
  have hA : ∀ q : Nat, s.heap.size ≤ q → lwA s q := fun _ h => h
  obtain ⟨ca, ci, cf, st, bx, hm, ma, mi, mf, tl, sv, hP, hD, hS, ⟨n, k, bk, a, u, Lt, uu, pos, h⟩, hl⟩ := hI
  have hs : st a = some (tl (pos a)).1 := h.hs
  have hn : st (nxA a) = some (tl (pos (nxA a))).1 := h.hn
  have hz : st 0 = some (tl (pos 0)).1 := h.ps 0 (by decide)
  have hk1 : pos a < 15 := by have := h.pl; omega
  have hk2 : pos (nxA a) < 15 := by have := h.pn; omega
  have hk0 : pos 0 < 15 := by have := h.gl.2.1 0 (by decide); omega
  obtain ⟨e1, e2, hSR⟩ := h.cur
  obtain ⟨F, hF⟩ : ∃ F : Nat, 3000000 < F := ⟨3000001, by decide⟩
  obtain ⟨r, q1, q2⟩ := Q_stuck (F := F) (by omega) h.ha hs hSR (xs (i + 1)) (xs (i + 2))
  try simp only [← h.at_, ← h.last, ← e1, ← e2] at q1
  try simp only [← h.bank, ← h.acts, ← h.und] at q2
  refine lv_aload_n hx hb dL_959 rfl (lv_at hl 1 rfl) ?_
  refine arg_push (j := 1) hx hb hX hbl hS (lv_at hl 0 rfl) (lv_at hl 3 rfl) hL hi (by decide) rfl dL_960 dL_961 dL_962 dL_963 dL_964 ?_
  refine arg_push (j := 2) hx hb hX hbl hS (lv_at hl 0 rfl) (lv_at hl 3 rfl) hL hi (by decide) rfl dL_965 dL_966 dL_967 dL_968 dL_969 ?_
  have hpm := pool1 (G := G) (tl := tl) (sv := sv) hk1 (wC G ca ci cf st bx) (wM G hm ma mi mf)
  have hP := hP.perm hpm
  have hD := hD.perm hpm
  refine cl_FS (w2 := wC G ca ci cf st bx ++ clu G (tl (pos a)) (sv (pos a))) (As := [.int (xs (i + 1)), .int (xs (i + 2))]) (rest := []) ⟨hx, hb, hml, hown, ht0⟩ (c_X10_stuck l (gWith G (allS tl)) (ca 0) (ca 15) (ca 16) ((tl (pos a)).2.2.2.1) ((tl (pos a)).2.2.2.2.2.2.1) (ca 2) (ca 1) (ca 4) (ca 17) (ca 18) (ca 19) (ca 20) (ca 28) (ca 35) (ca 39) ((tl (pos a)).2.2.2.2.1) ((tl (pos a)).2.2.2.2.2.1) ((tl (pos a)).2.2.2.2.2.2.2.1) ((tl (pos a)).2.2.2.2.2.2.2.2) ((tl (pos a)).1) ((tl (pos a)).2.1) _ (ci 0) (ci 1) (ci 18) (ci 19) st ((sv (pos a)).2.2.2.2.2.2.2.2.1) F (xs (i + 1)) (xs (i + 2)) (tri_in hk1) _ q1) yk_X10_stuck wd_1061 ⟨rfl, rfl, Nat.le_of_ble_eq_true rfl, Nat.le_of_ble_eq_true rfl⟩ ⟨Nat.le_of_ble_eq_true rfl, Nat.le_of_ble_eq_true rfl⟩ hN hT hK hP hD hS hA [true, false, false, false, false, false, false, false, false, false, false, false, false, false, false, true, true, false, false, false, false, false, false, false, false, false, false, false, false, false, false, false, false, false, false, false, false, false, false, false, false, false, false, false, false, false, false, false, false, false, true, false, false, true] (va_recv hK hP (ci := 10) (q0 := 0) rfl rfl) hpm rfl rfl (Nat.le_of_ble_eq_true rfl) rfl rfl rfl rfl hl.1 rfl (Nat.le_of_ble_eq_true rfl) dL_970 (fun H locs hP hD hS => ?_)
  have hpb := (pool1 (G := G) (tl := tl) (sv := sv) hk1 (wC G ca ci cf st bx) (wM G hm ma mi mf)).symm
  have hP := (hP.perm hpb).perm pmod
  have hD := (hD.perm hpb).perm pmod
  refine lv_aload_n hx hb dL_973 rfl (lv_at hl 2 rfl) ?_
  refine arg_push (j := 1) hx hb hX hbl hS (lv_at hl 0 rfl) (lv_at hl 3 rfl) hL hi (by decide) rfl dL_974 dL_975 dL_976 dL_977 dL_978 ?_
  refine arg_push (j := 2) hx hb hX hbl hS (lv_at hl 0 rfl) (lv_at hl 3 rfl) hL hi (by decide) rfl dL_979 dL_980 dL_981 dL_982 dL_983 ?_
  refine cl_F0 (w2 := wM G hm ma mi mf) (As := [.int (xs (i + 1)), .int (xs (i + 2))]) (rest := [.int r]) ⟨hx, hb, hml, hown, ht0⟩ (c_X11_stuck l (gWith G []) hm (ma 0) (ma 1) (ma 2) (ma 3) (ma 4) (ma 6) (ma 18) (ma 21) (ma 22) (ma 23) (ma 24) (ma 25) (ma 26) (ma 33) (ma 34) (ma 38) (ma 39) (ma 40) (ma 41) (ma 42) (ma 43) (ma 45) (ma 46) (ma 47) (ma 48) _ (mi 5) (mi 7) (mi 8) (mi 9) (mi 10) (mi 11) (mi 12) (mi 13) (mi 14) (mi 15) (mi 16) (mi 17) (mi 19) (mi 20) (mi 27) (mi 28) (mi 29) (mi 30) (mi 31) (mi 32) (mi 35) (mi 36) (mi 37) (mi 44) (mi 49) (mi 50) (mf 0) F (xs (i + 1)) (xs (i + 2)) _ q2) yk_X11_stuck wd_1813 ⟨rfl, rfl, Nat.le_of_ble_eq_true rfl, Nat.le_of_ble_eq_true rfl⟩ ⟨Nat.le_of_ble_eq_true rfl, Nat.le_of_ble_eq_true rfl⟩ hN hT hK hP hD hS hA [true, true] (va_recv hK hP (ci := 11) (q0 := 0) rfl rfl) rfl (Nat.le_of_ble_eq_true rfl) rfl rfl rfl rfl hl.1 rfl (Nat.le_of_ble_eq_true rfl) dL_984 (fun H locs hP hD hS => ?_)
  have hP := hP.perm (pmod (a := wC G ca ci cf st bx)).symm
  have hD := hD.perm (pmod (a := wC G ca ci cf st bx)).symm
  refine lv_icmp_eq (tgt := 1519) hx hb dL_987 (by decide) (fun _ => kk _ _ ⟨ca, ci, cf, st, bx, hm, ma, mi, mf, tl, sv, hP, hD, hS, ?_, hl⟩) (fun q => absurd rfl q)
  exact h.same (fun _ _ => rfl) ⟨⟨rfl, rfl, rfl, rfl, rfl, rfl, rfl, rfl, rfl, rfl, rfl, rfl⟩, ⟨rfl, rfl, rfl⟩, rfl, rfl, rfl, rfl, rfl⟩
set_option maxRecDepth 100000 in
set_option maxHeartbeats 4000000 in
theorem case_tally (K : lwK p s m meth c b L xs G) (hi : i + 6 ≤ L) (hI : LI G s b i H locs ls) (kk : ∀ (H : Heap) (locs : List Loc), LI G s b i H locs ls → WL p l e s m below meth c b H locs 1519 ls []) : WL p l e s m below meth c b H locs 1427 ls [] := by
  obtain ⟨⟨hx, hb, hr, hml, hown, hts, hX, hbl, hlocks, hgv⟩, hL, hN, hT, hK⟩ := K
  have ht0 : ∀ w ∈ gtbl, w.before #[Value.ref b] s = true := fun w hw => hts w (gtbl_sub hw)
  have hA : ∀ q : Nat, s.heap.size ≤ q → lwA s q := fun _ h => h
  obtain ⟨ca, ci, cf, st, bx, hm, ma, mi, mf, tl, sv, hP, hD, hS, ⟨n, k, bk, a, u, Lt, uu, pos, h⟩, hl⟩ := hI
  have hs : st a = some (tl (pos a)).1 := h.hs
  have hn : st (nxA a) = some (tl (pos (nxA a))).1 := h.hn
  have hz : st 0 = some (tl (pos 0)).1 := h.ps 0 (by decide)
  have hk1 : pos a < 15 := by have := h.pl; omega
  have hk2 : pos (nxA a) < 15 := by have := h.pn; omega
  have hk0 : pos 0 < 15 := by have := h.gl.2.1 0 (by decide); omega
  obtain ⟨e1, e2, hSR⟩ := h.cur
  obtain ⟨F, hF⟩ : ∃ F : Nat, 3000000 < F := ⟨3000001, by decide⟩
  obtain ⟨r, q1, q2⟩ := Q_tally (F := F) h.ha hs hSR (xs (i + 1))
  try simp only [← h.at_, ← h.last, ← e1, ← e2] at q1
  try simp only [← h.bank, ← h.acts, ← h.und] at q2
  refine lv_aload_n hx hb dL_1427 rfl (lv_at hl 1 rfl) ?_
  refine arg_push (j := 1) hx hb hX hbl hS (lv_at hl 0 rfl) (lv_at hl 3 rfl) hL hi (by decide) rfl dL_1428 dL_1429 dL_1430 dL_1431 dL_1432 ?_
  have hpm := pool1 (G := G) (tl := tl) (sv := sv) hk1 (wC G ca ci cf st bx) (wM G hm ma mi mf)
  have hP := hP.perm hpm
  have hD := hD.perm hpm
  refine cl_FS (w2 := wC G ca ci cf st bx ++ clu G (tl (pos a)) (sv (pos a))) (As := [.int (xs (i + 1))]) (rest := []) ⟨hx, hb, hml, hown, ht0⟩ (c_X10_tally l (gWith G (allS tl)) (ca 0) (ca 15) (ca 16) ((tl (pos a)).2.2.2.1) ((tl (pos a)).2.2.2.2.2.2.2.2) (ca 2) (ca 1) (ca 4) (ca 17) (ca 18) (ca 19) (ca 20) (ca 28) (ca 35) (ca 39) ((tl (pos a)).2.2.2.2.1) ((tl (pos a)).2.2.2.2.2.1) ((tl (pos a)).2.2.2.2.2.2.1) ((tl (pos a)).2.2.2.2.2.2.2.1) ((tl (pos a)).1) ((tl (pos a)).2.1) _ (ci 0) (ci 1) (ci 18) (ci 19) st ((sv (pos a)).2.2.2.2.2.2.2.2.2.2) F (xs (i + 1)) (tri_in hk1) _ q1) yk_X10_tally wd_1234 ⟨rfl, rfl, Nat.le_of_ble_eq_true rfl, Nat.le_of_ble_eq_true rfl⟩ ⟨Nat.le_of_ble_eq_true rfl, Nat.le_of_ble_eq_true rfl⟩ hN hT hK hP hD hS hA [true, false, false, false, false, false, false, false, false, false, false, false, false, false, false, true, true, false, false, false, false, false, false, false, false, false, false, false, false, false, false, false, false, false, false, false, false, false, false, false, false, false, false, false, false, false, false, false, false, false, true, false, false, false, false, true] (va_recv hK hP (ci := 10) (q0 := 0) rfl rfl) hpm rfl rfl (Nat.le_of_ble_eq_true rfl) rfl rfl rfl rfl hl.1 rfl (Nat.le_of_ble_eq_true rfl) dL_1433 (fun H locs hP hD hS => ?_)
  have hpb := (pool1 (G := G) (tl := tl) (sv := sv) hk1 (wC G ca ci cf st bx) (wM G hm ma mi mf)).symm
  have hP := (hP.perm hpb).perm pmod
  have hD := (hD.perm hpb).perm pmod
  refine lv_aload_n hx hb dL_1436 rfl (lv_at hl 2 rfl) ?_
  refine arg_push (j := 1) hx hb hX hbl hS (lv_at hl 0 rfl) (lv_at hl 3 rfl) hL hi (by decide) rfl dL_1437 dL_1438 dL_1439 dL_1440 dL_1441 ?_
  refine cl_F0 (w2 := wM G hm ma mi mf) (As := [.int (xs (i + 1))]) (rest := [.int r]) ⟨hx, hb, hml, hown, ht0⟩ (c_X11_tally l (gWith G []) hm (ma 0) (ma 1) (ma 2) (ma 3) (ma 4) (ma 6) (ma 18) (ma 21) (ma 22) (ma 23) (ma 24) (ma 25) (ma 26) (ma 33) (ma 34) (ma 38) (ma 39) (ma 40) (ma 41) (ma 42) (ma 43) (ma 45) (ma 46) (ma 47) (ma 48) _ (mi 5) (mi 7) (mi 8) (mi 9) (mi 10) (mi 11) (mi 12) (mi 13) (mi 14) (mi 15) (mi 16) (mi 17) (mi 19) (mi 20) (mi 27) (mi 28) (mi 29) (mi 30) (mi 31) (mi 32) (mi 35) (mi 36) (mi 37) (mi 44) (mi 49) (mi 50) (mf 0) F (xs (i + 1)) _ q2) yk_X11_tally wd_1940 ⟨rfl, rfl, Nat.le_of_ble_eq_true rfl, Nat.le_of_ble_eq_true rfl⟩ ⟨Nat.le_of_ble_eq_true rfl, Nat.le_of_ble_eq_true rfl⟩ hN hT hK hP hD hS hA [true, true] (va_recv hK hP (ci := 11) (q0 := 0) rfl rfl) rfl (Nat.le_of_ble_eq_true rfl) rfl rfl rfl rfl hl.1 rfl (Nat.le_of_ble_eq_true rfl) dL_1442 (fun H locs hP hD hS => ?_)
  have hP := hP.perm (pmod (a := wC G ca ci cf st bx)).symm
  have hD := hD.perm (pmod (a := wC G ca ci cf st bx)).symm
  refine lv_icmp_eq (tgt := 1519) hx hb dL_1445 (by decide) (fun _ => kk _ _ ⟨ca, ci, cf, st, bx, hm, ma, mi, mf, tl, sv, hP, hD, hS, ?_, hl⟩) (fun q => absurd rfl q)
  exact h.same (fun _ _ => rfl) ⟨⟨rfl, rfl, rfl, rfl, rfl, rfl, rfl, rfl, rfl, rfl, rfl, rfl⟩, ⟨rfl, rfl, rfl⟩, rfl, rfl, rfl, rfl, rfl⟩
set_option maxRecDepth 100000 in
set_option maxHeartbeats 4000000 in
theorem case_fewest (K : lwK p s m meth c b L xs G) (hi : i + 6 ≤ L) (hI : LI G s b i H locs ls) (kk : ∀ (H : Heap) (locs : List Loc), LI G s b i H locs ls → WL p l e s m below meth c b H locs 1519 ls []) : WL p l e s m below meth c b H locs 1252 ls [] := by
  obtain ⟨⟨hx, hb, hr, hml, hown, hts, hX, hbl, hlocks, hgv⟩, hL, hN, hT, hK⟩ := K
  have ht0 : ∀ w ∈ gtbl, w.before #[Value.ref b] s = true := fun w hw => hts w (gtbl_sub hw)
  have hA : ∀ q : Nat, s.heap.size ≤ q → lwA s q := fun _ h => h
  obtain ⟨ca, ci, cf, st, bx, hm, ma, mi, mf, tl, sv, hP, hD, hS, ⟨n, k, bk, a, u, Lt, uu, pos, h⟩, hl⟩ := hI
  have hs : st a = some (tl (pos a)).1 := h.hs
  have hn : st (nxA a) = some (tl (pos (nxA a))).1 := h.hn
  have hz : st 0 = some (tl (pos 0)).1 := h.ps 0 (by decide)
  have hk1 : pos a < 15 := by have := h.pl; omega
  have hk2 : pos (nxA a) < 15 := by have := h.pn; omega
  have hk0 : pos 0 < 15 := by have := h.gl.2.1 0 (by decide); omega
  obtain ⟨e1, e2, hSR⟩ := h.cur
  obtain ⟨F, hF⟩ : ∃ F : Nat, 3000000 < F := ⟨3000001, by decide⟩
  obtain ⟨r, q1, q2⟩ := Q_fewest (F := F) (by omega) (xs (i + 1))
  refine lv_aload_n hx hb dL_1252 rfl (lv_at hl 1 rfl) ?_
  refine arg_push (j := 1) hx hb hX hbl hS (lv_at hl 0 rfl) (lv_at hl 3 rfl) hL hi (by decide) rfl dL_1253 dL_1254 dL_1255 dL_1256 dL_1257 ?_
  have hpm : (wC G ca ci cf st bx ++ wM G hm ma mi mf ++ poolS G tl sv sk0 15).Perm ((wC G ca ci cf st bx) ++ (wM G hm ma mi mf ++ poolS G tl sv sk0 15)) := by rw [List.append_assoc]
  have hP := hP.perm hpm
  have hD := hD.perm hpm
  refine cl_F0 (w2 := wC G ca ci cf st bx) (As := [.int (xs (i + 1))]) (rest := []) ⟨hx, hb, hml, hown, ht0⟩ (c_X10_fewest l (gWith G []) (ca 0) _ F (xs (i + 1)) _ q1) yk_X10_fewest wd_1201 ⟨rfl, rfl, Nat.le_of_ble_eq_true rfl, Nat.le_of_ble_eq_true rfl⟩ ⟨Nat.le_of_ble_eq_true rfl, Nat.le_of_ble_eq_true rfl⟩ hN hT hK hP hD hS hA [] (va_recv hK hP (ci := 10) (q0 := 0) rfl rfl) rfl (Nat.le_of_ble_eq_true rfl) rfl rfl rfl rfl hl.1 rfl (Nat.le_of_ble_eq_true rfl) dL_1258 (fun H locs hP hD hS => ?_)
  have hpb : ((wC G ca ci cf st bx) ++ (wM G hm ma mi mf ++ poolS G tl sv sk0 15)).Perm (wC G ca ci cf st bx ++ wM G hm ma mi mf ++ poolS G tl sv sk0 15) := by rw [List.append_assoc]
  have hP := (hP.perm hpb).perm pmod
  have hD := (hD.perm hpb).perm pmod
  refine lv_aload_n hx hb dL_1261 rfl (lv_at hl 2 rfl) ?_
  refine arg_push (j := 1) hx hb hX hbl hS (lv_at hl 0 rfl) (lv_at hl 3 rfl) hL hi (by decide) rfl dL_1262 dL_1263 dL_1264 dL_1265 dL_1266 ?_
  refine cl_F0 (w2 := wM G hm ma mi mf) (As := [.int (xs (i + 1))]) (rest := [.int r]) ⟨hx, hb, hml, hown, ht0⟩ (c_X11_fewest l (gWith G []) hm _ F (xs (i + 1)) _ q2) yk_X11_fewest wd_1913 ⟨rfl, rfl, Nat.le_of_ble_eq_true rfl, Nat.le_of_ble_eq_true rfl⟩ ⟨Nat.le_of_ble_eq_true rfl, Nat.le_of_ble_eq_true rfl⟩ hN hT hK hP hD hS hA [] (va_recv hK hP (ci := 11) (q0 := 0) rfl rfl) rfl (Nat.le_of_ble_eq_true rfl) rfl rfl rfl rfl hl.1 rfl (Nat.le_of_ble_eq_true rfl) dL_1267 (fun H locs hP hD hS => ?_)
  have hP := hP.perm (pmod (a := wC G ca ci cf st bx)).symm
  have hD := hD.perm (pmod (a := wC G ca ci cf st bx)).symm
  refine lv_icmp_eq (tgt := 1519) hx hb dL_1270 (by decide) (fun _ => kk _ _ ⟨ca, ci, cf, st, bx, hm, ma, mi, mf, tl, sv, hP, hD, hS, ?_, hl⟩) (fun q => absurd rfl q)
  exact h.same (fun _ _ => rfl) ⟨⟨rfl, rfl, rfl, rfl, rfl, rfl, rfl, rfl, rfl, rfl, rfl, rfl⟩, ⟨rfl, rfl, rfl⟩, rfl, rfl, rfl, rfl, rfl⟩
set_option maxRecDepth 100000 in
set_option maxHeartbeats 4000000 in
theorem case_about (K : lwK p s m meth c b L xs G) (hi : i + 6 ≤ L) (hI : LI G s b i H locs ls) (kk : ∀ (H : Heap) (locs : List Loc), LI G s b i H locs ls → WL p l e s m below meth c b H locs 1519 ls []) : WL p l e s m below meth c b H locs 1496 ls [] := by
  obtain ⟨⟨hx, hb, hr, hml, hown, hts, hX, hbl, hlocks, hgv⟩, hL, hN, hT, hK⟩ := K
  have ht0 : ∀ w ∈ gtbl, w.before #[Value.ref b] s = true := fun w hw => hts w (gtbl_sub hw)
  have hA : ∀ q : Nat, s.heap.size ≤ q → lwA s q := fun _ h => h
  obtain ⟨ca, ci, cf, st, bx, hm, ma, mi, mf, tl, sv, hP, hD, hS, ⟨n, k, bk, a, u, Lt, uu, pos, h⟩, hl⟩ := hI
  have hs : st a = some (tl (pos a)).1 := h.hs
  have hn : st (nxA a) = some (tl (pos (nxA a))).1 := h.hn
  have hz : st 0 = some (tl (pos 0)).1 := h.ps 0 (by decide)
  have hk1 : pos a < 15 := by have := h.pl; omega
  have hk2 : pos (nxA a) < 15 := by have := h.pn; omega
  have hk0 : pos 0 < 15 := by have := h.gl.2.1 0 (by decide); omega
  obtain ⟨e1, e2, hSR⟩ := h.cur
  obtain ⟨F, hF⟩ : ∃ F : Nat, 3000000 < F := ⟨3000001, by decide⟩
  obtain ⟨r, q1, q2⟩ := Q_about (F := F) (by omega) h.ha hs h.hb hSR (l := a + u) (u := u) rfl (nI Lt) (xs (i + 1))
  simp only [← h.at_, ← h.last, ← e1, ← e2, ← h.len] at q1
  simp only [← h.bank, ← h.acts, ← h.und, ← h.tap] at q2
  refine lv_aload_n hx hb dL_1496 rfl (lv_at hl 1 rfl) ?_
  refine arg_push (j := 1) hx hb hX hbl hS (lv_at hl 0 rfl) (lv_at hl 3 rfl) hL hi (by decide) rfl dL_1497 dL_1498 dL_1499 dL_1500 dL_1501 ?_
  have hpm := pool1 (G := G) (tl := tl) (sv := sv) hk1 (wC G ca ci cf st bx) (wM G hm ma mi mf)
  have hP := hP.perm hpm
  have hD := hD.perm hpm
  refine cl_FS (w2 := wC G ca ci cf st bx ++ clu G (tl (pos a)) (sv (pos a))) (As := [.int (xs (i + 1))]) (rest := []) ⟨hx, hb, hml, hown, ht0⟩ (c_X10_about l (gWith G (allS tl)) (ca 0) (ca 2) (ca 15) (ca 16) ((tl (pos a)).2.1) ((tl (pos a)).2.2.2.1) ((tl (pos a)).2.2.2.2.1) ((tl (pos a)).2.2.2.2.2.1) ((tl (pos a)).2.2.2.2.2.2.2.1) (ca 1) (ca 4) (ca 17) (ca 18) (ca 19) (ca 20) (ca 28) (ca 35) (ca 39) (ca 3) ((tl (pos a)).2.2.1.1) ((tl (pos a)).2.2.1.2.1) ((tl (pos a)).2.2.1.2.2) ((tl (pos a)).2.2.2.2.2.2.1) ((tl (pos a)).2.2.2.2.2.2.2.2) ((tl (pos a)).1) _ (ci 0) (ci 1) (ci 13) (ci 18) (ci 19) st ((sv (pos a)).1) ((sv (pos a)).2.1) ((sv (pos a)).2.2.1) ((sv (pos a)).2.2.2.2.2.2.1) ((sv (pos a)).2.2.2.2.2.2.2.1) ((sv (pos a)).2.2.2.2.2.2.2.2.2.1) F (xs (i + 1)) (tri_in hk1) _ q1) yk_X10_about wd_1247 ⟨rfl, rfl, Nat.le_of_ble_eq_true rfl, Nat.le_of_ble_eq_true rfl⟩ ⟨Nat.le_of_ble_eq_true rfl, Nat.le_of_ble_eq_true rfl⟩ hN hT hK hP hD hS hA [true, false, true, false, false, false, false, false, false, false, false, false, false, false, false, true, true, false, false, false, false, false, false, false, false, false, false, false, false, false, false, false, false, false, false, false, false, false, false, false, false, false, false, false, false, false, true, false, false, false, true, true, true, false, true] (va_recv hK hP (ci := 10) (q0 := 0) rfl rfl) hpm rfl rfl (Nat.le_of_ble_eq_true rfl) rfl rfl rfl rfl hl.1 rfl (Nat.le_of_ble_eq_true rfl) dL_1502 (fun H locs hP hD hS => ?_)
  have hpb := (pool1 (G := G) (tl := tl) (sv := sv) hk1 (wC G ca ci cf st bx) (wM G hm ma mi mf)).symm
  have hP := (hP.perm hpb).perm pmod
  have hD := (hD.perm hpb).perm pmod
  refine lv_aload_n hx hb dL_1505 rfl (lv_at hl 2 rfl) ?_
  refine arg_push (j := 1) hx hb hX hbl hS (lv_at hl 0 rfl) (lv_at hl 3 rfl) hL hi (by decide) rfl dL_1506 dL_1507 dL_1508 dL_1509 dL_1510 ?_
  refine cl_F0 (w2 := wM G hm ma mi mf) (As := [.int (xs (i + 1))]) (rest := [.int r]) ⟨hx, hb, hml, hown, ht0⟩ (c_X11_about l (gWith G []) hm (ma 0) (ma 1) (ma 2) (ma 3) (ma 4) (ma 6) (ma 18) (ma 21) (ma 22) (ma 23) (ma 24) (ma 25) (ma 26) (ma 33) (ma 34) (ma 38) (ma 39) (ma 40) (ma 41) (ma 42) (ma 43) (ma 45) (ma 46) (ma 47) (ma 48) _ (mi 5) (mi 7) (mi 8) (mi 9) (mi 10) (mi 11) (mi 12) (mi 13) (mi 14) (mi 15) (mi 16) (mi 17) (mi 19) (mi 20) (mi 27) (mi 28) (mi 29) (mi 30) (mi 31) (mi 32) (mi 35) (mi 36) (mi 37) (mi 44) (mi 49) (mi 50) (mf 0) (mf 1) (mf 2) F (xs (i + 1)) _ q2) yk_X11_about wd_1964 ⟨rfl, rfl, Nat.le_of_ble_eq_true rfl, Nat.le_of_ble_eq_true rfl⟩ ⟨Nat.le_of_ble_eq_true rfl, Nat.le_of_ble_eq_true rfl⟩ hN hT hK hP hD hS hA [true, true, true, true] (va_recv hK hP (ci := 11) (q0 := 0) rfl rfl) rfl (Nat.le_of_ble_eq_true rfl) rfl rfl rfl rfl hl.1 rfl (Nat.le_of_ble_eq_true rfl) dL_1511 (fun H locs hP hD hS => ?_)
  have hP := hP.perm (pmod (a := wC G ca ci cf st bx)).symm
  have hD := hD.perm (pmod (a := wC G ca ci cf st bx)).symm
  refine lv_icmp_eq (tgt := 1519) hx hb dL_1514 (by decide) (fun _ => kk _ _ ⟨ca, ci, cf, st, bx, hm, ma, mi, mf, tl, sv, hP, hD, hS, ?_, hl⟩) (fun q => absurd rfl q)
  exact h.same (fun _ _ => rfl) ⟨⟨rfl, rfl, rfl, rfl, rfl, rfl, rfl, rfl, rfl, rfl, rfl, rfl⟩, ⟨rfl, rfl, rfl⟩, rfl, rfl, rfl, rfl, rfl⟩
set_option maxRecDepth 100000 in
set_option maxHeartbeats 4000000 in
theorem case_undo (K : lwK p s m meth c b L xs G) (hi : i + 6 ≤ L) (hI : LI G s b i H locs ls) (kk : ∀ (H : Heap) (locs : List Loc), LI G s b i H locs ls → WL p l e s m below meth c b H locs 1519 ls []) : WL p l e s m below meth c b H locs 788 ls [] := by
  obtain ⟨⟨hx, hb, hr, hml, hown, hts, hX, hbl, hlocks, hgv⟩, hL, hN, hT, hK⟩ := K
  have ht0 : ∀ w ∈ gtbl, w.before #[Value.ref b] s = true := fun w hw => hts w (gtbl_sub hw)
  have hA : ∀ q : Nat, s.heap.size ≤ q → lwA s q := fun _ h => h
  obtain ⟨ca, ci, cf, st, bx, hm, ma, mi, mf, tl, sv, hP, hD, hS, ⟨n, k, bk, a, u, Lt, uu, pos, h⟩, hl⟩ := hI
  have hs : st a = some (tl (pos a)).1 := h.hs
  have hn : st (nxA a) = some (tl (pos (nxA a))).1 := h.hn
  have hz : st 0 = some (tl (pos 0)).1 := h.ps 0 (by decide)
  have hk1 : pos a < 15 := by have := h.pl; omega
  have hk2 : pos (nxA a) < 15 := by have := h.pn; omega
  have hk0 : pos 0 < 15 := by have := h.gl.2.1 0 (by decide); omega
  obtain ⟨e1, e2, hSR⟩ := h.cur
  obtain ⟨F, hF⟩ : ∃ F : Nat, 3000000 < F := ⟨3000001, by decide⟩
  obtain ⟨r, a', u', al', was', q1, q2, hau, hG⟩ := G_undo (F := F) (by omega) h.gl
  simp only [← h.at_, ← h.last] at q1
  simp only [← h.acts, ← h.und] at q2
  refine lv_aload_n hx hb dL_788 rfl (lv_at hl 1 rfl) ?_
  have hpm : (wC G ca ci cf st bx ++ wM G hm ma mi mf ++ poolS G tl sv sk0 15).Perm ((wC G ca ci cf st bx) ++ (wM G hm ma mi mf ++ poolS G tl sv sk0 15)) := by rw [List.append_assoc]
  have hP := hP.perm hpm
  have hD := hD.perm hpm
  refine cl_F0 (w2 := wC G ca (updI ci 18 (nI a')) cf st bx) (As := []) (rest := []) ⟨hx, hb, hml, hown, ht0⟩ (c_X10_undo l (gWith G []) (ca 0) (ca 15) (ca 2) (ca 1) (ca 4) (ca 17) (ca 18) (ca 19) (ca 20) (ca 28) (ca 35) (ca 39) (ca 16) _ (ci 0) (ci 1) (ci 18) (ci 19) F _ _ q1) yk_X10_undo wd_1015 ⟨rfl, rfl, Nat.le_of_ble_eq_true rfl, Nat.le_of_ble_eq_true rfl⟩ ⟨Nat.le_of_ble_eq_true rfl, Nat.le_of_ble_eq_true rfl⟩ hN hT hK hP hD hS hA [true, false, false, false, false, false, false, false, false, false, false, false, false, false, false, true] (va_recv hK hP (ci := 10) (q0 := 0) rfl rfl) rfl (Nat.le_of_ble_eq_true rfl) rfl rfl rfl rfl hl.1 rfl (Nat.le_of_ble_eq_true rfl) dL_789 (fun H locs hP hD hS => ?_)
  have hpb : ((wC G ca (updI ci 18 (nI a')) cf st bx) ++ (wM G hm ma mi mf ++ poolS G tl sv sk0 15)).Perm (wC G ca (updI ci 18 (nI a')) cf st bx ++ wM G hm ma mi mf ++ poolS G tl sv sk0 15) := by rw [List.append_assoc]
  have hP := (hP.perm hpb).perm pmod
  have hD := (hD.perm hpb).perm pmod
  refine lv_aload_n hx hb dL_792 rfl (lv_at hl 2 rfl) ?_
  refine cl_F0 (w2 := wM G hm ma (updI (updI mi 49 (nI a')) 50 (nI u')) (updA (updA mf 0 al') 46 was')) (As := []) (rest := [.int r]) ⟨hx, hb, hml, hown, ht0⟩ (c_X11_undo l (gWith G []) hm (ma 0) (ma 46) (ma 1) (ma 2) (ma 3) (ma 4) (ma 6) (ma 18) (ma 21) (ma 22) (ma 23) (ma 24) (ma 25) (ma 26) (ma 33) (ma 34) (ma 38) (ma 39) (ma 40) (ma 41) (ma 42) (ma 43) (ma 45) (ma 47) (ma 48) _ (mi 5) (mi 7) (mi 8) (mi 9) (mi 10) (mi 11) (mi 12) (mi 13) (mi 14) (mi 15) (mi 16) (mi 17) (mi 19) (mi 20) (mi 27) (mi 28) (mi 29) (mi 30) (mi 31) (mi 32) (mi 35) (mi 36) (mi 37) (mi 44) (mi 49) (mi 50) (mf 0) (mf 46) F _ _ _ _ _ q2) yk_X11_undo wd_1944 ⟨rfl, rfl, Nat.le_of_ble_eq_true rfl, Nat.le_of_ble_eq_true rfl⟩ ⟨Nat.le_of_ble_eq_true rfl, Nat.le_of_ble_eq_true rfl⟩ hN hT hK hP hD hS hA [true, true, false, false, false, false, false, false, false, false, false, false, false, false, false, false, false, false, false, false, false, false, false, true] (va_recv hK hP (ci := 11) (q0 := 0) rfl rfl) rfl (Nat.le_of_ble_eq_true rfl) rfl rfl rfl rfl hl.1 rfl (Nat.le_of_ble_eq_true rfl) dL_793 (fun H locs hP hD hS => ?_)
  have hP := hP.perm (pmod (a := wC G ca (updI ci 18 (nI a')) cf st bx)).symm
  have hD := hD.perm (pmod (a := wC G ca (updI ci 18 (nI a')) cf st bx)).symm
  refine lv_icmp_eq (tgt := 1519) hx hb dL_796 (by decide) (fun _ => kk _ _ ⟨ca, (updI ci 18 (nI a')), cf, st, bx, hm, ma, (updI (updI mi 49 (nI a')) 50 (nI u')), (updA (updA mf 0 al') 46 was'), tl, sv, hP, hD, hS, ?_, hl⟩) (fun q => absurd rfl q)
  exact h.line hG hau rfl rfl rfl rfl ⟨⟨rfl, rfl, rfl, rfl, rfl, rfl, rfl, rfl, rfl, rfl, rfl, rfl⟩, rfl, rfl, rfl⟩
set_option maxRecDepth 100000 in
set_option maxHeartbeats 4000000 in
theorem case_redo (K : lwK p s m meth c b L xs G) (hi : i + 6 ≤ L) (hI : LI G s b i H locs ls) (kk : ∀ (H : Heap) (locs : List Loc), LI G s b i H locs ls → WL p l e s m below meth c b H locs 1519 ls []) : WL p l e s m below meth c b H locs 801 ls [] := by
  obtain ⟨⟨hx, hb, hr, hml, hown, hts, hX, hbl, hlocks, hgv⟩, hL, hN, hT, hK⟩ := K
  have ht0 : ∀ w ∈ gtbl, w.before #[Value.ref b] s = true := fun w hw => hts w (gtbl_sub hw)
  have hA : ∀ q : Nat, s.heap.size ≤ q → lwA s q := fun _ h => h
  obtain ⟨ca, ci, cf, st, bx, hm, ma, mi, mf, tl, sv, hP, hD, hS, ⟨n, k, bk, a, u, Lt, uu, pos, h⟩, hl⟩ := hI
  have hs : st a = some (tl (pos a)).1 := h.hs
  have hn : st (nxA a) = some (tl (pos (nxA a))).1 := h.hn
  have hz : st 0 = some (tl (pos 0)).1 := h.ps 0 (by decide)
  have hk1 : pos a < 15 := by have := h.pl; omega
  have hk2 : pos (nxA a) < 15 := by have := h.pn; omega
  have hk0 : pos 0 < 15 := by have := h.gl.2.1 0 (by decide); omega
  obtain ⟨e1, e2, hSR⟩ := h.cur
  obtain ⟨F, hF⟩ : ∃ F : Nat, 3000000 < F := ⟨3000001, by decide⟩
  obtain ⟨r, a', u', al', was', q1, q2, hau, hG⟩ := G_redo (F := F) (by omega) h.gl
  simp only [← h.at_, ← h.last] at q1
  simp only [← h.acts, ← h.und] at q2
  refine lv_aload_n hx hb dL_801 rfl (lv_at hl 1 rfl) ?_
  have hpm : (wC G ca ci cf st bx ++ wM G hm ma mi mf ++ poolS G tl sv sk0 15).Perm ((wC G ca ci cf st bx) ++ (wM G hm ma mi mf ++ poolS G tl sv sk0 15)) := by rw [List.append_assoc]
  have hP := hP.perm hpm
  have hD := hD.perm hpm
  refine cl_F0 (w2 := wC G ca (updI ci 18 (nI a')) cf st bx) (As := []) (rest := []) ⟨hx, hb, hml, hown, ht0⟩ (c_X10_redo l (gWith G []) (ca 0) (ca 15) (ca 2) (ca 1) (ca 4) (ca 17) (ca 18) (ca 19) (ca 20) (ca 28) (ca 35) (ca 39) (ca 16) _ (ci 0) (ci 1) (ci 18) (ci 19) F _ _ q1) yk_X10_redo wd_1023 ⟨rfl, rfl, Nat.le_of_ble_eq_true rfl, Nat.le_of_ble_eq_true rfl⟩ ⟨Nat.le_of_ble_eq_true rfl, Nat.le_of_ble_eq_true rfl⟩ hN hT hK hP hD hS hA [true, false, false, false, false, false, false, false, false, false, false, false, false, false, false, true] (va_recv hK hP (ci := 10) (q0 := 0) rfl rfl) rfl (Nat.le_of_ble_eq_true rfl) rfl rfl rfl rfl hl.1 rfl (Nat.le_of_ble_eq_true rfl) dL_802 (fun H locs hP hD hS => ?_)
  have hpb : ((wC G ca (updI ci 18 (nI a')) cf st bx) ++ (wM G hm ma mi mf ++ poolS G tl sv sk0 15)).Perm (wC G ca (updI ci 18 (nI a')) cf st bx ++ wM G hm ma mi mf ++ poolS G tl sv sk0 15) := by rw [List.append_assoc]
  have hP := (hP.perm hpb).perm pmod
  have hD := (hD.perm hpb).perm pmod
  refine lv_aload_n hx hb dL_805 rfl (lv_at hl 2 rfl) ?_
  refine cl_F0 (w2 := wM G hm ma (updI (updI mi 49 (nI a')) 50 (nI u')) (updA (updA mf 0 al') 46 was')) (As := []) (rest := [.int r]) ⟨hx, hb, hml, hown, ht0⟩ (c_X11_redo l (gWith G []) hm (ma 0) (ma 46) (ma 1) (ma 2) (ma 3) (ma 4) (ma 6) (ma 18) (ma 21) (ma 22) (ma 23) (ma 24) (ma 25) (ma 26) (ma 33) (ma 34) (ma 38) (ma 39) (ma 40) (ma 41) (ma 42) (ma 43) (ma 45) (ma 47) (ma 48) _ (mi 5) (mi 7) (mi 8) (mi 9) (mi 10) (mi 11) (mi 12) (mi 13) (mi 14) (mi 15) (mi 16) (mi 17) (mi 19) (mi 20) (mi 27) (mi 28) (mi 29) (mi 30) (mi 31) (mi 32) (mi 35) (mi 36) (mi 37) (mi 44) (mi 49) (mi 50) (mf 0) (mf 46) F _ _ _ _ _ q2) yk_X11_redo wd_1952 ⟨rfl, rfl, Nat.le_of_ble_eq_true rfl, Nat.le_of_ble_eq_true rfl⟩ ⟨Nat.le_of_ble_eq_true rfl, Nat.le_of_ble_eq_true rfl⟩ hN hT hK hP hD hS hA [true, true, false, false, false, false, false, false, false, false, false, false, false, false, false, false, false, false, false, false, false, false, false, true] (va_recv hK hP (ci := 11) (q0 := 0) rfl rfl) rfl (Nat.le_of_ble_eq_true rfl) rfl rfl rfl rfl hl.1 rfl (Nat.le_of_ble_eq_true rfl) dL_806 (fun H locs hP hD hS => ?_)
  have hP := hP.perm (pmod (a := wC G ca (updI ci 18 (nI a')) cf st bx)).symm
  have hD := hD.perm (pmod (a := wC G ca (updI ci 18 (nI a')) cf st bx)).symm
  refine lv_icmp_eq (tgt := 1519) hx hb dL_809 (by decide) (fun _ => kk _ _ ⟨ca, (updI ci 18 (nI a')), cf, st, bx, hm, ma, (updI (updI mi 49 (nI a')) 50 (nI u')), (updA (updA mf 0 al') 46 was'), tl, sv, hP, hD, hS, ?_, hl⟩) (fun q => absurd rfl q)
  exact h.line hG hau rfl rfl rfl rfl ⟨⟨rfl, rfl, rfl, rfl, rfl, rfl, rfl, rfl, rfl, rfl, rfl, rfl⟩, rfl, rfl, rfl⟩
set_option maxRecDepth 100000 in
set_option maxHeartbeats 4000000 in
theorem case_feed (K : lwK p s m meth c b L xs G) (hi : i + 6 ≤ L) (hI : LI G s b i H locs ls) (kk : ∀ (H : Heap) (locs : List Loc), LI G s b i H locs ls → WL p l e s m below meth c b H locs 1519 ls []) : WL p l e s m below meth c b H locs 228 ls [] := by
  obtain ⟨⟨hx, hb, hr, hml, hown, hts, hX, hbl, hlocks, hgv⟩, hL, hN, hT, hK⟩ := K
  have ht0 : ∀ w ∈ gtbl, w.before #[Value.ref b] s = true := fun w hw => hts w (gtbl_sub hw)
  have hA : ∀ q : Nat, s.heap.size ≤ q → lwA s q := fun _ h => h
  obtain ⟨ca, ci, cf, st, bx, hm, ma, mi, mf, tl, sv, hP, hD, hS, ⟨n, k, bk, a, u, Lt, uu, pos, h⟩, hl⟩ := hI
  have hs : st a = some (tl (pos a)).1 := h.hs
  have hn : st (nxA a) = some (tl (pos (nxA a))).1 := h.hn
  have hz : st 0 = some (tl (pos 0)).1 := h.ps 0 (by decide)
  have hk1 : pos a < 15 := by have := h.pl; omega
  have hk2 : pos (nxA a) < 15 := by have := h.pn; omega
  have hk0 : pos 0 < 15 := by have := h.gl.2.1 0 (by decide); omega
  obtain ⟨e1, e2, hSR⟩ := h.cur
  obtain ⟨F, hF⟩ : ∃ F : Nat, 3000000 < F := ⟨3000001, by decide⟩
  obtain ⟨r, L', u', tx', tm', q1, q2, hTp⟩ := A_feed (F := F) (by omega) h.tp (xs (i + 1)) (xs (i + 2)) (xs (i + 3)) (xs (i + 4)) (xs (i + 5))
  simp only [← h.len] at q1
  simp only [← h.tap] at q2
  refine lv_aload_n hx hb dL_228 rfl (lv_at hl 1 rfl) ?_
  refine arg_push (j := 1) hx hb hX hbl hS (lv_at hl 0 rfl) (lv_at hl 3 rfl) hL hi (by decide) rfl dL_229 dL_230 dL_231 dL_232 dL_233 ?_
  refine arg_push (j := 2) hx hb hX hbl hS (lv_at hl 0 rfl) (lv_at hl 3 rfl) hL hi (by decide) rfl dL_234 dL_235 dL_236 dL_237 dL_238 ?_
  refine arg_push (j := 3) hx hb hX hbl hS (lv_at hl 0 rfl) (lv_at hl 3 rfl) hL hi (by decide) rfl dL_239 dL_240 dL_241 dL_242 dL_243 ?_
  refine arg_push (j := 4) hx hb hX hbl hS (lv_at hl 0 rfl) (lv_at hl 3 rfl) hL hi (by decide) rfl dL_244 dL_245 dL_246 dL_247 dL_248 ?_
  refine arg_push (j := 5) hx hb hX hbl hS (lv_at hl 0 rfl) (lv_at hl 3 rfl) hL hi (by decide) rfl dL_249 dL_250 dL_251 dL_252 dL_253 ?_
  have hpm : (wC G ca ci cf st bx ++ wM G hm ma mi mf ++ poolS G tl sv sk0 15).Perm ((wC G ca ci cf st bx) ++ (wM G hm ma mi mf ++ poolS G tl sv sk0 15)) := by rw [List.append_assoc]
  have hP := hP.perm hpm
  have hD := hD.perm hpm
  refine cl_F0 (w2 := wC G ca (updI ci 13 (nI L')) (updA cf 3 tx') st bx) (As := [.int (xs (i + 1)), .int (xs (i + 2)), .int (xs (i + 3)), .int (xs (i + 4)), .int (xs (i + 5))]) (rest := []) ⟨hx, hb, hml, hown, ht0⟩ (c_X10_feed l (gWith G []) (ca 0) (ca 2) (ca 3) (ca 1) (ca 4) (ca 15) (ca 17) (ca 18) (ca 19) (ca 20) (ca 28) (ca 35) (ca 39) _ (ci 0) (ci 1) (ci 13) (cf 3) F (xs (i + 1)) (xs (i + 2)) (xs (i + 3)) (xs (i + 4)) (xs (i + 5)) _ _ _ q1) yk_X10_feed wd_580 ⟨rfl, rfl, Nat.le_of_ble_eq_true rfl, Nat.le_of_ble_eq_true rfl⟩ ⟨Nat.le_of_ble_eq_true rfl, Nat.le_of_ble_eq_true rfl⟩ hN hT hK hP hD hS hA [true, false, true, true] (va_recv hK hP (ci := 10) (q0 := 0) rfl rfl) rfl (Nat.le_of_ble_eq_true rfl) rfl rfl rfl rfl hl.1 rfl (Nat.le_of_ble_eq_true rfl) dL_254 (fun H locs hP hD hS => ?_)
  have hpb : ((wC G ca (updI ci 13 (nI L')) (updA cf 3 tx') st bx) ++ (wM G hm ma mi mf ++ poolS G tl sv sk0 15)).Perm (wC G ca (updI ci 13 (nI L')) (updA cf 3 tx') st bx ++ wM G hm ma mi mf ++ poolS G tl sv sk0 15) := by rw [List.append_assoc]
  have hP := (hP.perm hpb).perm pmod
  have hD := (hD.perm hpb).perm pmod
  refine lv_aload_n hx hb dL_257 rfl (lv_at hl 2 rfl) ?_
  refine arg_push (j := 1) hx hb hX hbl hS (lv_at hl 0 rfl) (lv_at hl 3 rfl) hL hi (by decide) rfl dL_258 dL_259 dL_260 dL_261 dL_262 ?_
  refine arg_push (j := 2) hx hb hX hbl hS (lv_at hl 0 rfl) (lv_at hl 3 rfl) hL hi (by decide) rfl dL_263 dL_264 dL_265 dL_266 dL_267 ?_
  refine arg_push (j := 3) hx hb hX hbl hS (lv_at hl 0 rfl) (lv_at hl 3 rfl) hL hi (by decide) rfl dL_268 dL_269 dL_270 dL_271 dL_272 ?_
  refine arg_push (j := 4) hx hb hX hbl hS (lv_at hl 0 rfl) (lv_at hl 3 rfl) hL hi (by decide) rfl dL_273 dL_274 dL_275 dL_276 dL_277 ?_
  refine arg_push (j := 5) hx hb hX hbl hS (lv_at hl 0 rfl) (lv_at hl 3 rfl) hL hi (by decide) rfl dL_278 dL_279 dL_280 dL_281 dL_282 ?_
  refine cl_F0 (w2 := wM G hm ma (updI mi 7 (nI L')) (updA mf 6 tm')) (As := [.int (xs (i + 1)), .int (xs (i + 2)), .int (xs (i + 3)), .int (xs (i + 4)), .int (xs (i + 5))]) (rest := [.int r]) ⟨hx, hb, hml, hown, ht0⟩ (c_X11_feed l (gWith G []) hm (ma 6) (ma 0) (ma 1) (ma 2) (ma 3) (ma 4) (ma 18) (ma 21) (ma 22) (ma 23) (ma 24) (ma 25) (ma 26) (ma 33) (ma 34) (ma 38) (ma 39) (ma 40) (ma 41) (ma 42) (ma 43) (ma 45) (ma 46) (ma 47) (ma 48) _ (mi 5) (mi 7) (mi 8) (mi 9) (mi 10) (mi 11) (mi 12) (mi 13) (mi 14) (mi 15) (mi 16) (mi 17) (mi 19) (mi 20) (mi 27) (mi 28) (mi 29) (mi 30) (mi 31) (mi 32) (mi 35) (mi 36) (mi 37) (mi 44) (mi 49) (mi 50) (mf 6) F (xs (i + 1)) (xs (i + 2)) (xs (i + 3)) (xs (i + 4)) (xs (i + 5)) _ _ _ q2) yk_X11_feed wd_1560 ⟨rfl, rfl, Nat.le_of_ble_eq_true rfl, Nat.le_of_ble_eq_true rfl⟩ ⟨Nat.le_of_ble_eq_true rfl, Nat.le_of_ble_eq_true rfl⟩ hN hT hK hP hD hS hA [true, false, false, false, false, false, true] (va_recv hK hP (ci := 11) (q0 := 0) rfl rfl) rfl (Nat.le_of_ble_eq_true rfl) rfl rfl rfl rfl hl.1 rfl (Nat.le_of_ble_eq_true rfl) dL_283 (fun H locs hP hD hS => ?_)
  have hP := hP.perm (pmod (a := wC G ca (updI ci 13 (nI L')) (updA cf 3 tx') st bx)).symm
  have hD := hD.perm (pmod (a := wC G ca (updI ci 13 (nI L')) (updA cf 3 tx') st bx)).symm
  refine lv_icmp_eq (tgt := 1519) hx hb dL_286 (by decide) (fun _ => kk _ _ ⟨ca, (updI ci 13 (nI L')), (updA cf 3 tx'), st, bx, hm, ma, (updI mi 7 (nI L')), (updA mf 6 tm'), tl, sv, hP, hD, hS, ?_, hl⟩) (fun q => absurd rfl q)
  exact h.tape hTp rfl rfl ⟨⟨rfl, rfl, rfl, rfl, rfl, rfl, rfl, rfl⟩, ⟨rfl, rfl, rfl⟩, rfl, rfl, rfl, rfl, rfl, rfl⟩
set_option maxRecDepth 100000 in
set_option maxHeartbeats 4000000 in
theorem case_end (K : lwK p s m meth c b L xs G) (hi : i + 6 ≤ L) (hI : LI G s b i H locs ls) (kk : ∀ (H : Heap) (locs : List Loc), LI G s b i H locs ls → WL p l e s m below meth c b H locs 1519 ls []) : WL p l e s m below meth c b H locs 291 ls [] := by
  obtain ⟨⟨hx, hb, hr, hml, hown, hts, hX, hbl, hlocks, hgv⟩, hL, hN, hT, hK⟩ := K
  have ht0 : ∀ w ∈ gtbl, w.before #[Value.ref b] s = true := fun w hw => hts w (gtbl_sub hw)
  have hA : ∀ q : Nat, s.heap.size ≤ q → lwA s q := fun _ h => h
  obtain ⟨ca, ci, cf, st, bx, hm, ma, mi, mf, tl, sv, hP, hD, hS, ⟨n, k, bk, a, u, Lt, uu, pos, h⟩, hl⟩ := hI
  have hs : st a = some (tl (pos a)).1 := h.hs
  have hn : st (nxA a) = some (tl (pos (nxA a))).1 := h.hn
  have hz : st 0 = some (tl (pos 0)).1 := h.ps 0 (by decide)
  have hk1 : pos a < 15 := by have := h.pl; omega
  have hk2 : pos (nxA a) < 15 := by have := h.pn; omega
  have hk0 : pos 0 < 15 := by have := h.gl.2.1 0 (by decide); omega
  obtain ⟨e1, e2, hSR⟩ := h.cur
  obtain ⟨F, hF⟩ : ∃ F : Nat, 3000000 < F := ⟨3000001, by decide⟩
  obtain ⟨r, L', q1, q2, hTp⟩ := A_end (F := F) h.tp (xs (i + 1))
  simp only [← h.len] at q1
  simp only [← h.tap] at q2
  refine lv_aload_n hx hb dL_291 rfl (lv_at hl 1 rfl) ?_
  refine arg_push (j := 1) hx hb hX hbl hS (lv_at hl 0 rfl) (lv_at hl 3 rfl) hL hi (by decide) rfl dL_292 dL_293 dL_294 dL_295 dL_296 ?_
  have hpm : (wC G ca ci cf st bx ++ wM G hm ma mi mf ++ poolS G tl sv sk0 15).Perm ((wC G ca ci cf st bx) ++ (wM G hm ma mi mf ++ poolS G tl sv sk0 15)) := by rw [List.append_assoc]
  have hP := hP.perm hpm
  have hD := hD.perm hpm
  refine cl_F0 (w2 := wC G ca (updI ci 13 (nI L')) cf st bx) (As := [.int (xs (i + 1))]) (rest := []) ⟨hx, hb, hml, hown, ht0⟩ (c_X10_end l (gWith G []) (ca 0) (ca 2) (ca 1) (ca 4) (ca 15) (ca 17) (ca 18) (ca 19) (ca 20) (ca 28) (ca 35) (ca 39) (ca 3) _ (ci 0) (ci 1) (ci 13) F (xs (i + 1)) _ _ q1) yk_X10_end wd_592 ⟨rfl, rfl, Nat.le_of_ble_eq_true rfl, Nat.le_of_ble_eq_true rfl⟩ ⟨Nat.le_of_ble_eq_true rfl, Nat.le_of_ble_eq_true rfl⟩ hN hT hK hP hD hS hA [true, false, true] (va_recv hK hP (ci := 10) (q0 := 0) rfl rfl) rfl (Nat.le_of_ble_eq_true rfl) rfl rfl rfl rfl hl.1 rfl (Nat.le_of_ble_eq_true rfl) dL_297 (fun H locs hP hD hS => ?_)
  have hpb : ((wC G ca (updI ci 13 (nI L')) cf st bx) ++ (wM G hm ma mi mf ++ poolS G tl sv sk0 15)).Perm (wC G ca (updI ci 13 (nI L')) cf st bx ++ wM G hm ma mi mf ++ poolS G tl sv sk0 15) := by rw [List.append_assoc]
  have hP := (hP.perm hpb).perm pmod
  have hD := (hD.perm hpb).perm pmod
  refine lv_aload_n hx hb dL_300 rfl (lv_at hl 2 rfl) ?_
  refine arg_push (j := 1) hx hb hX hbl hS (lv_at hl 0 rfl) (lv_at hl 3 rfl) hL hi (by decide) rfl dL_301 dL_302 dL_303 dL_304 dL_305 ?_
  refine cl_F0 (w2 := wM G hm ma (updI mi 7 (nI L')) mf) (As := [.int (xs (i + 1))]) (rest := [.int r]) ⟨hx, hb, hml, hown, ht0⟩ (c_X11_end l (gWith G []) hm (ma 0) (ma 1) (ma 2) (ma 3) (ma 4) (ma 6) (ma 18) (ma 21) (ma 22) (ma 23) (ma 24) (ma 25) (ma 26) (ma 33) (ma 34) (ma 38) (ma 39) (ma 40) (ma 41) (ma 42) (ma 43) (ma 45) (ma 46) (ma 47) (ma 48) _ (mi 5) (mi 7) (mi 8) (mi 9) (mi 10) (mi 11) (mi 12) (mi 13) (mi 14) (mi 15) (mi 16) (mi 17) (mi 19) (mi 20) (mi 27) (mi 28) (mi 29) (mi 30) (mi 31) (mi 32) (mi 35) (mi 36) (mi 37) (mi 44) (mi 49) (mi 50) F (xs (i + 1)) _ _ q2) yk_X11_end wd_1564 ⟨rfl, rfl, Nat.le_of_ble_eq_true rfl, Nat.le_of_ble_eq_true rfl⟩ ⟨Nat.le_of_ble_eq_true rfl, Nat.le_of_ble_eq_true rfl⟩ hN hT hK hP hD hS hA [true] (va_recv hK hP (ci := 11) (q0 := 0) rfl rfl) rfl (Nat.le_of_ble_eq_true rfl) rfl rfl rfl rfl hl.1 rfl (Nat.le_of_ble_eq_true rfl) dL_306 (fun H locs hP hD hS => ?_)
  have hP := hP.perm (pmod (a := wC G ca (updI ci 13 (nI L')) cf st bx)).symm
  have hD := hD.perm (pmod (a := wC G ca (updI ci 13 (nI L')) cf st bx)).symm
  refine lv_icmp_eq (tgt := 1519) hx hb dL_309 (by decide) (fun _ => kk _ _ ⟨ca, (updI ci 13 (nI L')), cf, st, bx, hm, ma, (updI mi 7 (nI L')), mf, tl, sv, hP, hD, hS, ?_, hl⟩) (fun q => absurd rfl q)
  exact h.tape hTp rfl rfl ⟨⟨rfl, rfl, rfl, rfl, rfl, rfl, rfl, rfl⟩, ⟨rfl, rfl, rfl⟩, rfl, rfl, rfl, rfl, rfl, rfl⟩
end Cases80
