/-! the law's loop and its entry -/
theorem and63 (x : Int32) : ∃ k, k < 64 ∧ x &&& 63 = nI k := by
  obtain ⟨k, -, h⟩ := nx_mask x
  refine ⟨k &&& 63, Nat.lt_of_le_of_lt Nat.and_le_right (by decide), ?_⟩
  have e : x &&& 63 = (x &&& 65535) &&& 63 := by rw [Int32.and_assoc]; rfl
  rw [e, h]
  exact nx_and k 63
theorem six_lt : ∀ L : Nat, L < 6 → ∀ i : Nat, i < 6 → Int32.ofNat L - 6 < nI i := by decide +kernel
theorem six_le {L i : Nat} (hL : L ≤ 3072) (hi : i ≤ L) (h : ¬ Int32.ofNat L - 6 < nI i) : i + 6 ≤ L := by
  rcases Nat.lt_or_ge L 6 with q | q
  · exact absurd (six_lt L q i (by omega)) h
  · have e : Int32.ofNat L - 6 = nI (L - 6) := by
      have e1 : nI (L - 6) + nI 6 = nI L := by rw [nI_add]; congr 1; omega
      show nI L - nI 6 = nI (L - 6)
      rw [← e1, Int32.add_sub_cancel]
    rw [e, nI_ltI (by omega) (by omega)] at h
    omega
section Loop
variable {p : Program} {l : Launch} {e : Env} {s : State} {m : MethodId} {below : List Frame} {meth : Method} {c : Code} {G : GG} {b L : Nat} {xs : Nat → Int32}
set_option maxRecDepth 100000 in
set_option maxHeartbeats 4000000 in
theorem law_switch (K : lwK p s m meth c b L xs G) {i : Nat} {H : Heap} {locs : List Loc} {ls : Array Slot} (hi : i + 6 ≤ L) (hI : LI G s b i H locs ls) (kk : ∀ (H : Heap) (locs : List Loc), LI G s b i H locs ls → WL p l e s m below meth c b H locs 1519 ls []) {x : Int32} (hx63 : ∃ k, k < 64 ∧ x = nI k) : WL p l e s m below meth c b H locs 33 ls [.int x] := by
  have hx := K.1.1
  have hb := K.1.2.1
  obtain ⟨k, hk, rfl⟩ := hx63
  by_cases h45 : k < 45
  · match k, h45 with
    | 0, _ => exact lv_tableIn (off := 195) (tgt := 228) hx hb dL_33 (by decide) (by decide) rfl (by decide) (case_feed K hi hI kk)
    | 1, _ => exact lv_tableIn (off := 258) (tgt := 291) hx hb dL_33 (by decide) (by decide) rfl (by decide) (case_end K hi hI kk)
    | 2, _ => exact lv_tableIn (off := 281) (tgt := 314) hx hb dL_33 (by decide) (by decide) rfl (by decide) (case_code K hi hI kk)
    | 3, _ => exact lv_tableIn (off := 294) (tgt := 327) hx hb dL_33 (by decide) (by decide) rfl (by decide) (case_fault K hi hI kk)
    | 4, _ => exact lv_tableIn (off := 317) (tgt := 350) hx hb dL_33 (by decide) (by decide) rfl (by decide) (case_write K hi hI kk)
    | 5, _ => exact lv_tableIn (off := 350) (tgt := 383) hx hb dL_33 (by decide) (by decide) rfl (by decide) (case_part K hi hI kk)
    | 6, _ => exact lv_tableIn (off := 393) (tgt := 426) hx hb dL_33 (by decide) (by decide) rfl (by decide) (case_mend K hi hI kk)
    | 7, _ => exact lv_tableIn (off := 416) (tgt := 449) hx hb dL_33 (by decide) (by decide) rfl (by decide) (case_scrub K hi hI kk)
    | 8, _ => exact lv_tableIn (off := 429) (tgt := 462) hx hb dL_33 (by decide) (by decide) rfl (by decide) (case_slip K hi hI kk)
    | 9, _ => exact lv_tableIn (off := 462) (tgt := 495) hx hb dL_33 (by decide) (by decide) rfl (by decide) (case_burst K hi hI kk)
    | 10, _ => exact lv_tableIn (off := 505) (tgt := 538) hx hb dL_33 (by decide) (by decide) rfl (by decide) (case_storm K hi hI kk)
    | 11, _ => exact lv_tableIn (off := 548) (tgt := 581) hx hb dL_33 (by decide) (by decide) rfl (by decide) (case_stick K hi hI kk)
    | 12, _ => exact lv_tableIn (off := 591) (tgt := 624) hx hb dL_33 (by decide) (by decide) rfl (by decide) (case_free K hi hI kk)
    | 13, _ => exact lv_tableIn (off := 614) (tgt := 647) hx hb dL_33 (by decide) (by decide) rfl (by decide) (case_column K hi hI kk)
    | 14, _ => exact lv_tableIn (off := 647) (tgt := 680) hx hb dL_33 (by decide) (by decide) rfl (by decide) (case_swap K hi hI kk)
    | 15, _ => exact lv_tableIn (off := 680) (tgt := 713) hx hb dL_33 (by decide) (by decide) rfl (by decide) (case_way K hi hI kk)
    | 16, _ => exact lv_tableIn (off := 703) (tgt := 736) hx hb dL_33 (by decide) (by decide) rfl (by decide) (case_pairs K hi hI kk)
    | 17, _ => exact lv_tableIn (off := 742) (tgt := 775) hx hb dL_33 (by decide) (by decide) rfl (by decide) (case_better K hi hI kk)
    | 18, _ => exact lv_tableIn (off := 755) (tgt := 788) hx hb dL_33 (by decide) (by decide) rfl (by decide) (case_undo K hi hI kk)
    | 19, _ => exact lv_tableIn (off := 768) (tgt := 801) hx hb dL_33 (by decide) (by decide) rfl (by decide) (case_redo K hi hI kk)
    | 20, _ => exact lv_tableIn (off := 781) (tgt := 814) hx hb dL_33 (by decide) (by decide) rfl (by decide) (case_columnOf K hi hI kk)
    | 21, _ => exact lv_tableIn (off := 804) (tgt := 837) hx hb dL_33 (by decide) (by decide) rfl (by decide) (case_row K hi hI kk)
    | 22, _ => exact lv_tableIn (off := 837) (tgt := 870) hx hb dL_33 (by decide) (by decide) rfl (by decide) (case_rows K hi hI kk)
    | 23, _ => exact lv_tableIn (off := 860) (tgt := 893) hx hb dL_33 (by decide) (by decide) rfl (by decide) (case_word K hi hI kk)
    | 24, _ => exact lv_tableIn (off := 893) (tgt := 926) hx hb dL_33 (by decide) (by decide) rfl (by decide) (case_reading K hi hI kk)
    | 25, _ => exact lv_tableIn (off := 926) (tgt := 959) hx hb dL_33 (by decide) (by decide) rfl (by decide) (case_stuck K hi hI kk)
    | 26, _ => exact lv_tableIn (off := 959) (tgt := 992) hx hb dL_33 (by decide) (by decide) rfl (by decide) (case_stands K hi hI kk)
    | 27, _ => exact lv_tableIn (off := 992) (tgt := 1025) hx hb dL_33 (by decide) (by decide) rfl (by decide) (case_find K hi hI kk)
    | 28, _ => exact lv_tableIn (off := 1025) (tgt := 1058) hx hb dL_33 (by decide) (by decide) rfl (by decide) (case_threes K hi hI kk)
    | 29, _ => exact lv_tableIn (off := 1048) (tgt := 1081) hx hb dL_33 (by decide) (by decide) rfl (by decide) (case_fours K hi hI kk)
    | 30, _ => exact lv_tableIn (off := 1061) (tgt := 1094) hx hb dL_33 (by decide) (by decide) rfl (by decide) (case_twos K hi hI kk)
    | 31, _ => exact lv_tableIn (off := 1084) (tgt := 1117) hx hb dL_33 (by decide) (by decide) rfl (by decide) (case_change K hi hI kk)
    | 32, _ => exact lv_tableIn (off := 1107) (tgt := 1140) hx hb dL_33 (by decide) (by decide) rfl (by decide) (case_gates K hi hI kk)
    | 33, _ => exact lv_tableIn (off := 1130) (tgt := 1163) hx hb dL_33 (by decide) (by decide) rfl (by decide) (case_shared K hi hI kk)
    | 34, _ => exact lv_tableIn (off := 1163) (tgt := 1196) hx hb dL_33 (by decide) (by decide) rfl (by decide) (case_chip K hi hI kk)
    | 35, _ => exact lv_tableIn (off := 1196) (tgt := 1229) hx hb dL_33 (by decide) (by decide) rfl (by decide) (case_exchange K hi hI kk)
    | 36, _ => exact lv_tableIn (off := 1219) (tgt := 1252) hx hb dL_33 (by decide) (by decide) rfl (by decide) (case_fewest K hi hI kk)
    | 37, _ => exact lv_tableIn (off := 1242) (tgt := 1275) hx hb dL_33 (by decide) (by decide) rfl (by decide) (case_columns K hi hI kk)
    | 38, _ => exact lv_tableIn (off := 1275) (tgt := 1308) hx hb dL_33 (by decide) (by decide) rfl (by decide) (case_would K hi hI kk)
    | 39, _ => exact lv_tableIn (off := 1318) (tgt := 1351) hx hb dL_33 (by decide) (by decide) rfl (by decide) (case_worst K hi hI kk)
    | 40, _ => exact lv_tableIn (off := 1361) (tgt := 1394) hx hb dL_33 (by decide) (by decide) rfl (by decide) (case_interval K hi hI kk)
    | 41, _ => exact lv_tableIn (off := 1394) (tgt := 1427) hx hb dL_33 (by decide) (by decide) rfl (by decide) (case_tally K hi hI kk)
    | 42, _ => exact lv_tableIn (off := 1417) (tgt := 1450) hx hb dL_33 (by decide) (by decide) rfl (by decide) (case_image K hi hI kk)
    | 43, _ => exact lv_tableIn (off := 1440) (tgt := 1473) hx hb dL_33 (by decide) (by decide) rfl (by decide) (case_back K hi hI kk)
    | 44, _ => exact lv_tableIn (off := 1463) (tgt := 1496) hx hb dL_33 (by decide) (by decide) rfl (by decide) (case_about K hi hI kk)
    | k + 45, h => exact absurd h (by omega)
  · exact lv_tableOut (tgt := 1519) hx hb dL_33 (Or.inr (by rw [nI_toInt (by omega)]; omega)) (by decide) (kk H locs hI)
set_option maxRecDepth 100000 in
set_option maxHeartbeats 4000000 in
theorem law_loop (K : lwK p s m meth c b L xs G) : ∀ (d i : Nat) (H : Heap) (locs : List Loc) (ls : Array Slot), i ≤ L → L + 1 ≤ i + d → LI G s b i H locs ls → WL p l e s m below meth c b H locs 18 ls [] := by
  have K0 := K
  obtain ⟨⟨hx, hb, hr, hml, hown, hts, hX, hbl, hlocks, hgv⟩, hL, hN, hT, hK⟩ := K0
  have hbA : ¬ lwA s b := Nat.not_le.mpr hbl
  intro d
  induction d with
  | zero =>
    intro i H locs ls h1 h2
    exact absurd h2 (by omega)
  | succ d ih =>
    intro i H locs ls h1 h2 hI
    have hI0 := hI
    obtain ⟨ca, ci, cf, st, bx, hm, ma, mi, mf, tl, sv, hP, hD, hS, hV, hl⟩ := hI0
    refine lv_iload_n hx hb dL_18 rfl (lv_at hl 3 rfl) ?_
    refine lv_aload_n hx hb dL_19 rfl (lv_at hl 0 rfl) ?_
    refine va_slen hx hb hX hbl hbA hS dL_20 ?_
    refine lv_bipush (v := 6) hx hb dL_21 (by decide) ?_
    refine lv_isub hx hb dL_23 ?_
    refine lv_icmp_gt (tgt := 1525) hx hb dL_24 (by decide) (fun _ => ?_) (fun hc => ?_)
    · refine lv_iconst (v := 1) hx hb dL_1525 (by decide) ?_
      refine va_forget (fun q hq => hS.2.2 q hq) ?_
      refine W.widen (k := 600000) (n := 7302250) (by decide) (by decide) ?_
      exact lw_ret hx hb hr hlocks dL_1526
    · have hi : i + 6 ≤ L := six_le hL h1 hc
      refine lv_aload_n hx hb dL_27 rfl (lv_at hl 0 rfl) ?_
      refine lv_iload_n hx hb dL_28 rfl (lv_at hl 3 rfl) ?_
      refine va_sld hx hb hX hbl hbA hS (vp_in_nI (by omega) (by omega)) dL_29 ?_
      refine lv_bipush (v := 63) hx hb dL_30 (by decide) ?_
      refine lv_iand hx hb dL_32 ?_
      refine law_switch K hi hI (fun H locs hI => ?_) (and63 _)
      obtain ⟨ca, ci, cf, st, bx, hm, ma, mi, mf, tl, sv, hP, hD, hS, hV, hl⟩ := hI
      refine lv_iinc (v := nI (i + 6)) (lv' := [(3, .int (nI (i + 6))), (0, .ref b), (1, .ref (ca 0)), (2, .ref hm)]) hx hb dL_1519 hl (k := 3) rfl (nI_add i 6) (by decide) rfl (fun ls hl => ?_)
      refine lv_goto (tgt := 18) hx hb dL_1522 (by decide) ?_
      exact ih (i + 6) H locs ls hi (by omega) ⟨ca, ci, cf, st, bx, hm, ma, mi, mf, tl, sv, hP, hD, hS, hV, lv_sub hl [1, 2, 3, 0] rfl⟩
end Loop
theorem pfr3 {F B N : va_W} : ((F ++ B) ++ N).Perm ((F ++ N) ++ B) := by
  rw [List.append_assoc, List.append_assoc]
  exact List.perm_append_comm.append_left F
theorem inv_start {tl : Nat → tS} {ci : Nat → Int32} {cf : Nat → AA} {mi : Nat → Int32} {mf : Nat → AA} {v : Nx} (hb : MB 0 8 5 (mf 1) (mf 2)) (hs : SX 8 5 v (mf 0)) (hl : LT (mf 18)) (h5 : mi 5 = 0) (h18 : ci 18 = 0) (h19 : ci 19 = 0) (h49 : mi 49 = 0) (h50 : mi 50 = 0) (h13 : ci 13 = 0) (h7 : mi 7 = 0) (f0 : ci 0 = mi 16) (f1 : ci 1 = mi 17) (z0 : cf 18 0 = 0) (z1 : cf 18 1 = 0) (y0 : mf 48 0 = 0) (y1 : mf 48 1 = 0) : INV' (fun j => (tl j).1) ci cf (stF tl 13) (bxF tl) (svU (fun _ => v0) 0 v) mi mf := by
  refine ⟨8, 5, 0, 0, 0, 0, fun _ => 0, fun i => i, hb, h5, ⟨by decide, fun i h => h, fun i j _ _ h => h, fun i h => absurd h (by omega), by rw [svU_at]; exact hs, fun i h1 h2 => absurd h2 (by omega)⟩, fun i hi => ?_, h18, h19, h49, h50, ⟨by decide, fun i h => absurd h (by omega)⟩, h13, h7, hl, f0, f1, fun c hc => ?_⟩
  · show stF tl 13 i = some (tl i).1
    unfold stF
    rw [if_pos hi]
  · rcases (show c = 0 ∨ c = 1 by omega) with rfl | rfl
    · exact ⟨rfl, by rw [z0, y0], fun h => absurd z0 h⟩
    · exact ⟨rfl, by rw [z1, y1], fun h => absurd z1 h⟩
set_option maxRecDepth 100000 in
set_option maxHeartbeats 4000000 in
/-- from the entry, for every script, the law comes to its end with true -/
theorem whole_start {p : Program} {e : Env} {s : State} {m : MethodId} {below : List Frame} {meth : Method} {c : Code} (l : Launch) (hflags : l.flags = flags0) {b L : Nat} {xs : Nat → Int32} (hL : L ≤ 3072) (C0 : lw_At p s m meth c b L xs) : W p l e room_1 s m #[Value.ref b] below meth c s.heap [] 0 0 (lw_Z below #[Value.ref b] s) (entryFrame m ([Value.ref b] : List Value).toArray 4) := by
  obtain ⟨hx, hb, hr, hml, hown, hts, hX, hbl, hlocks, hgv⟩ := id C0
  have ht0 : ∀ w ∈ gtbl, w.before #[Value.ref b] s = true := fun w hw => hts w (gtbl_sub hw)
  obtain ⟨G, hG0, hK, hT⟩ := known_start hts hgv
  have hN := NW_start hts
  have hO := AO_start hts
  have hA : ∀ q : Nat, s.heap.size ≤ q → lwA s q := fun _ h => h
  have hXF : XF G (lwA s) s := ⟨hN, hT, fun q hq => by rw [hG0] at hq; cases hq⟩
  obtain ⟨F, hF⟩ : ∃ F : Nat, 3000000 < F := ⟨3000001, by decide⟩
  obtain ⟨c1, A1, A2, A3, A4, A5, A7, A8, A9, hf, da0, ck0, wy0, to0, hf1, g, mq', to', hf2, al', mbf', hf3, y0, y1, hMB, hSX⟩ := init_both (F := F) (lets := letF 56) (tm := zA) hF LT_letF 0 zA zA zA zA zA zA zA zA zA zA zA zA zA zA zA zA (fun _ _ => ⟨rfl, rfl, rfl, rfl⟩) (fun _ _ => rfl) 0 0 0 0 0 0 0 0 0 0 0 (0, 0, zA, zA, zA, zA, zA, zA) zA zA zA zA zA zA
  have hS : va_S (lwA s) s.heap s.heap [] := va_S.rf
  have hP : va_P G.1 vwCl [] s.heap := fun k q h => by simp at h
  have hD : va_D (lwA s) [] := ⟨fun i j p q h => by simp at h, fun k q h => by simp at h⟩
  have hl := lv_entry ([.ref b]) (n := 4) (Nat.le_of_ble_eq_true rfl)
  rw [lg_entry_eq]
  generalize (lg_sl ([.ref b]) ++ List.replicate (4 - (lg_sl ([.ref b])).length) Slot.unset).toArray = ls at hl ⊢
  have hl : lv_has ls 4 [(0, .ref b)] := hl
  refine va_new (ci := 10) (fs := [.null, .null, .null, .null, .null, .null, .null, .null, .null, .null, .null, .int 0, .int 0]) (C := RX10) (T := TX10) (N := 13) hx hb ht0 iX10 tyX10 tyX10_ok hown (ht0 _ wd_147) (ht0 _ wd_148) (ht0 _ wd_127) hK hP hD hS hA rfl (fun j hj => by rcases (show j = 0 ∨ j = 1 ∨ j = 2 ∨ j = 3 ∨ j = 4 ∨ j = 5 ∨ j = 6 ∨ j = 7 ∨ j = 8 ∨ j = 9 ∨ j = 10 ∨ j = 11 ∨ j = 12 by omega) with rfl | rfl | rfl | rfl | rfl | rfl | rfl | rfl | rfl | rfl | rfl | rfl | rfl <;> rfl) (Nat.le_of_ble_eq_true rfl) (Nat.le_of_ble_eq_true rfl) dL_0 (fun q0 H hP hD hS => ?_)
  refine W.widen (k := 1) (n := 13) (by decide) (by decide) ?_
  refine lv_dup hx hb dL_3 rfl ?_
  refine cl_I (rest := [.ref q0]) ⟨hx, hb, hml, hown, ht0⟩ (c_X10_init l G q0 H.size F _ _ _ _ _ _ _ _ _ hf) ykN_X10_init wd_149 ⟨rfl, rfl, Nat.le_of_ble_eq_true rfl, Nat.le_of_ble_eq_true rfl⟩ ⟨Nat.le_of_ble_eq_true rfl, Nat.le_of_ble_eq_true rfl⟩ hXF hO hK hP hD hS hA hl.1 (Nat.le_of_ble_eq_true rfl) dL_4 (fun u H locs hP hD hS => ?_)
  refine W.widen (k := 210) (n := 13936) (by decide) (by decide) ?_
  refine lv_astore_n (lv' := [(1, .ref q0), (0, .ref b)]) hx hb dL_7 rfl hl (by decide) rfl (fun ls hl => ?_)
  refine va_new (ci := 11) (fs := [.null, .null, .null, .null, .null, .int 0, .null, .int 0, .int 0, .int 0, .int 0, .int 0, .int 0, .int 0, .int 0, .int 0, .int 0, .int 0, .null, .int 0, .int 0, .null, .null, .null, .null, .null, .null, .int 0, .int 0, .int 0, .int 0, .int 0, .int 0, .null, .null, .int 0, .int 0, .int 0, .null, .null, .null, .null, .null, .null, .int 0, .null, .null, .null, .null, .int 0, .int 0]) (C := RX11) (T := TX11) (N := 51) hx hb ht0 iX11 tyX11 tyX11_ok hown (ht0 _ wd_1256) (ht0 _ wd_1257) (ht0 _ wd_142) hK hP hD hS hA rfl (fun j hj => by rcases (show j = 0 ∨ j = 1 ∨ j = 2 ∨ j = 3 ∨ j = 4 ∨ j = 5 ∨ j = 6 ∨ j = 7 ∨ j = 8 ∨ j = 9 ∨ j = 10 ∨ j = 11 ∨ j = 12 ∨ j = 13 ∨ j = 14 ∨ j = 15 ∨ j = 16 ∨ j = 17 ∨ j = 18 ∨ j = 19 ∨ j = 20 ∨ j = 21 ∨ j = 22 ∨ j = 23 ∨ j = 24 ∨ j = 25 ∨ j = 26 ∨ j = 27 ∨ j = 28 ∨ j = 29 ∨ j = 30 ∨ j = 31 ∨ j = 32 ∨ j = 33 ∨ j = 34 ∨ j = 35 ∨ j = 36 ∨ j = 37 ∨ j = 38 ∨ j = 39 ∨ j = 40 ∨ j = 41 ∨ j = 42 ∨ j = 43 ∨ j = 44 ∨ j = 45 ∨ j = 46 ∨ j = 47 ∨ j = 48 ∨ j = 49 ∨ j = 50 by omega) with rfl | rfl | rfl | rfl | rfl | rfl | rfl | rfl | rfl | rfl | rfl | rfl | rfl | rfl | rfl | rfl | rfl | rfl | rfl | rfl | rfl | rfl | rfl | rfl | rfl | rfl | rfl | rfl | rfl | rfl | rfl | rfl | rfl | rfl | rfl | rfl | rfl | rfl | rfl | rfl | rfl | rfl | rfl | rfl | rfl | rfl | rfl | rfl | rfl | rfl | rfl <;> rfl) (Nat.le_of_ble_eq_true rfl) (Nat.le_of_ble_eq_true rfl) dL_8 (fun q8 H hP hD hS => ?_)
  refine W.widen (k := 211) (n := 13987) (by decide) (by decide) ?_
  refine lv_dup hx hb dL_11 rfl ?_
  refine cl_I (rest := [.ref q8]) ⟨hx, hb, hml, hown, ht0⟩ (c_X11_init l G q8 H.size F _ _ _ _ _ _ _ _ _ _ _ _ _ _ _ _ _ _ _ _ _ _ _ _ _ _ _ _ _ _ _ _ _ hf1 hf2 hf3) ykN_X11_init wd_1258 ⟨rfl, rfl, Nat.le_of_ble_eq_true rfl, Nat.le_of_ble_eq_true rfl⟩ ⟨Nat.le_of_ble_eq_true rfl, Nat.le_of_ble_eq_true rfl⟩ hXF hO hK hP hD hS hA hl.1 (Nat.le_of_ble_eq_true rfl) dL_12 (fun ma H locs hP hD hS => ?_)
  refine W.widen (k := 236) (n := 19381) (by decide) (by decide) ?_
  refine lv_astore_n (lv' := [(2, .ref q8), (1, .ref q0), (0, .ref b)]) hx hb dL_15 rfl hl (by decide) rfl (fun ls hl => ?_)
  refine lv_iconst (v := 0) hx hb dL_16 (by decide) ?_
  refine lv_istore_n (lv' := [(3, .int 0), (2, .ref q8), (1, .ref q0), (0, .ref b)]) hx hb dL_17 rfl hl (by decide) rfl (fun ls hl => ?_)
  rw [List.nil_append] at hP hD
  unfold wN_X10 wN_X11 at hP hD
  have hP := hP.perm pfr3
  have hD := hD.perm pfr3
  exact law_loop ⟨C0, hL, hN, hT, hK⟩ (L + 1) 0 H locs ls (by omega) (by omega) ⟨caH q0 u.1, _, _, _, _, q8, ma, _, _, u.2, _, hP, hD, hS, inv_start hMB hSX LT_letF rfl rfl rfl rfl rfl rfl rfl rfl rfl rfl rfl y0 y1, lv_sub hl [3, 2, 1, 0] rfl⟩
