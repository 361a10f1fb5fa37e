theorem dX10_feed_0 : decode cX10_feed 0 = .ok (.aload_n 0, 1) := by decide +kernel
theorem dX10_feed_1 : decode cX10_feed 1 = .ok (.getfield 20, 3) := by decide +kernel
theorem dX10_feed_4 : decode cX10_feed 4 = .ok (.invokevirtual 103, 3) := by decide +kernel
theorem dX10_feed_7 : decode cX10_feed 7 = .ok (.ifCond .ne 5, 3) := by decide +kernel
theorem dX10_feed_10 : decode cX10_feed 10 = .ok (.iconst (-1), 1) := by decide +kernel
theorem dX10_feed_11 : decode cX10_feed 11 = .ok (.ireturn, 1) := by decide +kernel
theorem dX10_feed_12 : decode cX10_feed 12 = .ok (.aload_n 0, 1) := by decide +kernel
theorem dX10_feed_13 : decode cX10_feed 13 = .ok (.getfield 20, 3) := by decide +kernel
theorem dX10_feed_16 : decode cX10_feed 16 = .ok (.iload_n 1, 1) := by decide +kernel
theorem dX10_feed_17 : decode cX10_feed 17 = .ok (.invokevirtual 109, 3) := by decide +kernel
theorem dX10_feed_20 : decode cX10_feed 20 = .ok (.aload_n 0, 1) := by decide +kernel
theorem dX10_feed_21 : decode cX10_feed 21 = .ok (.getfield 20, 3) := by decide +kernel
theorem dX10_feed_24 : decode cX10_feed 24 = .ok (.iload_n 2, 1) := by decide +kernel
theorem dX10_feed_25 : decode cX10_feed 25 = .ok (.invokevirtual 109, 3) := by decide +kernel
theorem dX10_feed_28 : decode cX10_feed 28 = .ok (.aload_n 0, 1) := by decide +kernel
theorem dX10_feed_29 : decode cX10_feed 29 = .ok (.getfield 20, 3) := by decide +kernel
theorem dX10_feed_32 : decode cX10_feed 32 = .ok (.iload_n 3, 1) := by decide +kernel
theorem dX10_feed_33 : decode cX10_feed 33 = .ok (.invokevirtual 109, 3) := by decide +kernel
theorem dX10_feed_36 : decode cX10_feed 36 = .ok (.aload_n 0, 1) := by decide +kernel
theorem dX10_feed_37 : decode cX10_feed 37 = .ok (.getfield 20, 3) := by decide +kernel
theorem dX10_feed_40 : decode cX10_feed 40 = .ok (.iload 4, 2) := by decide +kernel
theorem dX10_feed_42 : decode cX10_feed 42 = .ok (.invokevirtual 109, 3) := by decide +kernel
theorem dX10_feed_45 : decode cX10_feed 45 = .ok (.aload_n 0, 1) := by decide +kernel
theorem dX10_feed_46 : decode cX10_feed 46 = .ok (.getfield 20, 3) := by decide +kernel
theorem dX10_feed_49 : decode cX10_feed 49 = .ok (.iload 5, 2) := by decide +kernel
theorem dX10_feed_51 : decode cX10_feed 51 = .ok (.invokevirtual 109, 3) := by decide +kernel
theorem dX10_feed_54 : decode cX10_feed 54 = .ok (.aload_n 0, 1) := by decide +kernel
theorem dX10_feed_55 : decode cX10_feed 55 = .ok (.getfield 20, 3) := by decide +kernel
theorem dX10_feed_58 : decode cX10_feed 58 = .ok (.getfield 113, 3) := by decide +kernel
theorem dX10_feed_61 : decode cX10_feed 61 = .ok (.ireturn, 1) := by decide +kernel
def wW_X10_feed (G : GG) (h0 h1 h2 y0_1 y0_2 y0_3 y0_4 y0_5 y0_6 y0_7 y0_8 y0_9 y0_10 : Nat) (x0_11 : Int32) (x0_12 : Int32) (x1_1 : Int32) (a2 : Nat → Int32) : va_W := [(h0, .inr (10, [.ref h1, .ref y0_1, .ref y0_2, .ref y0_3, .ref y0_4, .ref y0_5, .ref y0_6, .ref y0_7, .ref y0_8, .ref y0_9, .ref y0_10, .int x0_11, .int x0_12])), (h1, .inr (7, [.ref h2, .int x1_1])), (h2, .inl (G.2.1, 600, .inl a2))]
set_option maxHeartbeats 4000000 in
set_option maxRecDepth 100000 in
theorem c_X10_feed (l : Launch) (G : GG) (h0 h1 h2 y0_1 y0_2 y0_3 y0_4 y0_5 y0_6 y0_7 y0_8 y0_9 y0_10 : Nat) (sz : Nat) (x0_11 : Int32) (x0_12 : Int32) (x1_1 : Int32) (a2 : Nat → Int32) (F : Nat) (b1 : Int32) (b2 : Int32) (b3 : Int32) (b4 : Int32) (b5 : Int32)  (r0 : Int32) (e_x1_1 : Int32) (e_a2 : Nat → Int32) (hf : p_X10_feed F x1_1 a2 b1 b2 b3 b4 b5 = some (r0, e_x1_1, e_a2)) : Met l yX10_feed (.code yX10_feed cX10_feed 6 (some .int) :: gtbl) ({ frames := 1, cells := 0, slots := 0, locals := 22 } : Room) (PcS G [.ref h0, .int b1, .int b2, .int b3, .int b4, .int b5] (wW_X10_feed G h0 h1 h2 y0_1 y0_2 y0_3 y0_4 y0_5 y0_6 y0_7 y0_8 y0_9 y0_10 x0_11 x0_12 x1_1 a2) sz) (QiS G r0 (va_A (wW_X10_feed G h0 h1 h2 y0_1 y0_2 y0_3 y0_4 y0_5 y0_6 y0_7 y0_8 y0_9 y0_10 x0_11 x0_12 x1_1 a2) sz) (wW_X10_feed G h0 h1 h2 y0_1 y0_2 y0_3 y0_4 y0_5 y0_6 y0_7 y0_8 y0_9 y0_10 x0_11 x0_12 e_x1_1 e_a2)) 0 0 (va_A (wW_X10_feed G h0 h1 h2 y0_1 y0_2 y0_3 y0_4 y0_5 y0_6 y0_7 y0_8 y0_9 y0_10 x0_11 x0_12 x1_1 a2) sz) := by
  refine met_start (by decide) (Nat.le_of_ble_eq_true rfl) ?_
  intro p e s m below meth c hC hr hlk hnm hK hP hD hA hS hX ls hl
  obtain ⟨hx, hb, hml, hown, ht0⟩ := hC
  have hown : s.vm.findClass RX10 = some m.cls := hown
  generalize va_A (wW_X10_feed G h0 h1 h2 y0_1 y0_2 y0_3 y0_4 y0_5 y0_6 y0_7 y0_8 y0_9 y0_10 x0_11 x0_12 x1_1 a2) sz = A at hD hA hS hX ⊢
  have hl : lv_has ls 6 [(0, .ref h0), (1, .int b1), (2, .int b2), (3, .int b3), (4, .int b4), (5, .int b5)] := hl
  have hf : p_X10_feed F x1_1 a2 b1 b2 b3 b4 b5 = some (r0, e_x1_1, e_a2) := hf
  refine lv_aload_n hx hb dX10_feed_0 rfl (lv_at hl 0 rfl) ?_
  refine va_get (ci := 10) (v := .ref h1) (C := RX10) (T := TX10) (N := 13) hx hb ht0 iX10 hown hK hP 0 rfl rfl 0 (by decide) (ht0 _ wd_540) (fun _ h9 => h9) rfl dX10_feed_1 ?_
  obtain ⟨r_4_0, hc_r_4_0, hf⟩ := of_bnd hf
  refine cl_Vi (w2 := (wW_X10_feed G h0 h1 h2 y0_1 y0_2 y0_3 y0_4 y0_5 y0_6 y0_7 y0_8 y0_9 y0_10 x0_11 x0_12 x1_1 a2)) (As := []) (rest := []) ⟨hx, hb, hml, hown, ht0⟩ (c_X7_hasRoomForFive l G h1 h2 _ x1_1 F _ hc_r_4_0) yk_X7_hasRoomForFive wd_584 ⟨rfl, rfl, by decide, by decide⟩ ⟨Nat.le_refl _, Nat.le_refl _⟩ hX hK hP hD hS hA [1] [0, 2] [0, 2, 1] (va_recv hK hP (ci := 7) (q0 := 1) rfl rfl) rfl rfl (by decide) rfl rfl rfl rfl rfl hl.1 rfl (Nat.le_of_ble_eq_true rfl) dX10_feed_4 (fun H locs hP hD hS => ?_)
  refine lv_if_ne (tgt := 12) hx hb dX10_feed_7 (by decide) (fun c2 => ?_) (fun c2 => ?_)
  · have hf := of_neg hf c2
    refine lv_aload_n hx hb dX10_feed_12 rfl (lv_at hl 0 rfl) ?_
    refine va_get (ci := 10) (v := .ref h1) (C := RX10) (T := TX10) (N := 13) hx hb ht0 iX10 hown hK hP 0 rfl rfl 0 (by decide) (ht0 _ wd_540) (fun _ h9 => h9) rfl dX10_feed_13 ?_
    refine lv_iload_n hx hb dX10_feed_16 rfl (lv_at hl 1 rfl) ?_
    obtain ⟨⟨r_17_2_x0_1, r_17_2_a1⟩, hc_r_17_2, hf⟩ := of_bnd hf
    refine cl_Vv (w2 := (wW_X10_feed G h0 h1 h2 y0_1 y0_2 y0_3 y0_4 y0_5 y0_6 y0_7 y0_8 y0_9 y0_10 x0_11 x0_12 r_17_2_x0_1 r_17_2_a1)) (As := [.int b1]) (rest := []) ⟨hx, hb, hml, hown, ht0⟩ (c_X7_put l G h1 h2 _ x1_1 a2 F b1 _ _ hc_r_17_2) yk_X7_put wd_588 ⟨rfl, rfl, by decide, by decide⟩ ⟨Nat.le_refl _, Nat.le_refl _⟩ hX hK hP hD hS hA [1, 2] [0] [0, 1, 2] (va_recv hK hP (ci := 7) (q0 := 1) rfl rfl) rfl rfl (by decide) rfl rfl rfl rfl rfl hl.1 rfl (Nat.le_of_ble_eq_true rfl) dX10_feed_17 (fun H locs hP hD hS => ?_)
    refine lv_aload_n hx hb dX10_feed_20 rfl (lv_at hl 0 rfl) ?_
    refine va_get (ci := 10) (v := .ref h1) (C := RX10) (T := TX10) (N := 13) hx hb ht0 iX10 hown hK hP 0 rfl rfl 0 (by decide) (ht0 _ wd_540) (fun _ h9 => h9) rfl dX10_feed_21 ?_
    refine lv_iload_n hx hb dX10_feed_24 rfl (lv_at hl 2 rfl) ?_
    obtain ⟨⟨r_25_3_x0_1, r_25_3_a1⟩, hc_r_25_3, hf⟩ := of_bnd hf
    refine cl_Vv (w2 := (wW_X10_feed G h0 h1 h2 y0_1 y0_2 y0_3 y0_4 y0_5 y0_6 y0_7 y0_8 y0_9 y0_10 x0_11 x0_12 r_25_3_x0_1 r_25_3_a1)) (As := [.int b2]) (rest := []) ⟨hx, hb, hml, hown, ht0⟩ (c_X7_put l G h1 h2 _ r_17_2_x0_1 r_17_2_a1 F b2 _ _ hc_r_25_3) yk_X7_put wd_588 ⟨rfl, rfl, by decide, by decide⟩ ⟨Nat.le_refl _, Nat.le_refl _⟩ hX hK hP hD hS hA [1, 2] [0] [0, 1, 2] (va_recv hK hP (ci := 7) (q0 := 1) rfl rfl) rfl rfl (by decide) rfl rfl rfl rfl rfl hl.1 rfl (Nat.le_of_ble_eq_true rfl) dX10_feed_25 (fun H locs hP hD hS => ?_)
    refine lv_aload_n hx hb dX10_feed_28 rfl (lv_at hl 0 rfl) ?_
    refine va_get (ci := 10) (v := .ref h1) (C := RX10) (T := TX10) (N := 13) hx hb ht0 iX10 hown hK hP 0 rfl rfl 0 (by decide) (ht0 _ wd_540) (fun _ h9 => h9) rfl dX10_feed_29 ?_
    refine lv_iload_n hx hb dX10_feed_32 rfl (lv_at hl 3 rfl) ?_
    obtain ⟨⟨r_33_4_x0_1, r_33_4_a1⟩, hc_r_33_4, hf⟩ := of_bnd hf
    refine cl_Vv (w2 := (wW_X10_feed G h0 h1 h2 y0_1 y0_2 y0_3 y0_4 y0_5 y0_6 y0_7 y0_8 y0_9 y0_10 x0_11 x0_12 r_33_4_x0_1 r_33_4_a1)) (As := [.int b3]) (rest := []) ⟨hx, hb, hml, hown, ht0⟩ (c_X7_put l G h1 h2 _ r_25_3_x0_1 r_25_3_a1 F b3 _ _ hc_r_33_4) yk_X7_put wd_588 ⟨rfl, rfl, by decide, by decide⟩ ⟨Nat.le_refl _, Nat.le_refl _⟩ hX hK hP hD hS hA [1, 2] [0] [0, 1, 2] (va_recv hK hP (ci := 7) (q0 := 1) rfl rfl) rfl rfl (by decide) rfl rfl rfl rfl rfl hl.1 rfl (Nat.le_of_ble_eq_true rfl) dX10_feed_33 (fun H locs hP hD hS => ?_)
    refine lv_aload_n hx hb dX10_feed_36 rfl (lv_at hl 0 rfl) ?_
    refine va_get (ci := 10) (v := .ref h1) (C := RX10) (T := TX10) (N := 13) hx hb ht0 iX10 hown hK hP 0 rfl rfl 0 (by decide) (ht0 _ wd_540) (fun _ h9 => h9) rfl dX10_feed_37 ?_
    refine lv_iload hx hb dX10_feed_40 (lv_at hl 4 rfl) ?_
    obtain ⟨⟨r_42_5_x0_1, r_42_5_a1⟩, hc_r_42_5, hf⟩ := of_bnd hf
    refine cl_Vv (w2 := (wW_X10_feed G h0 h1 h2 y0_1 y0_2 y0_3 y0_4 y0_5 y0_6 y0_7 y0_8 y0_9 y0_10 x0_11 x0_12 r_42_5_x0_1 r_42_5_a1)) (As := [.int b4]) (rest := []) ⟨hx, hb, hml, hown, ht0⟩ (c_X7_put l G h1 h2 _ r_33_4_x0_1 r_33_4_a1 F b4 _ _ hc_r_42_5) yk_X7_put wd_588 ⟨rfl, rfl, by decide, by decide⟩ ⟨Nat.le_refl _, Nat.le_refl _⟩ hX hK hP hD hS hA [1, 2] [0] [0, 1, 2] (va_recv hK hP (ci := 7) (q0 := 1) rfl rfl) rfl rfl (by decide) rfl rfl rfl rfl rfl hl.1 rfl (Nat.le_of_ble_eq_true rfl) dX10_feed_42 (fun H locs hP hD hS => ?_)
    refine lv_aload_n hx hb dX10_feed_45 rfl (lv_at hl 0 rfl) ?_
    refine va_get (ci := 10) (v := .ref h1) (C := RX10) (T := TX10) (N := 13) hx hb ht0 iX10 hown hK hP 0 rfl rfl 0 (by decide) (ht0 _ wd_540) (fun _ h9 => h9) rfl dX10_feed_46 ?_
    refine lv_iload hx hb dX10_feed_49 (lv_at hl 5 rfl) ?_
    obtain ⟨⟨r_51_6_x0_1, r_51_6_a1⟩, hc_r_51_6, hf⟩ := of_bnd hf
    refine cl_Vv (w2 := (wW_X10_feed G h0 h1 h2 y0_1 y0_2 y0_3 y0_4 y0_5 y0_6 y0_7 y0_8 y0_9 y0_10 x0_11 x0_12 r_51_6_x0_1 r_51_6_a1)) (As := [.int b5]) (rest := []) ⟨hx, hb, hml, hown, ht0⟩ (c_X7_put l G h1 h2 _ r_42_5_x0_1 r_42_5_a1 F b5 _ _ hc_r_51_6) yk_X7_put wd_588 ⟨rfl, rfl, by decide, by decide⟩ ⟨Nat.le_refl _, Nat.le_refl _⟩ hX hK hP hD hS hA [1, 2] [0] [0, 1, 2] (va_recv hK hP (ci := 7) (q0 := 1) rfl rfl) rfl rfl (by decide) rfl rfl rfl rfl rfl hl.1 rfl (Nat.le_of_ble_eq_true rfl) dX10_feed_51 (fun H locs hP hD hS => ?_)
    refine lv_aload_n hx hb dX10_feed_54 rfl (lv_at hl 0 rfl) ?_
    refine va_get (ci := 10) (v := .ref h1) (C := RX10) (T := TX10) (N := 13) hx hb ht0 iX10 hown hK hP 0 rfl rfl 0 (by decide) (ht0 _ wd_540) (fun _ h9 => h9) rfl dX10_feed_55 ?_
    refine va_get (ci := 7) (v := .int r_51_6_x0_1) (C := RX7) (T := TX7) (N := 2) hx hb ht0 iX7 hown hK hP 1 rfl rfl 1 (by decide) (ht0 _ wd_169) (fun _ h9 => h9) rfl dX10_feed_58 ?_
    cases hf
    exact ret_i hx hb hr hlk hK hP hD hS dX10_feed_61
  · have hf := of_pos hf c2
    refine lv_iconst (v := (-1 : Int32)) hx hb dX10_feed_10 (by decide) ?_
    cases hf
    exact ret_i hx hb hr hlk hK hP hD hS dX10_feed_11
theorem yk_X10_feed : ykV yX10_feed RX10 cX10_feed 6 (some .int) 5 := ⟨wd_581, wd_582, wd_127, wd_583, rfl, by decide +kernel, by decide +kernel, by decide +kernel⟩
theorem dX10_end_0 : decode cX10_end 0 = .ok (.iload_n 1, 1) := by decide +kernel
theorem dX10_end_1 : decode cX10_end 1 = .ok (.ifCond .lt 14, 3) := by decide +kernel
theorem dX10_end_4 : decode cX10_end 4 = .ok (.iload_n 1, 1) := by decide +kernel
theorem dX10_end_5 : decode cX10_end 5 = .ok (.aload_n 0, 1) := by decide +kernel
theorem dX10_end_6 : decode cX10_end 6 = .ok (.getfield 20, 3) := by decide +kernel
theorem dX10_end_9 : decode cX10_end 9 = .ok (.getfield 113, 3) := by decide +kernel
theorem dX10_end_12 : decode cX10_end 12 = .ok (.if_icmp .le 5, 3) := by decide +kernel
theorem dX10_end_15 : decode cX10_end 15 = .ok (.iconst (-1), 1) := by decide +kernel
theorem dX10_end_16 : decode cX10_end 16 = .ok (.ireturn, 1) := by decide +kernel
theorem dX10_end_17 : decode cX10_end 17 = .ok (.aload_n 0, 1) := by decide +kernel
theorem dX10_end_18 : decode cX10_end 18 = .ok (.getfield 20, 3) := by decide +kernel
theorem dX10_end_21 : decode cX10_end 21 = .ok (.iload_n 1, 1) := by decide +kernel
theorem dX10_end_22 : decode cX10_end 22 = .ok (.putfield 113, 3) := by decide +kernel
theorem dX10_end_25 : decode cX10_end 25 = .ok (.iload_n 1, 1) := by decide +kernel
theorem dX10_end_26 : decode cX10_end 26 = .ok (.ireturn, 1) := by decide +kernel
def wW_X10_end (G : GG) (h0 h1 y0_1 y0_2 y0_3 y0_4 y0_5 y0_6 y0_7 y0_8 y0_9 y0_10 y1_0 : Nat) (x0_11 : Int32) (x0_12 : Int32) (x1_1 : Int32) : va_W := [(h0, .inr (10, [.ref h1, .ref y0_1, .ref y0_2, .ref y0_3, .ref y0_4, .ref y0_5, .ref y0_6, .ref y0_7, .ref y0_8, .ref y0_9, .ref y0_10, .int x0_11, .int x0_12])), (h1, .inr (7, [.ref y1_0, .int x1_1]))]
set_option maxHeartbeats 4000000 in
set_option maxRecDepth 100000 in
theorem c_X10_end (l : Launch) (G : GG) (h0 h1 y0_1 y0_2 y0_3 y0_4 y0_5 y0_6 y0_7 y0_8 y0_9 y0_10 y1_0 : Nat) (sz : Nat) (x0_11 : Int32) (x0_12 : Int32) (x1_1 : Int32) (F : Nat) (b1 : Int32)  (r0 : Int32) (e_x1_1 : Int32) (hf : p_X10_end F x1_1 b1 = some (r0, e_x1_1)) : Met l yX10_end (.code yX10_end cX10_end 2 (some .int) :: gtbl) ({ frames := 0, cells := 0, slots := 0, locals := 0 } : Room) (PcS G [.ref h0, .int b1] (wW_X10_end G h0 h1 y0_1 y0_2 y0_3 y0_4 y0_5 y0_6 y0_7 y0_8 y0_9 y0_10 y1_0 x0_11 x0_12 x1_1) sz) (QiS G r0 (va_A (wW_X10_end G h0 h1 y0_1 y0_2 y0_3 y0_4 y0_5 y0_6 y0_7 y0_8 y0_9 y0_10 y1_0 x0_11 x0_12 x1_1) sz) (wW_X10_end G h0 h1 y0_1 y0_2 y0_3 y0_4 y0_5 y0_6 y0_7 y0_8 y0_9 y0_10 y1_0 x0_11 x0_12 e_x1_1)) 0 0 (va_A (wW_X10_end G h0 h1 y0_1 y0_2 y0_3 y0_4 y0_5 y0_6 y0_7 y0_8 y0_9 y0_10 y1_0 x0_11 x0_12 x1_1) sz) := by
  refine met_start (by decide) (Nat.le_of_ble_eq_true rfl) ?_
  intro p e s m below meth c hC hr hlk hnm hK hP hD hA hS hX ls hl
  obtain ⟨hx, hb, hml, hown, ht0⟩ := hC
  have hown : s.vm.findClass RX10 = some m.cls := hown
  generalize va_A (wW_X10_end G h0 h1 y0_1 y0_2 y0_3 y0_4 y0_5 y0_6 y0_7 y0_8 y0_9 y0_10 y1_0 x0_11 x0_12 x1_1) sz = A at hD hA hS hX ⊢
  have hl : lv_has ls 2 [(0, .ref h0), (1, .int b1)] := hl
  have hf : p_X10_end F x1_1 b1 = some (r0, e_x1_1) := hf
  refine lv_iload_n hx hb dX10_end_0 rfl (lv_at hl 1 rfl) ?_
  refine lv_if_lt (tgt := 15) hx hb dX10_end_1 (by decide) (fun c1 => ?_) (fun c1 => ?_)
  · have hf := of_pos hf c1
    refine lv_iconst (v := (-1 : Int32)) hx hb dX10_end_15 (by decide) ?_
    cases hf
    exact ret_i hx hb hr hlk hK hP hD hS dX10_end_16
  · have hf := of_neg hf c1
    refine lv_iload_n hx hb dX10_end_4 rfl (lv_at hl 1 rfl) ?_
    refine lv_aload_n hx hb dX10_end_5 rfl (lv_at hl 0 rfl) ?_
    refine va_get (ci := 10) (v := .ref h1) (C := RX10) (T := TX10) (N := 13) hx hb ht0 iX10 hown hK hP 0 rfl rfl 0 (by decide) (ht0 _ wd_540) (fun _ h9 => h9) rfl dX10_end_6 ?_
    refine va_get (ci := 7) (v := .int x1_1) (C := RX7) (T := TX7) (N := 2) hx hb ht0 iX7 hown hK hP 1 rfl rfl 1 (by decide) (ht0 _ wd_169) (fun _ h9 => h9) rfl dX10_end_9 ?_
    refine lv_icmp_le (tgt := 17) hx hb dX10_end_12 (by decide) (fun c2 => ?_) (fun c2 => ?_)
    · have hf := of_pos hf c2
      refine lv_aload_n hx hb dX10_end_17 rfl (lv_at hl 0 rfl) ?_
      refine va_get (ci := 10) (v := .ref h1) (C := RX10) (T := TX10) (N := 13) hx hb ht0 iX10 hown hK hP 0 rfl rfl 0 (by decide) (ht0 _ wd_540) (fun _ h9 => h9) rfl dX10_end_18 ?_
      refine lv_iload_n hx hb dX10_end_21 rfl (lv_at hl 1 rfl) ?_
      refine va_put (ci := 7) (v := .int b1) (ty := .int) (C := RX7) (T := TX7) (N := 2) hx hb ht0 iX7 tyX7 tyX7_ok nmX7 hown hK hP hD hS 1 rfl rfl 1 (by decide) (ht0 _ wd_169) (fun _ h9 => h9) rfl rfl rfl rfl (Nat.le_of_ble_eq_true rfl) dX10_end_22 (fun H locs hP hD hS => ?_)
      have hP : va_P G.1 vwCl (wW_X10_end G h0 h1 y0_1 y0_2 y0_3 y0_4 y0_5 y0_6 y0_7 y0_8 y0_9 y0_10 y1_0 x0_11 x0_12 b1) H := hP
      have hD : va_D A (wW_X10_end G h0 h1 y0_1 y0_2 y0_3 y0_4 y0_5 y0_6 y0_7 y0_8 y0_9 y0_10 y1_0 x0_11 x0_12 b1) := hD
      refine lv_iload_n hx hb dX10_end_25 rfl (lv_at hl 1 rfl) ?_
      cases hf
      exact ret_i hx hb hr hlk hK hP hD hS dX10_end_26
    · have hf := of_neg hf c2
      refine lv_iconst (v := (-1 : Int32)) hx hb dX10_end_15 (by decide) ?_
      cases hf
      exact ret_i hx hb hr hlk hK hP hD hS dX10_end_16
theorem yk_X10_end : ykV yX10_end RX10 cX10_end 2 (some .int) 1 := ⟨wd_593, wd_594, wd_127, wd_595, rfl, by decide +kernel, by decide +kernel, by decide +kernel⟩
theorem dX10_code_0 : decode cX10_code 0 = .ok (.aload_n 0, 1) := by decide +kernel
theorem dX10_code_1 : decode cX10_code 1 = .ok (.getfield 10, 3) := by decide +kernel
theorem dX10_code_4 : decode cX10_code 4 = .ok (.invokevirtual 116, 3) := by decide +kernel
theorem dX10_code_7 : decode cX10_code 7 = .ok (.istore_n 1, 1) := by decide +kernel
theorem dX10_code_8 : decode cX10_code 8 = .ok (.aload_n 0, 1) := by decide +kernel
theorem dX10_code_9 : decode cX10_code 9 = .ok (.getfield 20, 3) := by decide +kernel
theorem dX10_code_12 : decode cX10_code 12 = .ok (.iconst 0, 1) := by decide +kernel
theorem dX10_code_13 : decode cX10_code 13 = .ok (.putfield 113, 3) := by decide +kernel
theorem dX10_code_16 : decode cX10_code 16 = .ok (.aload_n 0, 1) := by decide +kernel
theorem dX10_code_17 : decode cX10_code 17 = .ok (.aload_n 0, 1) := by decide +kernel
theorem dX10_code_18 : decode cX10_code 18 = .ok (.getfield 10, 3) := by decide +kernel
theorem dX10_code_21 : decode cX10_code 21 = .ok (.getfield 119, 3) := by decide +kernel
theorem dX10_code_24 : decode cX10_code 24 = .ok (.putfield 79, 3) := by decide +kernel
theorem dX10_code_27 : decode cX10_code 27 = .ok (.aload_n 0, 1) := by decide +kernel
theorem dX10_code_28 : decode cX10_code 28 = .ok (.aload_n 0, 1) := by decide +kernel
theorem dX10_code_29 : decode cX10_code 29 = .ok (.getfield 10, 3) := by decide +kernel
theorem dX10_code_32 : decode cX10_code 32 = .ok (.getfield 120, 3) := by decide +kernel
theorem dX10_code_35 : decode cX10_code 35 = .ok (.putfield 83, 3) := by decide +kernel
theorem dX10_code_38 : decode cX10_code 38 = .ok (.iload_n 1, 1) := by decide +kernel
theorem dX10_code_39 : decode cX10_code 39 = .ok (.ifCond .ne 5, 3) := by decide +kernel
theorem dX10_code_42 : decode cX10_code 42 = .ok (.iconst (-1), 1) := by decide +kernel
theorem dX10_code_43 : decode cX10_code 43 = .ok (.ireturn, 1) := by decide +kernel
theorem dX10_code_44 : decode cX10_code 44 = .ok (.aload_n 0, 1) := by decide +kernel
theorem dX10_code_45 : decode cX10_code 45 = .ok (.getfield 29, 3) := by decide +kernel
theorem dX10_code_48 : decode cX10_code 48 = .ok (.invokevirtual 121, 3) := by decide +kernel
theorem dX10_code_51 : decode cX10_code 51 = .ok (.aload_n 0, 1) := by decide +kernel
theorem dX10_code_52 : decode cX10_code 52 = .ok (.getfield 29, 3) := by decide +kernel
theorem dX10_code_55 : decode cX10_code 55 = .ok (.invokevirtual 92, 3) := by decide +kernel
theorem dX10_code_58 : decode cX10_code 58 = .ok (.astore_n 2, 1) := by decide +kernel
theorem dX10_code_59 : decode cX10_code 59 = .ok (.aload_n 2, 1) := by decide +kernel
theorem dX10_code_60 : decode cX10_code 60 = .ok (.getfield 96, 3) := by decide +kernel
theorem dX10_code_63 : decode cX10_code 63 = .ok (.aload_n 0, 1) := by decide +kernel
theorem dX10_code_64 : decode cX10_code 64 = .ok (.getfield 10, 3) := by decide +kernel
theorem dX10_code_67 : decode cX10_code 67 = .ok (.getfield 124, 3) := by decide +kernel
theorem dX10_code_70 : decode cX10_code 70 = .ok (.invokevirtual 99, 3) := by decide +kernel
theorem dX10_code_73 : decode cX10_code 73 = .ok (.aload_n 2, 1) := by decide +kernel
theorem dX10_code_74 : decode cX10_code 74 = .ok (.getfield 125, 3) := by decide +kernel
theorem dX10_code_77 : decode cX10_code 77 = .ok (.aload_n 2, 1) := by decide +kernel
theorem dX10_code_78 : decode cX10_code 78 = .ok (.getfield 96, 3) := by decide +kernel
theorem dX10_code_81 : decode cX10_code 81 = .ok (.aload_n 0, 1) := by decide +kernel
theorem dX10_code_82 : decode cX10_code 82 = .ok (.getfield 10, 3) := by decide +kernel
theorem dX10_code_85 : decode cX10_code 85 = .ok (.getfield 128, 3) := by decide +kernel
theorem dX10_code_88 : decode cX10_code 88 = .ok (.invokevirtual 132, 3) := by decide +kernel
theorem dX10_code_91 : decode cX10_code 91 = .ok (.aload_n 0, 1) := by decide +kernel
theorem dX10_code_92 : decode cX10_code 92 = .ok (.getfield 40, 3) := by decide +kernel
theorem dX10_code_95 : decode cX10_code 95 = .ok (.iconst 0, 1) := by decide +kernel
theorem dX10_code_96 : decode cX10_code 96 = .ok (.iconst 0, 1) := by decide +kernel
theorem dX10_code_97 : decode cX10_code 97 = .ok (.bastore, 1) := by decide +kernel
theorem dX10_code_98 : decode cX10_code 98 = .ok (.aload_n 0, 1) := by decide +kernel
theorem dX10_code_99 : decode cX10_code 99 = .ok (.getfield 40, 3) := by decide +kernel
theorem dX10_code_102 : decode cX10_code 102 = .ok (.iconst 1, 1) := by decide +kernel
theorem dX10_code_103 : decode cX10_code 103 = .ok (.iconst 0, 1) := by decide +kernel
theorem dX10_code_104 : decode cX10_code 104 = .ok (.bastore, 1) := by decide +kernel
theorem dX10_code_105 : decode cX10_code 105 = .ok (.aload_n 2, 1) := by decide +kernel
theorem dX10_code_106 : decode cX10_code 106 = .ok (.getfield 96, 3) := by decide +kernel
theorem dX10_code_109 : decode cX10_code 109 = .ok (.invokevirtual 136, 3) := by decide +kernel
theorem dX10_code_112 : decode cX10_code 112 = .ok (.ireturn, 1) := by decide +kernel
def wW_X10_code (G : GG) (h0 h1 h2 h3 h4 h5 h6 h7 h8 h9 h10 h11 h12 h13 h14 h15 h16 h17 h18 h19 h20 h21 h22 h23 h24 h25 h26 h27 y0_4 y0_6 y0_7 y0_8 y0_9 y0_10 : Nat) (x0_11 : Int32) (x0_12 : Int32) (x1_4 : Int32) (x1_5 : Int32) (x1_6 : Int32) (x1_7 : Int32) (x1_8 : Int32) (x1_9 : Int32) (x1_10 : Int32) (x1_11 : Int32) (x1_12 : Int32) (x1_13 : Int32) (x1_14 : Int32) (x2_1 : Int32) (a3 : Nat → Int32) (x4_1 : Int32) (a5 : Nat → Int32) (a6 : Nat → Int32) (a7 : Nat → Int32) (a8 : Nat → Int32) (a9 : Nat → Int32) (x10_0 : Int32) (x10_1 : Int32) (x10_2 : Int32) (a11 : Nat → Int32) (a12 : Nat → Int32) (a13 : Nat → Int32) (a14 : Nat → Int32) (x15_1 : Int32) (x15_2 : Int32) (a16 : Nat → Option Nat) (a17 : Nat → Int32) (x18_0 : Int32) (x18_1 : Int32) (x18_2 : Int32) (a19 : Nat → Int32) (a20 : Nat → Int32) (a21 : Nat → Int32) (a23 : Nat → Int32) (a24 : Nat → Int32) (a25 : Nat → Int32) (a26 : Nat → Int32) (a27 : Nat → Int32) : va_W := [(h0, .inr (10, [.ref h2, .ref h1, .ref h4, .ref h15, .ref y0_4, .ref h17, .ref y0_6, .ref y0_7, .ref y0_8, .ref y0_9, .ref y0_10, .int x0_11, .int x0_12])), (h1, .inr (3, [.ref h2, .ref h4, .ref h10, .ref h14, .int x1_4, .int x1_5, .int x1_6, .int x1_7, .int x1_8, .int x1_9, .int x1_10, .int x1_11, .int x1_12, .int x1_13, .int x1_14])), (h2, .inr (7, [.ref h3, .int x2_1])), (h3, .inl (G.2.1, 600, .inl a3)), (h4, .inr (0, [.ref h5, .int x4_1, .ref h6, .ref h7, .ref h8, .ref h9])), (h5, .inl (G.2.1, 256, .inl a5)), (h6, .inl (G.2.2.1, 256, .inl a6)), (h7, .inl (G.2.2.1, 256, .inl a7)), (h8, .inl (G.2.1, 24, .inl a8)), (h9, .inl (G.2.1, 8, .inl a9)), (h10, .inr (1, [.int x10_0, .int x10_1, .int x10_2, .ref h11, .ref h12, .ref h13])), (h11, .inl (G.2.1, 32, .inl a11)), (h12, .inl (G.2.1, 256, .inl a12)), (h13, .inl (G.2.1, 256, .inl a13)), (h14, .inl (G.2.1, 16, .inl a14)), (h15, .inr (8, [.ref h16, .int x15_1, .int x15_2])), (h16, .inl (G.2.2.2.2.1, 13, .inr (.inr (.inr (.inr a16))))), (h17, .inl (G.2.2.1, 2, .inl a17)), (h18, .inr (1, [.int x18_0, .int x18_1, .int x18_2, .ref h19, .ref h20, .ref h21])), (h19, .inl (G.2.1, 32, .inl a19)), (h20, .inl (G.2.1, 256, .inl a20)), (h21, .inl (G.2.1, 256, .inl a21)), (h22, .inr (9, [.ref h23, .ref h24, .ref h25, .ref h26, .ref h27])), (h23, .inl (G.2.1, 16, .inl a23)), (h24, .inl (G.2.1, 16, .inl a24)), (h25, .inl (G.2.1, 16, .inl a25)), (h26, .inl (G.2.1, 16, .inl a26)), (h27, .inl (G.2.1, 8, .inl a27))]
set_option maxHeartbeats 4000000 in
set_option maxRecDepth 100000 in
theorem c_X10_code (l : Launch) (G : GG) (h0 h1 h2 h3 h4 h5 h6 h7 h8 h9 h10 h11 h12 h13 h14 h15 h16 h17 h18 h19 h20 h21 h22 h23 h24 h25 h26 h27 y0_4 y0_6 y0_7 y0_8 y0_9 y0_10 g_cur g_fst y_fst_code y_fst_words : Nat) (sz : Nat) (x0_11 : Int32) (x0_12 : Int32) (x1_4 : Int32) (x1_5 : Int32) (x1_6 : Int32) (x1_7 : Int32) (x1_8 : Int32) (x1_9 : Int32) (x1_10 : Int32) (x1_11 : Int32) (x1_12 : Int32) (x1_13 : Int32) (x1_14 : Int32) (x2_1 : Int32) (a3 : Nat → Int32) (x4_1 : Int32) (a5 : Nat → Int32) (a6 : Nat → Int32) (a7 : Nat → Int32) (a8 : Nat → Int32) (a9 : Nat → Int32) (x10_0 : Int32) (x10_1 : Int32) (x10_2 : Int32) (a11 : Nat → Int32) (a12 : Nat → Int32) (a13 : Nat → Int32) (a14 : Nat → Int32) (x15_1 : Int32) (x15_2 : Int32) (a16 : Nat → Option Nat) (a17 : Nat → Int32) (x18_0 : Int32) (x18_1 : Int32) (x18_2 : Int32) (a19 : Nat → Int32) (a20 : Nat → Int32) (a21 : Nat → Int32) (a23 : Nat → Int32) (a24 : Nat → Int32) (a25 : Nat → Int32) (a26 : Nat → Int32) (a27 : Nat → Int32) (F : Nat)  (hq_cur : (g_cur, h18, h22) ∈ gS G) (hq_fst : (g_fst, y_fst_code, y_fst_words) ∈ gS G)  (r0 : Int32) (e_x0_11 : Int32) (e_x0_12 : Int32) (e_x1_4 : Int32) (e_x1_5 : Int32) (e_x1_6 : Int32) (e_x1_7 : Int32) (e_x1_8 : Int32) (e_x1_9 : Int32) (e_x1_10 : Int32) (e_x1_11 : Int32) (e_x1_12 : Int32) (e_x1_13 : Int32) (e_x1_14 : Int32) (e_x2_1 : Int32) (e_x4_1 : Int32) (e_a5 : Nat → Int32) (e_a6 : Nat → Int32) (e_a7 : Nat → Int32) (e_a8 : Nat → Int32) (e_a9 : Nat → Int32) (e_x10_0 : Int32) (e_x10_1 : Int32) (e_x10_2 : Int32) (e_a11 : Nat → Int32) (e_a12 : Nat → Int32) (e_a13 : Nat → Int32) (e_a14 : Nat → Int32) (e_x15_1 : Int32) (e_x15_2 : Int32) (e_a16 : Nat → Option Nat) (e_a17 : Nat → Int32) (e_x18_0 : Int32) (e_x18_1 : Int32) (e_x18_2 : Int32) (e_a19 : Nat → Int32) (e_a20 : Nat → Int32) (e_a21 : Nat → Int32) (e_a23 : Nat → Int32) (e_a24 : Nat → Int32) (e_a25 : Nat → Int32) (e_a26 : Nat → Int32) (e_a27 : Nat → Int32) (hf : p_X10_code F g_cur g_fst x0_11 x0_12 x1_4 x1_5 x1_6 x1_7 x1_8 x1_9 x1_10 x1_11 x1_12 x1_13 x1_14 x2_1 a3 x4_1 a5 a6 a7 a8 a9 x10_0 x10_1 x10_2 a11 a12 a13 a14 x15_1 x15_2 a16 a17 x18_0 x18_1 x18_2 a19 a20 a21 a23 a24 a25 a26 a27  = some (r0, e_x0_11, e_x0_12, e_x1_4, e_x1_5, e_x1_6, e_x1_7, e_x1_8, e_x1_9, e_x1_10, e_x1_11, e_x1_12, e_x1_13, e_x1_14, e_x2_1, e_x4_1, e_a5, e_a6, e_a7, e_a8, e_a9, e_x10_0, e_x10_1, e_x10_2, e_a11, e_a12, e_a13, e_a14, e_x15_1, e_x15_2, e_a16, e_a17, e_x18_0, e_x18_1, e_x18_2, e_a19, e_a20, e_a21, e_a23, e_a24, e_a25, e_a26, e_a27)) : Met l yX10_code (.code yX10_code cX10_code 3 (some .int) :: gtbl) ({ frames := 8, cells := 0, slots := 0, locals := 168 } : Room) (PcS G [.ref h0] (wW_X10_code G h0 h1 h2 h3 h4 h5 h6 h7 h8 h9 h10 h11 h12 h13 h14 h15 h16 h17 h18 h19 h20 h21 h22 h23 h24 h25 h26 h27 y0_4 y0_6 y0_7 y0_8 y0_9 y0_10 x0_11 x0_12 x1_4 x1_5 x1_6 x1_7 x1_8 x1_9 x1_10 x1_11 x1_12 x1_13 x1_14 x2_1 a3 x4_1 a5 a6 a7 a8 a9 x10_0 x10_1 x10_2 a11 a12 a13 a14 x15_1 x15_2 a16 a17 x18_0 x18_1 x18_2 a19 a20 a21 a23 a24 a25 a26 a27) sz) (QiS G r0 (va_A (wW_X10_code G h0 h1 h2 h3 h4 h5 h6 h7 h8 h9 h10 h11 h12 h13 h14 h15 h16 h17 h18 h19 h20 h21 h22 h23 h24 h25 h26 h27 y0_4 y0_6 y0_7 y0_8 y0_9 y0_10 x0_11 x0_12 x1_4 x1_5 x1_6 x1_7 x1_8 x1_9 x1_10 x1_11 x1_12 x1_13 x1_14 x2_1 a3 x4_1 a5 a6 a7 a8 a9 x10_0 x10_1 x10_2 a11 a12 a13 a14 x15_1 x15_2 a16 a17 x18_0 x18_1 x18_2 a19 a20 a21 a23 a24 a25 a26 a27) sz) (wW_X10_code G h0 h1 h2 h3 h4 h5 h6 h7 h8 h9 h10 h11 h12 h13 h14 h15 h16 h17 h18 h19 h20 h21 h22 h23 h24 h25 h26 h27 y0_4 y0_6 y0_7 y0_8 y0_9 y0_10 e_x0_11 e_x0_12 e_x1_4 e_x1_5 e_x1_6 e_x1_7 e_x1_8 e_x1_9 e_x1_10 e_x1_11 e_x1_12 e_x1_13 e_x1_14 e_x2_1 a3 e_x4_1 e_a5 e_a6 e_a7 e_a8 e_a9 e_x10_0 e_x10_1 e_x10_2 e_a11 e_a12 e_a13 e_a14 e_x15_1 e_x15_2 e_a16 e_a17 e_x18_0 e_x18_1 e_x18_2 e_a19 e_a20 e_a21 e_a23 e_a24 e_a25 e_a26 e_a27)) 0 0 (va_A (wW_X10_code G h0 h1 h2 h3 h4 h5 h6 h7 h8 h9 h10 h11 h12 h13 h14 h15 h16 h17 h18 h19 h20 h21 h22 h23 h24 h25 h26 h27 y0_4 y0_6 y0_7 y0_8 y0_9 y0_10 x0_11 x0_12 x1_4 x1_5 x1_6 x1_7 x1_8 x1_9 x1_10 x1_11 x1_12 x1_13 x1_14 x2_1 a3 x4_1 a5 a6 a7 a8 a9 x10_0 x10_1 x10_2 a11 a12 a13 a14 x15_1 x15_2 a16 a17 x18_0 x18_1 x18_2 a19 a20 a21 a23 a24 a25 a26 a27) sz) := by
  refine met_start (by decide) (Nat.le_of_ble_eq_true rfl) ?_
  intro p e s m below meth c hC hr hlk hnm hK hP hD hA hS hX ls hl
  obtain ⟨hx, hb, hml, hown, ht0⟩ := hC
  have hown : s.vm.findClass RX10 = some m.cls := hown
  generalize va_A (wW_X10_code G h0 h1 h2 h3 h4 h5 h6 h7 h8 h9 h10 h11 h12 h13 h14 h15 h16 h17 h18 h19 h20 h21 h22 h23 h24 h25 h26 h27 y0_4 y0_6 y0_7 y0_8 y0_9 y0_10 x0_11 x0_12 x1_4 x1_5 x1_6 x1_7 x1_8 x1_9 x1_10 x1_11 x1_12 x1_13 x1_14 x2_1 a3 x4_1 a5 a6 a7 a8 a9 x10_0 x10_1 x10_2 a11 a12 a13 a14 x15_1 x15_2 a16 a17 x18_0 x18_1 x18_2 a19 a20 a21 a23 a24 a25 a26 a27) sz = A at hD hA hS hX ⊢
  have hl : lv_has ls 3 [(0, .ref h0)] := hl
  have hf : p_X10_code F g_cur g_fst x0_11 x0_12 x1_4 x1_5 x1_6 x1_7 x1_8 x1_9 x1_10 x1_11 x1_12 x1_13 x1_14 x2_1 a3 x4_1 a5 a6 a7 a8 a9 x10_0 x10_1 x10_2 a11 a12 a13 a14 x15_1 x15_2 a16 a17 x18_0 x18_1 x18_2 a19 a20 a21 a23 a24 a25 a26 a27  = some (r0, e_x0_11, e_x0_12, e_x1_4, e_x1_5, e_x1_6, e_x1_7, e_x1_8, e_x1_9, e_x1_10, e_x1_11, e_x1_12, e_x1_13, e_x1_14, e_x2_1, e_x4_1, e_a5, e_a6, e_a7, e_a8, e_a9, e_x10_0, e_x10_1, e_x10_2, e_a11, e_a12, e_a13, e_a14, e_x15_1, e_x15_2, e_a16, e_a17, e_x18_0, e_x18_1, e_x18_2, e_a19, e_a20, e_a21, e_a23, e_a24, e_a25, e_a26, e_a27) := hf
  refine lv_aload_n hx hb dX10_code_0 rfl (lv_at hl 0 rfl) ?_
  refine va_get (ci := 10) (v := .ref h1) (C := RX10) (T := TX10) (N := 13) hx hb ht0 iX10 hown hK hP 0 rfl rfl 1 (by decide) (ht0 _ wd_541) (fun _ h9 => h9) rfl dX10_code_1 ?_
  obtain ⟨⟨r_4_0, r_4_0_x0_4, r_4_0_x0_5, r_4_0_x0_6, r_4_0_x0_7, r_4_0_x0_8, r_4_0_x0_9, r_4_0_x0_10, r_4_0_x0_11, r_4_0_x0_12, r_4_0_x0_13, r_4_0_x0_14, r_4_0_x3_1, r_4_0_a4, r_4_0_a5, r_4_0_a6, r_4_0_a7, r_4_0_a8, r_4_0_x9_0, r_4_0_x9_1, r_4_0_x9_2, r_4_0_a10, r_4_0_a11, r_4_0_a12, r_4_0_a13⟩, hc_r_4_0, hf⟩ := of_bnd hf
  refine cl_Vi (w2 := (wW_X10_code G h0 h1 h2 h3 h4 h5 h6 h7 h8 h9 h10 h11 h12 h13 h14 h15 h16 h17 h18 h19 h20 h21 h22 h23 h24 h25 h26 h27 y0_4 y0_6 y0_7 y0_8 y0_9 y0_10 x0_11 x0_12 r_4_0_x0_4 r_4_0_x0_5 r_4_0_x0_6 r_4_0_x0_7 r_4_0_x0_8 r_4_0_x0_9 r_4_0_x0_10 r_4_0_x0_11 r_4_0_x0_12 r_4_0_x0_13 r_4_0_x0_14 x2_1 a3 r_4_0_x3_1 r_4_0_a4 r_4_0_a5 r_4_0_a6 r_4_0_a7 r_4_0_a8 r_4_0_x9_0 r_4_0_x9_1 r_4_0_x9_2 r_4_0_a10 r_4_0_a11 r_4_0_a12 r_4_0_a13 x15_1 x15_2 a16 a17 x18_0 x18_1 x18_2 a19 a20 a21 a23 a24 a25 a26 a27)) (As := []) (rest := []) ⟨hx, hb, hml, hown, ht0⟩ (c_X3_parse l G h1 h2 h3 h4 h5 h6 h7 h8 h9 h10 h11 h12 h13 h14 _ x1_4 x1_5 x1_6 x1_7 x1_8 x1_9 x1_10 x1_11 x1_12 x1_13 x1_14 x2_1 a3 x4_1 a5 a6 a7 a8 a9 x10_0 x10_1 x10_2 a11 a12 a13 a14 F _ _ _ _ _ _ _ _ _ _ _ _ _ _ _ _ _ _ _ _ _ _ _ _ _ hc_r_4_0) yk_X3_parse wd_600 ⟨rfl, rfl, by decide, by decide⟩ ⟨Nat.le_refl _, Nat.le_refl _⟩ hX hK hP hD hS hA [1, 2, 3, 4, 5, 6, 7, 8, 9, 10, 11, 12, 13, 14] [0, 15, 16, 17, 18, 19, 20, 21, 22, 23, 24, 25, 26, 27] [0, 14, 15, 16, 17, 18, 19, 20, 21, 22, 23, 24, 25, 26, 27, 1, 2, 3, 4, 5, 6, 7, 8, 9, 10, 11, 12, 13] (va_recv hK hP (ci := 3) (q0 := 1) rfl rfl) rfl rfl (by decide) rfl rfl rfl rfl rfl hl.1 rfl (Nat.le_of_ble_eq_true rfl) dX10_code_4 (fun H locs hP hD hS => ?_)
  refine lv_istore_n (lv' := [(1, .int r_4_0), (0, .ref h0)]) hx hb dX10_code_7 rfl hl (by decide) rfl (fun ls hl => ?_)
  refine lv_aload_n hx hb dX10_code_8 rfl (lv_at hl 1 rfl) ?_
  refine va_get (ci := 10) (v := .ref h2) (C := RX10) (T := TX10) (N := 13) hx hb ht0 iX10 hown hK hP 0 rfl rfl 0 (by decide) (ht0 _ wd_540) (fun _ h9 => h9) rfl dX10_code_9 ?_
  refine lv_iconst (v := (0 : Int32)) hx hb dX10_code_12 (by decide) ?_
  refine va_put (ci := 7) (v := .int (0 : Int32)) (ty := .int) (C := RX7) (T := TX7) (N := 2) hx hb ht0 iX7 tyX7 tyX7_ok nmX7 hown hK hP hD hS 2 rfl rfl 1 (by decide) (ht0 _ wd_169) (fun _ h9 => h9) rfl rfl rfl rfl (Nat.le_of_ble_eq_true rfl) dX10_code_13 (fun H locs hP hD hS => ?_)
  have hP : va_P G.1 vwCl (wW_X10_code G h0 h1 h2 h3 h4 h5 h6 h7 h8 h9 h10 h11 h12 h13 h14 h15 h16 h17 h18 h19 h20 h21 h22 h23 h24 h25 h26 h27 y0_4 y0_6 y0_7 y0_8 y0_9 y0_10 x0_11 x0_12 r_4_0_x0_4 r_4_0_x0_5 r_4_0_x0_6 r_4_0_x0_7 r_4_0_x0_8 r_4_0_x0_9 r_4_0_x0_10 r_4_0_x0_11 r_4_0_x0_12 r_4_0_x0_13 r_4_0_x0_14 (0 : Int32) a3 r_4_0_x3_1 r_4_0_a4 r_4_0_a5 r_4_0_a6 r_4_0_a7 r_4_0_a8 r_4_0_x9_0 r_4_0_x9_1 r_4_0_x9_2 r_4_0_a10 r_4_0_a11 r_4_0_a12 r_4_0_a13 x15_1 x15_2 a16 a17 x18_0 x18_1 x18_2 a19 a20 a21 a23 a24 a25 a26 a27) H := hP
  have hD : va_D A (wW_X10_code G h0 h1 h2 h3 h4 h5 h6 h7 h8 h9 h10 h11 h12 h13 h14 h15 h16 h17 h18 h19 h20 h21 h22 h23 h24 h25 h26 h27 y0_4 y0_6 y0_7 y0_8 y0_9 y0_10 x0_11 x0_12 r_4_0_x0_4 r_4_0_x0_5 r_4_0_x0_6 r_4_0_x0_7 r_4_0_x0_8 r_4_0_x0_9 r_4_0_x0_10 r_4_0_x0_11 r_4_0_x0_12 r_4_0_x0_13 r_4_0_x0_14 (0 : Int32) a3 r_4_0_x3_1 r_4_0_a4 r_4_0_a5 r_4_0_a6 r_4_0_a7 r_4_0_a8 r_4_0_x9_0 r_4_0_x9_1 r_4_0_x9_2 r_4_0_a10 r_4_0_a11 r_4_0_a12 r_4_0_a13 x15_1 x15_2 a16 a17 x18_0 x18_1 x18_2 a19 a20 a21 a23 a24 a25 a26 a27) := hD
  refine lv_aload_n hx hb dX10_code_16 rfl (lv_at hl 1 rfl) ?_
  refine lv_aload_n hx hb dX10_code_17 rfl (lv_at hl 1 rfl) ?_
  refine va_get (ci := 10) (v := .ref h1) (C := RX10) (T := TX10) (N := 13) hx hb ht0 iX10 hown hK hP 0 rfl rfl 1 (by decide) (ht0 _ wd_541) (fun _ h9 => h9) rfl dX10_code_18 ?_
  refine va_get (ci := 3) (v := .int r_4_0_x0_4) (C := RX3) (T := TX3) (N := 15) hx hb ht0 iX3 hown hK hP 1 rfl rfl 4 (by decide) (ht0 _ wd_256) (fun _ h9 => h9) rfl dX10_code_21 ?_
  refine va_put (ci := 10) (v := .int r_4_0_x0_4) (ty := .int) (C := RX10) (T := TX10) (N := 13) hx hb ht0 iX10 tyX10 tyX10_ok nmX10 hown hK hP hD hS 0 rfl rfl 11 (by decide) (ht0 _ wd_551) (fun _ h9 => h9) rfl rfl rfl rfl (Nat.le_of_ble_eq_true rfl) dX10_code_24 (fun H locs hP hD hS => ?_)
  have hP : va_P G.1 vwCl (wW_X10_code G h0 h1 h2 h3 h4 h5 h6 h7 h8 h9 h10 h11 h12 h13 h14 h15 h16 h17 h18 h19 h20 h21 h22 h23 h24 h25 h26 h27 y0_4 y0_6 y0_7 y0_8 y0_9 y0_10 r_4_0_x0_4 x0_12 r_4_0_x0_4 r_4_0_x0_5 r_4_0_x0_6 r_4_0_x0_7 r_4_0_x0_8 r_4_0_x0_9 r_4_0_x0_10 r_4_0_x0_11 r_4_0_x0_12 r_4_0_x0_13 r_4_0_x0_14 (0 : Int32) a3 r_4_0_x3_1 r_4_0_a4 r_4_0_a5 r_4_0_a6 r_4_0_a7 r_4_0_a8 r_4_0_x9_0 r_4_0_x9_1 r_4_0_x9_2 r_4_0_a10 r_4_0_a11 r_4_0_a12 r_4_0_a13 x15_1 x15_2 a16 a17 x18_0 x18_1 x18_2 a19 a20 a21 a23 a24 a25 a26 a27) H := hP
  have hD : va_D A (wW_X10_code G h0 h1 h2 h3 h4 h5 h6 h7 h8 h9 h10 h11 h12 h13 h14 h15 h16 h17 h18 h19 h20 h21 h22 h23 h24 h25 h26 h27 y0_4 y0_6 y0_7 y0_8 y0_9 y0_10 r_4_0_x0_4 x0_12 r_4_0_x0_4 r_4_0_x0_5 r_4_0_x0_6 r_4_0_x0_7 r_4_0_x0_8 r_4_0_x0_9 r_4_0_x0_10 r_4_0_x0_11 r_4_0_x0_12 r_4_0_x0_13 r_4_0_x0_14 (0 : Int32) a3 r_4_0_x3_1 r_4_0_a4 r_4_0_a5 r_4_0_a6 r_4_0_a7 r_4_0_a8 r_4_0_x9_0 r_4_0_x9_1 r_4_0_x9_2 r_4_0_a10 r_4_0_a11 r_4_0_a12 r_4_0_a13 x15_1 x15_2 a16 a17 x18_0 x18_1 x18_2 a19 a20 a21 a23 a24 a25 a26 a27) := hD
  refine lv_aload_n hx hb dX10_code_27 rfl (lv_at hl 1 rfl) ?_
  refine lv_aload_n hx hb dX10_code_28 rfl (lv_at hl 1 rfl) ?_
  refine va_get (ci := 10) (v := .ref h1) (C := RX10) (T := TX10) (N := 13) hx hb ht0 iX10 hown hK hP 0 rfl rfl 1 (by decide) (ht0 _ wd_541) (fun _ h9 => h9) rfl dX10_code_29 ?_
  refine va_get (ci := 3) (v := .int r_4_0_x0_5) (C := RX3) (T := TX3) (N := 15) hx hb ht0 iX3 hown hK hP 1 rfl rfl 5 (by decide) (ht0 _ wd_258) (fun _ h9 => h9) rfl dX10_code_32 ?_
  refine va_put (ci := 10) (v := .int r_4_0_x0_5) (ty := .int) (C := RX10) (T := TX10) (N := 13) hx hb ht0 iX10 tyX10 tyX10_ok nmX10 hown hK hP hD hS 0 rfl rfl 12 (by decide) (ht0 _ wd_552) (fun _ h9 => h9) rfl rfl rfl rfl (Nat.le_of_ble_eq_true rfl) dX10_code_35 (fun H locs hP hD hS => ?_)
  have hP : va_P G.1 vwCl (wW_X10_code G h0 h1 h2 h3 h4 h5 h6 h7 h8 h9 h10 h11 h12 h13 h14 h15 h16 h17 h18 h19 h20 h21 h22 h23 h24 h25 h26 h27 y0_4 y0_6 y0_7 y0_8 y0_9 y0_10 r_4_0_x0_4 r_4_0_x0_5 r_4_0_x0_4 r_4_0_x0_5 r_4_0_x0_6 r_4_0_x0_7 r_4_0_x0_8 r_4_0_x0_9 r_4_0_x0_10 r_4_0_x0_11 r_4_0_x0_12 r_4_0_x0_13 r_4_0_x0_14 (0 : Int32) a3 r_4_0_x3_1 r_4_0_a4 r_4_0_a5 r_4_0_a6 r_4_0_a7 r_4_0_a8 r_4_0_x9_0 r_4_0_x9_1 r_4_0_x9_2 r_4_0_a10 r_4_0_a11 r_4_0_a12 r_4_0_a13 x15_1 x15_2 a16 a17 x18_0 x18_1 x18_2 a19 a20 a21 a23 a24 a25 a26 a27) H := hP
  have hD : va_D A (wW_X10_code G h0 h1 h2 h3 h4 h5 h6 h7 h8 h9 h10 h11 h12 h13 h14 h15 h16 h17 h18 h19 h20 h21 h22 h23 h24 h25 h26 h27 y0_4 y0_6 y0_7 y0_8 y0_9 y0_10 r_4_0_x0_4 r_4_0_x0_5 r_4_0_x0_4 r_4_0_x0_5 r_4_0_x0_6 r_4_0_x0_7 r_4_0_x0_8 r_4_0_x0_9 r_4_0_x0_10 r_4_0_x0_11 r_4_0_x0_12 r_4_0_x0_13 r_4_0_x0_14 (0 : Int32) a3 r_4_0_x3_1 r_4_0_a4 r_4_0_a5 r_4_0_a6 r_4_0_a7 r_4_0_a8 r_4_0_x9_0 r_4_0_x9_1 r_4_0_x9_2 r_4_0_a10 r_4_0_a11 r_4_0_a12 r_4_0_a13 x15_1 x15_2 a16 a17 x18_0 x18_1 x18_2 a19 a20 a21 a23 a24 a25 a26 a27) := hD
  refine lv_iload_n hx hb dX10_code_38 rfl (lv_at hl 0 rfl) ?_
  refine lv_if_ne (tgt := 44) hx hb dX10_code_39 (by decide) (fun c2 => ?_) (fun c2 => ?_)
  · have hf := of_neg hf c2
    refine lv_aload_n hx hb dX10_code_44 rfl (lv_at hl 1 rfl) ?_
    refine va_get (ci := 10) (v := .ref h15) (C := RX10) (T := TX10) (N := 13) hx hb ht0 iX10 hown hK hP 0 rfl rfl 3 (by decide) (ht0 _ wd_543) (fun _ h9 => h9) rfl dX10_code_45 ?_
    obtain ⟨⟨r_48_2_x0_1, r_48_2_x0_2, r_48_2_a1⟩, hc_r_48_2, hf⟩ := of_bnd hf
    refine cl_Vv (w2 := (wW_X10_code G h0 h1 h2 h3 h4 h5 h6 h7 h8 h9 h10 h11 h12 h13 h14 h15 h16 h17 h18 h19 h20 h21 h22 h23 h24 h25 h26 h27 y0_4 y0_6 y0_7 y0_8 y0_9 y0_10 r_4_0_x0_4 r_4_0_x0_5 r_4_0_x0_4 r_4_0_x0_5 r_4_0_x0_6 r_4_0_x0_7 r_4_0_x0_8 r_4_0_x0_9 r_4_0_x0_10 r_4_0_x0_11 r_4_0_x0_12 r_4_0_x0_13 r_4_0_x0_14 (0 : Int32) a3 r_4_0_x3_1 r_4_0_a4 r_4_0_a5 r_4_0_a6 r_4_0_a7 r_4_0_a8 r_4_0_x9_0 r_4_0_x9_1 r_4_0_x9_2 r_4_0_a10 r_4_0_a11 r_4_0_a12 r_4_0_a13 r_48_2_x0_1 r_48_2_x0_2 r_48_2_a1 a17 x18_0 x18_1 x18_2 a19 a20 a21 a23 a24 a25 a26 a27)) (As := []) (rest := []) ⟨hx, hb, hml, hown, ht0⟩ (c_X8_forget l G h15 h16 g_cur h18 h22 g_fst y_fst_code y_fst_words _ x15_1 x15_2 a16 F hq_cur hq_fst _ _ _ hc_r_48_2) yk_X8_forget wd_754 ⟨rfl, rfl, by decide, by decide⟩ ⟨Nat.le_refl _, Nat.le_refl _⟩ hX hK hP hD hS hA [15, 16] [0, 1, 2, 3, 4, 5, 6, 7, 8, 9, 10, 11, 12, 13, 14, 17, 18, 19, 20, 21, 22, 23, 24, 25, 26, 27] [0, 1, 2, 3, 4, 5, 6, 7, 8, 9, 10, 11, 12, 13, 14, 26, 27, 15, 16, 17, 18, 19, 20, 21, 22, 23, 24, 25] (va_recv hK hP (ci := 8) (q0 := 15) rfl rfl) rfl rfl (by decide) rfl rfl rfl rfl rfl hl.1 rfl (Nat.le_of_ble_eq_true rfl) dX10_code_48 (fun H locs hP hD hS => ?_)
    refine lv_aload_n hx hb dX10_code_51 rfl (lv_at hl 1 rfl) ?_
    refine va_get (ci := 10) (v := .ref h15) (C := RX10) (T := TX10) (N := 13) hx hb ht0 iX10 hown hK hP 0 rfl rfl 3 (by decide) (ht0 _ wd_543) (fun _ h9 => h9) rfl dX10_code_52 ?_
    obtain ⟨_, hc_r_55_3, hf⟩ := of_bnd hf
    refine cl_Vr (w2 := (wW_X10_code G h0 h1 h2 h3 h4 h5 h6 h7 h8 h9 h10 h11 h12 h13 h14 h15 h16 h17 h18 h19 h20 h21 h22 h23 h24 h25 h26 h27 y0_4 y0_6 y0_7 y0_8 y0_9 y0_10 r_4_0_x0_4 r_4_0_x0_5 r_4_0_x0_4 r_4_0_x0_5 r_4_0_x0_6 r_4_0_x0_7 r_4_0_x0_8 r_4_0_x0_9 r_4_0_x0_10 r_4_0_x0_11 r_4_0_x0_12 r_4_0_x0_13 r_4_0_x0_14 (0 : Int32) a3 r_4_0_x3_1 r_4_0_a4 r_4_0_a5 r_4_0_a6 r_4_0_a7 r_4_0_a8 r_4_0_x9_0 r_4_0_x9_1 r_4_0_x9_2 r_4_0_a10 r_4_0_a11 r_4_0_a12 r_4_0_a13 r_48_2_x0_1 r_48_2_x0_2 r_48_2_a1 a17 x18_0 x18_1 x18_2 a19 a20 a21 a23 a24 a25 a26 a27)) (As := []) (rest := []) ⟨hx, hb, hml, hown, ht0⟩ (c_X8_now l G h15 h16 g_cur h18 h22 _ r_48_2_x0_1 r_48_2_x0_2 r_48_2_a1 F hq_cur hc_r_55_3) yk_X8_now wd_531 ⟨rfl, rfl, by decide, by decide⟩ ⟨Nat.le_refl _, Nat.le_refl _⟩ hX hK hP hD hS hA [15, 16] [0, 1, 2, 3, 4, 5, 6, 7, 8, 9, 10, 11, 12, 13, 14, 17, 18, 19, 20, 21, 22, 23, 24, 25, 26, 27] [0, 1, 2, 3, 4, 5, 6, 7, 8, 9, 10, 11, 12, 13, 14, 26, 27, 15, 16, 17, 18, 19, 20, 21, 22, 23, 24, 25] (va_recv hK hP (ci := 8) (q0 := 15) rfl rfl) rfl rfl (by decide) rfl rfl rfl rfl rfl hl.1 rfl (Nat.le_of_ble_eq_true rfl) dX10_code_55 (fun H locs hP hD hS => ?_)
    refine lv_astore_n (lv' := [(2, .ref g_cur), (1, .int r_4_0), (0, .ref h0)]) hx hb dX10_code_58 rfl hl (by decide) rfl (fun ls hl => ?_)
    refine lv_aload_n hx hb dX10_code_59 rfl (lv_at hl 0 rfl) ?_
    refine vk_getf hx hb (hX.2.2 _ hq_cur).2.1 hS hown (ht0 _ wd_342) (fun _ h => h) dX10_code_60 ?_
    refine lv_aload_n hx hb dX10_code_63 rfl (lv_at hl 2 rfl) ?_
    refine va_get (ci := 10) (v := .ref h1) (C := RX10) (T := TX10) (N := 13) hx hb ht0 iX10 hown hK hP 0 rfl rfl 1 (by decide) (ht0 _ wd_541) (fun _ h9 => h9) rfl dX10_code_64 ?_
    refine va_get (ci := 3) (v := .ref h10) (C := RX3) (T := TX3) (N := 15) hx hb ht0 iX3 hown hK hP 1 rfl rfl 2 (by decide) (ht0 _ wd_252) (fun _ h9 => h9) rfl dX10_code_67 ?_
    obtain ⟨⟨r_70_4_x0_0, r_70_4_x0_1, r_70_4_x0_2, r_70_4_a1, r_70_4_a2, r_70_4_a3⟩, hc_r_70_4, hf⟩ := of_bnd hf
    refine cl_Vv (w2 := (wW_X10_code G h0 h1 h2 h3 h4 h5 h6 h7 h8 h9 h10 h11 h12 h13 h14 h15 h16 h17 h18 h19 h20 h21 h22 h23 h24 h25 h26 h27 y0_4 y0_6 y0_7 y0_8 y0_9 y0_10 r_4_0_x0_4 r_4_0_x0_5 r_4_0_x0_4 r_4_0_x0_5 r_4_0_x0_6 r_4_0_x0_7 r_4_0_x0_8 r_4_0_x0_9 r_4_0_x0_10 r_4_0_x0_11 r_4_0_x0_12 r_4_0_x0_13 r_4_0_x0_14 (0 : Int32) a3 r_4_0_x3_1 r_4_0_a4 r_4_0_a5 r_4_0_a6 r_4_0_a7 r_4_0_a8 r_4_0_x9_0 r_4_0_x9_1 r_4_0_x9_2 r_4_0_a10 r_4_0_a11 r_4_0_a12 r_4_0_a13 r_48_2_x0_1 r_48_2_x0_2 r_48_2_a1 a17 r_70_4_x0_0 r_70_4_x0_1 r_70_4_x0_2 r_70_4_a1 r_70_4_a2 r_70_4_a3 a23 a24 a25 a26 a27)) (As := [.ref h10]) (rest := []) ⟨hx, hb, hml, hown, ht0⟩ (c_X1_copyFrom l G h18 h19 h20 h21 h10 h11 h12 h13 _ x18_0 x18_1 x18_2 a19 a20 a21 r_4_0_x9_0 r_4_0_x9_1 r_4_0_x9_2 r_4_0_a10 r_4_0_a11 r_4_0_a12 F _ _ _ _ _ _ hc_r_70_4) yk_X1_copyFrom wd_535 ⟨rfl, rfl, by decide, by decide⟩ ⟨Nat.le_refl _, Nat.le_refl _⟩ hX hK hP hD hS hA [18, 19, 20, 21, 10, 11, 12, 13] [0, 1, 2, 3, 4, 5, 6, 7, 8, 9, 14, 15, 16, 17, 22, 23, 24, 25, 26, 27] [0, 1, 2, 3, 4, 5, 6, 7, 8, 9, 24, 25, 26, 27, 10, 11, 12, 13, 20, 21, 22, 23, 14, 15, 16, 17, 18, 19] (va_recv hK hP (ci := 1) (q0 := 18) rfl rfl) rfl rfl (by decide) rfl rfl rfl rfl rfl hl.1 rfl (Nat.le_of_ble_eq_true rfl) dX10_code_70 (fun H locs hP hD hS => ?_)
    refine lv_aload_n hx hb dX10_code_73 rfl (lv_at hl 0 rfl) ?_
    refine vk_getf hx hb (hX.2.2 _ hq_cur).2.2 hS hown (ht0 _ wd_344) (fun _ h => h) dX10_code_74 ?_
    refine lv_aload_n hx hb dX10_code_77 rfl (lv_at hl 0 rfl) ?_
    refine vk_getf hx hb (hX.2.2 _ hq_cur).2.1 hS hown (ht0 _ wd_342) (fun _ h => h) dX10_code_78 ?_
    refine lv_aload_n hx hb dX10_code_81 rfl (lv_at hl 2 rfl) ?_
    refine va_get (ci := 10) (v := .ref h1) (C := RX10) (T := TX10) (N := 13) hx hb ht0 iX10 hown hK hP 0 rfl rfl 1 (by decide) (ht0 _ wd_541) (fun _ h9 => h9) rfl dX10_code_82 ?_
    refine va_get (ci := 3) (v := .ref h14) (C := RX3) (T := TX3) (N := 15) hx hb ht0 iX3 hown hK hP 1 rfl rfl 3 (by decide) (ht0 _ wd_254) (fun _ h9 => h9) rfl dX10_code_85 ?_
    obtain ⟨⟨r_88_5_a1, r_88_5_a2, r_88_5_a3, r_88_5_a4, r_88_5_a5⟩, hc_r_88_5, hf⟩ := of_bnd hf
    refine cl_Vv (w2 := (wW_X10_code G h0 h1 h2 h3 h4 h5 h6 h7 h8 h9 h10 h11 h12 h13 h14 h15 h16 h17 h18 h19 h20 h21 h22 h23 h24 h25 h26 h27 y0_4 y0_6 y0_7 y0_8 y0_9 y0_10 r_4_0_x0_4 r_4_0_x0_5 r_4_0_x0_4 r_4_0_x0_5 r_4_0_x0_6 r_4_0_x0_7 r_4_0_x0_8 r_4_0_x0_9 r_4_0_x0_10 r_4_0_x0_11 r_4_0_x0_12 r_4_0_x0_13 r_4_0_x0_14 (0 : Int32) a3 r_4_0_x3_1 r_4_0_a4 r_4_0_a5 r_4_0_a6 r_4_0_a7 r_4_0_a8 r_4_0_x9_0 r_4_0_x9_1 r_4_0_x9_2 r_4_0_a10 r_4_0_a11 r_4_0_a12 r_4_0_a13 r_48_2_x0_1 r_48_2_x0_2 r_48_2_a1 a17 r_70_4_x0_0 r_70_4_x0_1 r_70_4_x0_2 r_70_4_a1 r_70_4_a2 r_70_4_a3 r_88_5_a1 r_88_5_a2 r_88_5_a3 r_88_5_a4 r_88_5_a5)) (As := [.ref h18, .ref h14]) (rest := []) ⟨hx, hb, hml, hown, ht0⟩ (c_X9_beginWith l G h22 h23 h24 h25 h26 h27 h18 h19 h14 h20 h21 _ a23 a24 a25 a26 a27 r_70_4_x0_0 r_70_4_x0_1 r_70_4_x0_2 r_70_4_a1 r_4_0_a13 F _ _ _ _ _ hc_r_88_5) yk_X9_beginWith wd_758 ⟨rfl, rfl, by decide, by decide⟩ ⟨Nat.le_refl _, Nat.le_refl _⟩ hX hK hP hD hS hA [22, 23, 24, 25, 26, 27, 18, 19, 14] [0, 1, 2, 3, 4, 5, 6, 7, 8, 9, 10, 11, 12, 13, 15, 16, 17, 20, 21] [0, 1, 2, 3, 4, 5, 6, 7, 8, 9, 10, 11, 12, 13, 27, 14, 15, 16, 25, 26, 17, 18, 19, 20, 21, 22, 23, 24] (va_recv hK hP (ci := 9) (q0 := 22) rfl rfl) rfl rfl (by decide) rfl rfl rfl rfl rfl hl.1 rfl (Nat.le_of_ble_eq_true rfl) dX10_code_88 (fun H locs hP hD hS => ?_)
    refine lv_aload_n hx hb dX10_code_91 rfl (lv_at hl 2 rfl) ?_
    refine va_get (ci := 10) (v := .ref h17) (C := RX10) (T := TX10) (N := 13) hx hb ht0 iX10 hown hK hP 0 rfl rfl 5 (by decide) (ht0 _ wd_545) (fun _ h9 => h9) rfl dX10_code_92 ?_
    refine lv_iconst (v := (0 : Int32)) hx hb dX10_code_95 (by decide) ?_
    refine lv_iconst (v := (0 : Int32)) hx hb dX10_code_96 (by decide) ?_
    refine va_zast hx hb hK hP hD hS 17 1 rfl rfl (show ¬ ixBad (0 : Int32) 2 by decide) dX10_code_97 (fun H locs hP hD hS => ?_)
    have hP : va_P G.1 vwCl (wW_X10_code G h0 h1 h2 h3 h4 h5 h6 h7 h8 h9 h10 h11 h12 h13 h14 h15 h16 h17 h18 h19 h20 h21 h22 h23 h24 h25 h26 h27 y0_4 y0_6 y0_7 y0_8 y0_9 y0_10 r_4_0_x0_4 r_4_0_x0_5 r_4_0_x0_4 r_4_0_x0_5 r_4_0_x0_6 r_4_0_x0_7 r_4_0_x0_8 r_4_0_x0_9 r_4_0_x0_10 r_4_0_x0_11 r_4_0_x0_12 r_4_0_x0_13 r_4_0_x0_14 (0 : Int32) a3 r_4_0_x3_1 r_4_0_a4 r_4_0_a5 r_4_0_a6 r_4_0_a7 r_4_0_a8 r_4_0_x9_0 r_4_0_x9_1 r_4_0_x9_2 r_4_0_a10 r_4_0_a11 r_4_0_a12 r_4_0_a13 r_48_2_x0_1 r_48_2_x0_2 r_48_2_a1 (upd a17 (0 : Int32).toNatClampNeg (vp_nar .boolean (0 : Int32))) r_70_4_x0_0 r_70_4_x0_1 r_70_4_x0_2 r_70_4_a1 r_70_4_a2 r_70_4_a3 r_88_5_a1 r_88_5_a2 r_88_5_a3 r_88_5_a4 r_88_5_a5) H := hP
    have hD : va_D A (wW_X10_code G h0 h1 h2 h3 h4 h5 h6 h7 h8 h9 h10 h11 h12 h13 h14 h15 h16 h17 h18 h19 h20 h21 h22 h23 h24 h25 h26 h27 y0_4 y0_6 y0_7 y0_8 y0_9 y0_10 r_4_0_x0_4 r_4_0_x0_5 r_4_0_x0_4 r_4_0_x0_5 r_4_0_x0_6 r_4_0_x0_7 r_4_0_x0_8 r_4_0_x0_9 r_4_0_x0_10 r_4_0_x0_11 r_4_0_x0_12 r_4_0_x0_13 r_4_0_x0_14 (0 : Int32) a3 r_4_0_x3_1 r_4_0_a4 r_4_0_a5 r_4_0_a6 r_4_0_a7 r_4_0_a8 r_4_0_x9_0 r_4_0_x9_1 r_4_0_x9_2 r_4_0_a10 r_4_0_a11 r_4_0_a12 r_4_0_a13 r_48_2_x0_1 r_48_2_x0_2 r_48_2_a1 (upd a17 (0 : Int32).toNatClampNeg (vp_nar .boolean (0 : Int32))) r_70_4_x0_0 r_70_4_x0_1 r_70_4_x0_2 r_70_4_a1 r_70_4_a2 r_70_4_a3 r_88_5_a1 r_88_5_a2 r_88_5_a3 r_88_5_a4 r_88_5_a5) := hD
    refine lv_aload_n hx hb dX10_code_98 rfl (lv_at hl 2 rfl) ?_
    refine va_get (ci := 10) (v := .ref h17) (C := RX10) (T := TX10) (N := 13) hx hb ht0 iX10 hown hK hP 0 rfl rfl 5 (by decide) (ht0 _ wd_545) (fun _ h9 => h9) rfl dX10_code_99 ?_
    refine lv_iconst (v := (1 : Int32)) hx hb dX10_code_102 (by decide) ?_
    refine lv_iconst (v := (0 : Int32)) hx hb dX10_code_103 (by decide) ?_
    refine va_zast hx hb hK hP hD hS 17 1 rfl rfl (show ¬ ixBad (1 : Int32) 2 by decide) dX10_code_104 (fun H locs hP hD hS => ?_)
    have hP : va_P G.1 vwCl (wW_X10_code G h0 h1 h2 h3 h4 h5 h6 h7 h8 h9 h10 h11 h12 h13 h14 h15 h16 h17 h18 h19 h20 h21 h22 h23 h24 h25 h26 h27 y0_4 y0_6 y0_7 y0_8 y0_9 y0_10 r_4_0_x0_4 r_4_0_x0_5 r_4_0_x0_4 r_4_0_x0_5 r_4_0_x0_6 r_4_0_x0_7 r_4_0_x0_8 r_4_0_x0_9 r_4_0_x0_10 r_4_0_x0_11 r_4_0_x0_12 r_4_0_x0_13 r_4_0_x0_14 (0 : Int32) a3 r_4_0_x3_1 r_4_0_a4 r_4_0_a5 r_4_0_a6 r_4_0_a7 r_4_0_a8 r_4_0_x9_0 r_4_0_x9_1 r_4_0_x9_2 r_4_0_a10 r_4_0_a11 r_4_0_a12 r_4_0_a13 r_48_2_x0_1 r_48_2_x0_2 r_48_2_a1 (upd (upd a17 (0 : Int32).toNatClampNeg (vp_nar .boolean (0 : Int32))) (1 : Int32).toNatClampNeg (vp_nar .boolean (0 : Int32))) r_70_4_x0_0 r_70_4_x0_1 r_70_4_x0_2 r_70_4_a1 r_70_4_a2 r_70_4_a3 r_88_5_a1 r_88_5_a2 r_88_5_a3 r_88_5_a4 r_88_5_a5) H := hP
    have hD : va_D A (wW_X10_code G h0 h1 h2 h3 h4 h5 h6 h7 h8 h9 h10 h11 h12 h13 h14 h15 h16 h17 h18 h19 h20 h21 h22 h23 h24 h25 h26 h27 y0_4 y0_6 y0_7 y0_8 y0_9 y0_10 r_4_0_x0_4 r_4_0_x0_5 r_4_0_x0_4 r_4_0_x0_5 r_4_0_x0_6 r_4_0_x0_7 r_4_0_x0_8 r_4_0_x0_9 r_4_0_x0_10 r_4_0_x0_11 r_4_0_x0_12 r_4_0_x0_13 r_4_0_x0_14 (0 : Int32) a3 r_4_0_x3_1 r_4_0_a4 r_4_0_a5 r_4_0_a6 r_4_0_a7 r_4_0_a8 r_4_0_x9_0 r_4_0_x9_1 r_4_0_x9_2 r_4_0_a10 r_4_0_a11 r_4_0_a12 r_4_0_a13 r_48_2_x0_1 r_48_2_x0_2 r_48_2_a1 (upd (upd a17 (0 : Int32).toNatClampNeg (vp_nar .boolean (0 : Int32))) (1 : Int32).toNatClampNeg (vp_nar .boolean (0 : Int32))) r_70_4_x0_0 r_70_4_x0_1 r_70_4_x0_2 r_70_4_a1 r_70_4_a2 r_70_4_a3 r_88_5_a1 r_88_5_a2 r_88_5_a3 r_88_5_a4 r_88_5_a5) := hD
    refine lv_aload_n hx hb dX10_code_105 rfl (lv_at hl 0 rfl) ?_
    refine vk_getf hx hb (hX.2.2 _ hq_cur).2.1 hS hown (ht0 _ wd_342) (fun _ h => h) dX10_code_106 ?_
    obtain ⟨r_109_6, hc_r_109_6, hf⟩ := of_bnd hf
    refine cl_Vi (w2 := (wW_X10_code G h0 h1 h2 h3 h4 h5 h6 h7 h8 h9 h10 h11 h12 h13 h14 h15 h16 h17 h18 h19 h20 h21 h22 h23 h24 h25 h26 h27 y0_4 y0_6 y0_7 y0_8 y0_9 y0_10 r_4_0_x0_4 r_4_0_x0_5 r_4_0_x0_4 r_4_0_x0_5 r_4_0_x0_6 r_4_0_x0_7 r_4_0_x0_8 r_4_0_x0_9 r_4_0_x0_10 r_4_0_x0_11 r_4_0_x0_12 r_4_0_x0_13 r_4_0_x0_14 (0 : Int32) a3 r_4_0_x3_1 r_4_0_a4 r_4_0_a5 r_4_0_a6 r_4_0_a7 r_4_0_a8 r_4_0_x9_0 r_4_0_x9_1 r_4_0_x9_2 r_4_0_a10 r_4_0_a11 r_4_0_a12 r_4_0_a13 r_48_2_x0_1 r_48_2_x0_2 r_48_2_a1 (upd (upd a17 (0 : Int32).toNatClampNeg (vp_nar .boolean (0 : Int32))) (1 : Int32).toNatClampNeg (vp_nar .boolean (0 : Int32))) r_70_4_x0_0 r_70_4_x0_1 r_70_4_x0_2 r_70_4_a1 r_70_4_a2 r_70_4_a3 r_88_5_a1 r_88_5_a2 r_88_5_a3 r_88_5_a4 r_88_5_a5)) (As := []) (rest := []) ⟨hx, hb, hml, hown, ht0⟩ (c_X1_places l G h18 h19 h20 h21 _ r_70_4_x0_0 r_70_4_x0_1 r_70_4_x0_2 F _ hc_r_109_6) yk_X1_places wd_781 ⟨rfl, rfl, by decide, by decide⟩ ⟨Nat.le_refl _, Nat.le_refl _⟩ hX hK hP hD hS hA [18] [0, 1, 2, 3, 4, 5, 6, 7, 8, 9, 10, 11, 12, 13, 14, 15, 16, 17, 19, 20, 21, 22, 23, 24, 25, 26, 27] [0, 1, 2, 3, 4, 5, 6, 7, 8, 9, 10, 11, 12, 13, 14, 15, 16, 17, 27, 18, 19, 20, 21, 22, 23, 24, 25, 26] (va_recv hK hP (ci := 1) (q0 := 18) rfl rfl) rfl rfl (by decide) rfl rfl rfl rfl rfl hl.1 rfl (Nat.le_of_ble_eq_true rfl) dX10_code_109 (fun H locs hP hD hS => ?_)
    cases hf
    exact ret_i hx hb hr hlk hK hP hD hS dX10_code_112
  · have hf := of_pos hf c2
    refine lv_iconst (v := (-1 : Int32)) hx hb dX10_code_42 (by decide) ?_
    cases hf
    exact ret_i hx hb hr hlk hK hP hD hS dX10_code_43
theorem yk_X10_code : ykV yX10_code RX10 cX10_code 3 (some .int) 0 := ⟨wd_597, wd_598, wd_127, wd_599, rfl, by decide +kernel, by decide +kernel, by decide +kernel⟩
theorem dX10_fault_0 : decode cX10_fault 0 = .ok (.iload_n 1, 1) := by decide +kernel
theorem dX10_fault_1 : decode cX10_fault 1 = .ok (.lookupswitch 37 #[(0, 27), (1, 32)], 27) := by decide +kernel
theorem dX10_fault_28 : decode cX10_fault 28 = .ok (.aload_n 0, 1) := by decide +kernel
theorem dX10_fault_29 : decode cX10_fault 29 = .ok (.getfield 79, 3) := by decide +kernel
theorem dX10_fault_32 : decode cX10_fault 32 = .ok (.ireturn, 1) := by decide +kernel
theorem dX10_fault_33 : decode cX10_fault 33 = .ok (.aload_n 0, 1) := by decide +kernel
theorem dX10_fault_34 : decode cX10_fault 34 = .ok (.getfield 83, 3) := by decide +kernel
theorem dX10_fault_37 : decode cX10_fault 37 = .ok (.ireturn, 1) := by decide +kernel
theorem dX10_fault_38 : decode cX10_fault 38 = .ok (.iconst (-1), 1) := by decide +kernel
theorem dX10_fault_39 : decode cX10_fault 39 = .ok (.ireturn, 1) := by decide +kernel
def wW_X10_fault (G : GG) (h0 y0_0 y0_1 y0_2 y0_3 y0_4 y0_5 y0_6 y0_7 y0_8 y0_9 y0_10 : Nat) (x0_11 : Int32) (x0_12 : Int32) : va_W := [(h0, .inr (10, [.ref y0_0, .ref y0_1, .ref y0_2, .ref y0_3, .ref y0_4, .ref y0_5, .ref y0_6, .ref y0_7, .ref y0_8, .ref y0_9, .ref y0_10, .int x0_11, .int x0_12]))]
set_option maxHeartbeats 4000000 in
set_option maxRecDepth 100000 in
theorem c_X10_fault (l : Launch) (G : GG) (h0 y0_0 y0_1 y0_2 y0_3 y0_4 y0_5 y0_6 y0_7 y0_8 y0_9 y0_10 : Nat) (sz : Nat) (x0_11 : Int32) (x0_12 : Int32) (F : Nat) (b1 : Int32)  (r0 : Int32) (hf : p_X10_fault F x0_11 x0_12 b1 = some r0) : Met l yX10_fault (.code yX10_fault cX10_fault 2 (some .int) :: gtbl) ({ frames := 0, cells := 0, slots := 0, locals := 0 } : Room) (PcS G [.ref h0, .int b1] (wW_X10_fault G h0 y0_0 y0_1 y0_2 y0_3 y0_4 y0_5 y0_6 y0_7 y0_8 y0_9 y0_10 x0_11 x0_12) sz) (QiS G r0 (va_A (wW_X10_fault G h0 y0_0 y0_1 y0_2 y0_3 y0_4 y0_5 y0_6 y0_7 y0_8 y0_9 y0_10 x0_11 x0_12) sz) (wW_X10_fault G h0 y0_0 y0_1 y0_2 y0_3 y0_4 y0_5 y0_6 y0_7 y0_8 y0_9 y0_10 x0_11 x0_12)) 0 0 (va_A (wW_X10_fault G h0 y0_0 y0_1 y0_2 y0_3 y0_4 y0_5 y0_6 y0_7 y0_8 y0_9 y0_10 x0_11 x0_12) sz) := by
  refine met_start (by decide) (Nat.le_of_ble_eq_true rfl) ?_
  intro p e s m below meth c hC hr hlk hnm hK hP hD hA hS hX ls hl
  obtain ⟨hx, hb, hml, hown, ht0⟩ := hC
  have hown : s.vm.findClass RX10 = some m.cls := hown
  generalize va_A (wW_X10_fault G h0 y0_0 y0_1 y0_2 y0_3 y0_4 y0_5 y0_6 y0_7 y0_8 y0_9 y0_10 x0_11 x0_12) sz = A at hD hA hS hX ⊢
  have hl : lv_has ls 2 [(0, .ref h0), (1, .int b1)] := hl
  have hf : p_X10_fault F x0_11 x0_12 b1 = some r0 := hf
  refine lv_iload_n hx hb dX10_fault_0 rfl (lv_at hl 1 rfl) ?_
  by_cases c1 : b1 = (0 : Int32)
  · have hf := of_pos hf c1
    refine lv_lookup (off := 27) (tgt := 28) hx hb dX10_fault_1 (by decide) (by rw [c1]; rfl) (by decide) ?_
    refine lv_aload_n hx hb dX10_fault_28 rfl (lv_at hl 0 rfl) ?_
    refine va_get (ci := 10) (v := .int x0_11) (C := RX10) (T := TX10) (N := 13) hx hb ht0 iX10 hown hK hP 0 rfl rfl 11 (by decide) (ht0 _ wd_551) (fun _ h9 => h9) rfl dX10_fault_29 ?_
    cases hf
    exact ret_i hx hb hr hlk hK hP hD hS dX10_fault_32
  have hf := of_neg hf c1
  by_cases c2 : b1 = (1 : Int32)
  · have hf := of_pos hf c2
    refine lv_lookup (off := 32) (tgt := 33) hx hb dX10_fault_1 (by decide) (by rw [c2]; rfl) (by decide) ?_
    refine lv_aload_n hx hb dX10_fault_33 rfl (lv_at hl 0 rfl) ?_
    refine va_get (ci := 10) (v := .int x0_12) (C := RX10) (T := TX10) (N := 13) hx hb ht0 iX10 hown hK hP 0 rfl rfl 12 (by decide) (ht0 _ wd_552) (fun _ h9 => h9) rfl dX10_fault_34 ?_
    cases hf
    exact ret_i hx hb hr hlk hK hP hD hS dX10_fault_37
  have hf := of_neg hf c2
  refine lv_lookup (off := 37) (tgt := 38) hx hb dX10_fault_1 (by decide) (by show Op.lookupswitch.offset [(0, 27), (1, 32)] _ _ = _; rw [lv_osw (a := 0) c1 rfl]; rw [lv_osw (a := 1) c2 rfl]; rfl) (by decide) ?_
  refine lv_iconst (v := (-1 : Int32)) hx hb dX10_fault_38 (by decide) ?_
  cases hf
  exact ret_i hx hb hr hlk hK hP hD hS dX10_fault_39
theorem yk_X10_fault : ykV yX10_fault RX10 cX10_fault 2 (some .int) 1 := ⟨wd_784, wd_785, wd_127, wd_786, rfl, by decide +kernel, by decide +kernel, by decide +kernel⟩
theorem dX10_write_0 : decode cX10_write 0 = .ok (.iload_n 1, 1) := by decide +kernel
theorem dX10_write_1 : decode cX10_write 1 = .ok (.invokestatic 140, 3) := by decide +kernel
theorem dX10_write_4 : decode cX10_write 4 = .ok (.ifCond .eq 20, 3) := by decide +kernel
theorem dX10_write_7 : decode cX10_write 7 = .ok (.aload_n 0, 1) := by decide +kernel
theorem dX10_write_8 : decode cX10_write 8 = .ok (.getfield 29, 3) := by decide +kernel
theorem dX10_write_11 : decode cX10_write 11 = .ok (.invokevirtual 92, 3) := by decide +kernel
theorem dX10_write_14 : decode cX10_write 14 = .ok (.getfield 96, 3) := by decide +kernel
theorem dX10_write_17 : decode cX10_write 17 = .ok (.iload_n 2, 1) := by decide +kernel
theorem dX10_write_18 : decode cX10_write 18 = .ok (.invokevirtual 144, 3) := by decide +kernel
theorem dX10_write_21 : decode cX10_write 21 = .ok (.ifCond .ne 5, 3) := by decide +kernel
theorem dX10_write_24 : decode cX10_write 24 = .ok (.iconst 0, 1) := by decide +kernel
theorem dX10_write_25 : decode cX10_write 25 = .ok (.ireturn, 1) := by decide +kernel
theorem dX10_write_26 : decode cX10_write 26 = .ok (.aload_n 0, 1) := by decide +kernel
theorem dX10_write_27 : decode cX10_write 27 = .ok (.getfield 29, 3) := by decide +kernel
theorem dX10_write_30 : decode cX10_write 30 = .ok (.invokevirtual 147, 3) := by decide +kernel
theorem dX10_write_33 : decode cX10_write 33 = .ok (.astore_n 3, 1) := by decide +kernel
theorem dX10_write_34 : decode cX10_write 34 = .ok (.aload_n 3, 1) := by decide +kernel
theorem dX10_write_35 : decode cX10_write 35 = .ok (.getfield 125, 3) := by decide +kernel
theorem dX10_write_38 : decode cX10_write 38 = .ok (.aload_n 3, 1) := by decide +kernel
theorem dX10_write_39 : decode cX10_write 39 = .ok (.getfield 96, 3) := by decide +kernel
theorem dX10_write_42 : decode cX10_write 42 = .ok (.iload_n 1, 1) := by decide +kernel
theorem dX10_write_43 : decode cX10_write 43 = .ok (.iload_n 2, 1) := by decide +kernel
theorem dX10_write_44 : decode cX10_write 44 = .ok (.invokevirtual 150, 3) := by decide +kernel
theorem dX10_write_47 : decode cX10_write 47 = .ok (.iconst 1, 1) := by decide +kernel
theorem dX10_write_48 : decode cX10_write 48 = .ok (.ireturn, 1) := by decide +kernel
def wW_X10_write (G : GG) (h0 h1 h2 h3 h4 h5 h6 h7 h8 h9 h10 h11 h12 h13 h14 h15 h16 h17 h18 h19 h20 h21 h22 y0_0 y0_1 y0_2 y0_4 y0_5 y0_6 y0_7 y0_8 y0_9 y0_10 : Nat) (x0_11 : Int32) (x0_12 : Int32) (x1_1 : Int32) (x1_2 : Int32) (a2 : Nat → Option Nat) (x3_0 : Int32) (x3_1 : Int32) (x3_2 : Int32) (a4 : Nat → Int32) (a5 : Nat → Int32) (a6 : Nat → Int32) (a8 : Nat → Int32) (a9 : Nat → Int32) (a10 : Nat → Int32) (a11 : Nat → Int32) (a12 : Nat → Int32) (x13_0 : Int32) (x13_1 : Int32) (x13_2 : Int32) (a14 : Nat → Int32) (a15 : Nat → Int32) (a16 : Nat → Int32) (a18 : Nat → Int32) (a19 : Nat → Int32) (a20 : Nat → Int32) (a21 : Nat → Int32) (a22 : Nat → Int32) : va_W := [(h0, .inr (10, [.ref y0_0, .ref y0_1, .ref y0_2, .ref h1, .ref y0_4, .ref y0_5, .ref y0_6, .ref y0_7, .ref y0_8, .ref y0_9, .ref y0_10, .int x0_11, .int x0_12])), (h1, .inr (8, [.ref h2, .int x1_1, .int x1_2])), (h2, .inl (G.2.2.2.2.1, 13, .inr (.inr (.inr (.inr a2))))), (h3, .inr (1, [.int x3_0, .int x3_1, .int x3_2, .ref h4, .ref h5, .ref h6])), (h4, .inl (G.2.1, 32, .inl a4)), (h5, .inl (G.2.1, 256, .inl a5)), (h6, .inl (G.2.1, 256, .inl a6)), (h7, .inr (9, [.ref h8, .ref h9, .ref h10, .ref h11, .ref h12])), (h8, .inl (G.2.1, 16, .inl a8)), (h9, .inl (G.2.1, 16, .inl a9)), (h10, .inl (G.2.1, 16, .inl a10)), (h11, .inl (G.2.1, 16, .inl a11)), (h12, .inl (G.2.1, 8, .inl a12)), (h13, .inr (1, [.int x13_0, .int x13_1, .int x13_2, .ref h14, .ref h15, .ref h16])), (h14, .inl (G.2.1, 32, .inl a14)), (h15, .inl (G.2.1, 256, .inl a15)), (h16, .inl (G.2.1, 256, .inl a16)), (h17, .inr (9, [.ref h18, .ref h19, .ref h20, .ref h21, .ref h22])), (h18, .inl (G.2.1, 16, .inl a18)), (h19, .inl (G.2.1, 16, .inl a19)), (h20, .inl (G.2.1, 16, .inl a20)), (h21, .inl (G.2.1, 16, .inl a21)), (h22, .inl (G.2.1, 8, .inl a22))]
set_option maxHeartbeats 4000000 in
set_option maxRecDepth 100000 in
theorem c_X10_write (l : Launch) (G : GG) (h0 h1 h2 h3 h4 h5 h6 h7 h8 h9 h10 h11 h12 h13 h14 h15 h16 h17 h18 h19 h20 h21 h22 y0_0 y0_1 y0_2 y0_4 y0_5 y0_6 y0_7 y0_8 y0_9 y0_10 g_cur g_nxt : Nat) (sz : Nat) (x0_11 : Int32) (x0_12 : Int32) (x1_1 : Int32) (x1_2 : Int32) (a2 : Nat → Option Nat) (x3_0 : Int32) (x3_1 : Int32) (x3_2 : Int32) (a4 : Nat → Int32) (a5 : Nat → Int32) (a6 : Nat → Int32) (a8 : Nat → Int32) (a9 : Nat → Int32) (a10 : Nat → Int32) (a11 : Nat → Int32) (a12 : Nat → Int32) (x13_0 : Int32) (x13_1 : Int32) (x13_2 : Int32) (a14 : Nat → Int32) (a15 : Nat → Int32) (a16 : Nat → Int32) (a18 : Nat → Int32) (a19 : Nat → Int32) (a20 : Nat → Int32) (a21 : Nat → Int32) (a22 : Nat → Int32) (F : Nat) (b1 : Int32) (b2 : Int32) (hq_cur : (g_cur, h3, h7) ∈ gS G) (hq_nxt : (g_nxt, h13, h17) ∈ gS G) (hall : stAll G a2)  (r0 : Int32) (e_x1_1 : Int32) (e_x1_2 : Int32) (e_a2 : Nat → Option Nat) (e_x13_0 : Int32) (e_x13_1 : Int32) (e_x13_2 : Int32) (e_a14 : Nat → Int32) (e_a15 : Nat → Int32) (e_a16 : Nat → Int32) (e_a18 : Nat → Int32) (e_a19 : Nat → Int32) (e_a20 : Nat → Int32) (e_a21 : Nat → Int32) (e_a22 : Nat → Int32) (hf : p_X10_write F g_cur g_nxt x1_1 x1_2 a2 x3_0 x3_1 x3_2 a4 a5 a6 a8 a9 a10 a11 a12 x13_0 x13_1 x13_2 a14 a15 a16 a18 a19 a20 a21 a22 b1 b2 = some (r0, e_x1_1, e_x1_2, e_a2, e_x13_0, e_x13_1, e_x13_2, e_a14, e_a15, e_a16, e_a18, e_a19, e_a20, e_a21, e_a22)) : Met l yX10_write (.code yX10_write cX10_write 4 (some .boolean) :: gtbl) ({ frames := 4, cells := 0, slots := 0, locals := 110 } : Room) (PcS G [.ref h0, .int b1, .int b2] (wW_X10_write G h0 h1 h2 h3 h4 h5 h6 h7 h8 h9 h10 h11 h12 h13 h14 h15 h16 h17 h18 h19 h20 h21 h22 y0_0 y0_1 y0_2 y0_4 y0_5 y0_6 y0_7 y0_8 y0_9 y0_10 x0_11 x0_12 x1_1 x1_2 a2 x3_0 x3_1 x3_2 a4 a5 a6 a8 a9 a10 a11 a12 x13_0 x13_1 x13_2 a14 a15 a16 a18 a19 a20 a21 a22) sz) (QiS G r0 (va_A (wW_X10_write G h0 h1 h2 h3 h4 h5 h6 h7 h8 h9 h10 h11 h12 h13 h14 h15 h16 h17 h18 h19 h20 h21 h22 y0_0 y0_1 y0_2 y0_4 y0_5 y0_6 y0_7 y0_8 y0_9 y0_10 x0_11 x0_12 x1_1 x1_2 a2 x3_0 x3_1 x3_2 a4 a5 a6 a8 a9 a10 a11 a12 x13_0 x13_1 x13_2 a14 a15 a16 a18 a19 a20 a21 a22) sz) (wW_X10_write G h0 h1 h2 h3 h4 h5 h6 h7 h8 h9 h10 h11 h12 h13 h14 h15 h16 h17 h18 h19 h20 h21 h22 y0_0 y0_1 y0_2 y0_4 y0_5 y0_6 y0_7 y0_8 y0_9 y0_10 x0_11 x0_12 e_x1_1 e_x1_2 e_a2 x3_0 x3_1 x3_2 a4 a5 a6 a8 a9 a10 a11 a12 e_x13_0 e_x13_1 e_x13_2 e_a14 e_a15 e_a16 e_a18 e_a19 e_a20 e_a21 e_a22)) 0 0 (va_A (wW_X10_write G h0 h1 h2 h3 h4 h5 h6 h7 h8 h9 h10 h11 h12 h13 h14 h15 h16 h17 h18 h19 h20 h21 h22 y0_0 y0_1 y0_2 y0_4 y0_5 y0_6 y0_7 y0_8 y0_9 y0_10 x0_11 x0_12 x1_1 x1_2 a2 x3_0 x3_1 x3_2 a4 a5 a6 a8 a9 a10 a11 a12 x13_0 x13_1 x13_2 a14 a15 a16 a18 a19 a20 a21 a22) sz) := by
  refine met_start (by decide) (Nat.le_of_ble_eq_true rfl) ?_
  intro p e s m below meth c hC hr hlk hnm hK hP hD hA hS hX ls hl
  obtain ⟨hx, hb, hml, hown, ht0⟩ := hC
  have hown : s.vm.findClass RX10 = some m.cls := hown
  generalize va_A (wW_X10_write G h0 h1 h2 h3 h4 h5 h6 h7 h8 h9 h10 h11 h12 h13 h14 h15 h16 h17 h18 h19 h20 h21 h22 y0_0 y0_1 y0_2 y0_4 y0_5 y0_6 y0_7 y0_8 y0_9 y0_10 x0_11 x0_12 x1_1 x1_2 a2 x3_0 x3_1 x3_2 a4 a5 a6 a8 a9 a10 a11 a12 x13_0 x13_1 x13_2 a14 a15 a16 a18 a19 a20 a21 a22) sz = A at hD hA hS hX ⊢
  have hl : lv_has ls 4 [(0, .ref h0), (1, .int b1), (2, .int b2)] := hl
  have hf : p_X10_write F g_cur g_nxt x1_1 x1_2 a2 x3_0 x3_1 x3_2 a4 a5 a6 a8 a9 a10 a11 a12 x13_0 x13_1 x13_2 a14 a15 a16 a18 a19 a20 a21 a22 b1 b2 = some (r0, e_x1_1, e_x1_2, e_a2, e_x13_0, e_x13_1, e_x13_2, e_a14, e_a15, e_a16, e_a18, e_a19, e_a20, e_a21, e_a22) := hf
  refine lv_iload_n hx hb dX10_write_0 rfl (lv_at hl 1 rfl) ?_
  obtain ⟨r_1_0, hc_r_1_0, hf⟩ := of_bnd hf
  refine cl_Si (w2 := (wW_X10_write G h0 h1 h2 h3 h4 h5 h6 h7 h8 h9 h10 h11 h12 h13 h14 h15 h16 h17 h18 h19 h20 h21 h22 y0_0 y0_1 y0_2 y0_4 y0_5 y0_6 y0_7 y0_8 y0_9 y0_10 x0_11 x0_12 x1_1 x1_2 a2 x3_0 x3_1 x3_2 a4 a5 a6 a8 a9 a10 a11 a12 x13_0 x13_1 x13_2 a14 a15 a16 a18 a19 a20 a21 a22)) (As := [.int b1]) (rest := []) ⟨hx, hb, hml, hown, ht0⟩ (c_X10_isWord l G _ F b1 _ hc_r_1_0) yk_X10_isWord wd_791 ⟨rfl, rfl, by decide, by decide⟩ ⟨Nat.le_refl _, Nat.le_refl _⟩ hX hK hP hD hS hA [] [0, 1, 2, 3, 4, 5, 6, 7, 8, 9, 10, 11, 12, 13, 14, 15, 16, 17, 18, 19, 20, 21, 22] [0, 1, 2, 3, 4, 5, 6, 7, 8, 9, 10, 11, 12, 13, 14, 15, 16, 17, 18, 19, 20, 21, 22] rfl rfl (by decide) rfl rfl rfl rfl rfl hl.1 rfl (Nat.le_of_ble_eq_true rfl) dX10_write_1 (fun H locs hP hD hS => ?_)
  refine lv_if_eq (tgt := 24) hx hb dX10_write_4 (by decide) (fun c2 => ?_) (fun c2 => ?_)
  · have hf := of_pos hf c2
    refine lv_iconst (v := (0 : Int32)) hx hb dX10_write_24 (by decide) ?_
    cases hf
    exact ret_z hx hb hr hlk hK hP hD hS (by decide) dX10_write_25
  · have hf := of_neg hf c2
    refine lv_aload_n hx hb dX10_write_7 rfl (lv_at hl 0 rfl) ?_
    refine va_get (ci := 10) (v := .ref h1) (C := RX10) (T := TX10) (N := 13) hx hb ht0 iX10 hown hK hP 0 rfl rfl 3 (by decide) (ht0 _ wd_543) (fun _ h9 => h9) rfl dX10_write_8 ?_
    obtain ⟨_, hc_r_11_2, hf⟩ := of_bnd hf
    refine cl_Vr (w2 := (wW_X10_write G h0 h1 h2 h3 h4 h5 h6 h7 h8 h9 h10 h11 h12 h13 h14 h15 h16 h17 h18 h19 h20 h21 h22 y0_0 y0_1 y0_2 y0_4 y0_5 y0_6 y0_7 y0_8 y0_9 y0_10 x0_11 x0_12 x1_1 x1_2 a2 x3_0 x3_1 x3_2 a4 a5 a6 a8 a9 a10 a11 a12 x13_0 x13_1 x13_2 a14 a15 a16 a18 a19 a20 a21 a22)) (As := []) (rest := []) ⟨hx, hb, hml, hown, ht0⟩ (c_X8_now l G h1 h2 g_cur h3 h7 _ x1_1 x1_2 a2 F hq_cur hc_r_11_2) yk_X8_now wd_531 ⟨rfl, rfl, by decide, by decide⟩ ⟨Nat.le_refl _, Nat.le_refl _⟩ hX hK hP hD hS hA [1, 2] [0, 3, 4, 5, 6, 7, 8, 9, 10, 11, 12, 13, 14, 15, 16, 17, 18, 19, 20, 21, 22] [0, 21, 22, 1, 2, 3, 4, 5, 6, 7, 8, 9, 10, 11, 12, 13, 14, 15, 16, 17, 18, 19, 20] (va_recv hK hP (ci := 8) (q0 := 1) rfl rfl) rfl rfl (by decide) rfl rfl rfl rfl rfl hl.1 rfl (Nat.le_of_ble_eq_true rfl) dX10_write_11 (fun H locs hP hD hS => ?_)
    refine vk_getf hx hb (hX.2.2 _ hq_cur).2.1 hS hown (ht0 _ wd_342) (fun _ h => h) dX10_write_14 ?_
    refine lv_iload_n hx hb dX10_write_17 rfl (lv_at hl 2 rfl) ?_
    obtain ⟨r_18_3, hc_r_18_3, hf⟩ := of_bnd hf
    refine cl_Vi (w2 := (wW_X10_write G h0 h1 h2 h3 h4 h5 h6 h7 h8 h9 h10 h11 h12 h13 h14 h15 h16 h17 h18 h19 h20 h21 h22 y0_0 y0_1 y0_2 y0_4 y0_5 y0_6 y0_7 y0_8 y0_9 y0_10 x0_11 x0_12 x1_1 x1_2 a2 x3_0 x3_1 x3_2 a4 a5 a6 a8 a9 a10 a11 a12 x13_0 x13_1 x13_2 a14 a15 a16 a18 a19 a20 a21 a22)) (As := [.int b2]) (rest := []) ⟨hx, hb, hml, hown, ht0⟩ (c_X1_isDataValue l G h3 h4 h5 h6 _ x3_0 x3_1 x3_2 F b2 _ hc_r_18_3) yk_X1_isDataValue wd_794 ⟨rfl, rfl, by decide, by decide⟩ ⟨Nat.le_refl _, Nat.le_refl _⟩ hX hK hP hD hS hA [3] [0, 1, 2, 4, 5, 6, 7, 8, 9, 10, 11, 12, 13, 14, 15, 16, 17, 18, 19, 20, 21, 22] [0, 1, 2, 22, 3, 4, 5, 6, 7, 8, 9, 10, 11, 12, 13, 14, 15, 16, 17, 18, 19, 20, 21] (va_recv hK hP (ci := 1) (q0 := 3) rfl rfl) rfl rfl (by decide) rfl rfl rfl rfl rfl hl.1 rfl (Nat.le_of_ble_eq_true rfl) dX10_write_18 (fun H locs hP hD hS => ?_)
    refine lv_if_ne (tgt := 26) hx hb dX10_write_21 (by decide) (fun c5 => ?_) (fun c5 => ?_)
    · have hf := of_neg hf c5
      refine lv_aload_n hx hb dX10_write_26 rfl (lv_at hl 0 rfl) ?_
      refine va_get (ci := 10) (v := .ref h1) (C := RX10) (T := TX10) (N := 13) hx hb ht0 iX10 hown hK hP 0 rfl rfl 3 (by decide) (ht0 _ wd_543) (fun _ h9 => h9) rfl dX10_write_27 ?_
      obtain ⟨⟨r_30_5_x0_1, r_30_5_x0_2, r_30_5_a1, r_30_5_x12_0, r_30_5_x12_1, r_30_5_x12_2, r_30_5_a13, r_30_5_a14, r_30_5_a15, r_30_5_a17, r_30_5_a18, r_30_5_a19, r_30_5_a20, r_30_5_a21⟩, hc_r_30_5, hf⟩ := of_bnd hf
      refine cl_Vr (w2 := (wW_X10_write G h0 h1 h2 h3 h4 h5 h6 h7 h8 h9 h10 h11 h12 h13 h14 h15 h16 h17 h18 h19 h20 h21 h22 y0_0 y0_1 y0_2 y0_4 y0_5 y0_6 y0_7 y0_8 y0_9 y0_10 x0_11 x0_12 r_30_5_x0_1 r_30_5_x0_2 r_30_5_a1 x3_0 x3_1 x3_2 a4 a5 a6 a8 a9 a10 a11 a12 r_30_5_x12_0 r_30_5_x12_1 r_30_5_x12_2 r_30_5_a13 r_30_5_a14 r_30_5_a15 r_30_5_a17 r_30_5_a18 r_30_5_a19 r_30_5_a20 r_30_5_a21)) (As := []) (rest := []) ⟨hx, hb, hml, hown, ht0⟩ (c_X8_beginAct l G h1 h2 h3 h4 h5 h6 h7 h8 h9 h10 h11 h12 h13 h14 h15 h16 h17 h18 h19 h20 h21 h22 g_cur g_nxt _ x1_1 x1_2 a2 x3_0 x3_1 x3_2 a4 a5 a6 a8 a9 a10 a11 a12 x13_0 x13_1 x13_2 a14 a15 a16 a18 a19 a20 a21 a22 F hq_cur hq_nxt hall _ _ _ _ _ _ _ _ _ _ _ _ _ _ hc_r_30_5) yk_X8_beginAct wd_798 ⟨rfl, rfl, by decide, by decide⟩ ⟨Nat.le_refl _, Nat.le_refl _⟩ hX hK hP hD hS hA [1, 2, 3, 4, 5, 6, 7, 8, 9, 10, 11, 12, 13, 14, 15, 16, 17, 18, 19, 20, 21, 22] [0] [0, 1, 2, 3, 4, 5, 6, 7, 8, 9, 10, 11, 12, 13, 14, 15, 16, 17, 18, 19, 20, 21, 22] (va_recv hK hP (ci := 8) (q0 := 1) rfl rfl) rfl rfl (by decide) rfl rfl rfl rfl rfl hl.1 rfl (Nat.le_of_ble_eq_true rfl) dX10_write_30 (fun H locs hP hD hS => ?_)
      refine lv_astore_n (lv' := [(3, .ref g_nxt), (0, .ref h0), (1, .int b1), (2, .int b2)]) hx hb dX10_write_33 rfl hl (by decide) rfl (fun ls hl => ?_)
      refine lv_aload_n hx hb dX10_write_34 rfl (lv_at hl 0 rfl) ?_
      refine vk_getf hx hb (hX.2.2 _ hq_nxt).2.2 hS hown (ht0 _ wd_344) (fun _ h => h) dX10_write_35 ?_
      refine lv_aload_n hx hb dX10_write_38 rfl (lv_at hl 0 rfl) ?_
      refine vk_getf hx hb (hX.2.2 _ hq_nxt).2.1 hS hown (ht0 _ wd_342) (fun _ h => h) dX10_write_39 ?_
      refine lv_iload_n hx hb dX10_write_42 rfl (lv_at hl 2 rfl) ?_
      refine lv_iload_n hx hb dX10_write_43 rfl (lv_at hl 3 rfl) ?_
      obtain ⟨⟨r_44_6_a1, r_44_6_a2, r_44_6_a4⟩, hc_r_44_6, hf⟩ := of_bnd hf
      refine cl_Vv (w2 := (wW_X10_write G h0 h1 h2 h3 h4 h5 h6 h7 h8 h9 h10 h11 h12 h13 h14 h15 h16 h17 h18 h19 h20 h21 h22 y0_0 y0_1 y0_2 y0_4 y0_5 y0_6 y0_7 y0_8 y0_9 y0_10 x0_11 x0_12 r_30_5_x0_1 r_30_5_x0_2 r_30_5_a1 x3_0 x3_1 x3_2 a4 a5 a6 a8 a9 a10 a11 a12 r_30_5_x12_0 r_30_5_x12_1 r_30_5_x12_2 r_30_5_a13 r_30_5_a14 r_30_5_a15 r_44_6_a1 r_44_6_a2 r_30_5_a19 r_44_6_a4 r_30_5_a21)) (As := [.ref h13, .int b1, .int b2]) (rest := []) ⟨hx, hb, hml, hown, ht0⟩ (c_X9_writeMeant l G h17 h18 h19 h20 h21 h13 h14 h22 h15 h16 _ r_30_5_a17 r_30_5_a18 r_30_5_a19 r_30_5_a20 r_30_5_x12_0 r_30_5_x12_1 r_30_5_x12_2 r_30_5_a13 F b1 b2 _ _ _ hc_r_44_6) yk_X9_writeMeant wd_816 ⟨rfl, rfl, by decide, by decide⟩ ⟨Nat.le_refl _, Nat.le_refl _⟩ hX hK hP hD hS hA [17, 18, 19, 20, 21, 13, 14] [0, 1, 2, 3, 4, 5, 6, 7, 8, 9, 10, 11, 12, 15, 16, 22] [0, 1, 2, 3, 4, 5, 6, 7, 8, 9, 10, 11, 12, 21, 22, 13, 14, 16, 17, 18, 19, 20, 15] (va_recv hK hP (ci := 9) (q0 := 17) rfl rfl) rfl rfl (by decide) rfl rfl rfl rfl rfl hl.1 rfl (Nat.le_of_ble_eq_true rfl) dX10_write_44 (fun H locs hP hD hS => ?_)
      refine lv_iconst (v := (1 : Int32)) hx hb dX10_write_47 (by decide) ?_
      cases hf
      exact ret_z hx hb hr hlk hK hP hD hS (by decide) dX10_write_48
    · have hf := of_pos hf c5
      refine lv_iconst (v := (0 : Int32)) hx hb dX10_write_24 (by decide) ?_
      cases hf
      exact ret_z hx hb hr hlk hK hP hD hS (by decide) dX10_write_25
theorem yk_X10_write : ykV yX10_write RX10 cX10_write 4 (some .boolean) 2 := ⟨wd_788, wd_789, wd_127, wd_790, rfl, by decide +kernel, by decide +kernel, by decide +kernel⟩
theorem dX10_part_0 : decode cX10_part 0 = .ok (.aload_n 0, 1) := by decide +kernel
theorem dX10_part_1 : decode cX10_part 1 = .ok (.getfield 29, 3) := by decide +kernel
theorem dX10_part_4 : decode cX10_part 4 = .ok (.invokevirtual 92, 3) := by decide +kernel
theorem dX10_part_7 : decode cX10_part 7 = .ok (.astore 4, 2) := by decide +kernel
theorem dX10_part_9 : decode cX10_part 9 = .ok (.iload_n 1, 1) := by decide +kernel
theorem dX10_part_10 : decode cX10_part 10 = .ok (.invokestatic 140, 3) := by decide +kernel
theorem dX10_part_13 : decode cX10_part 13 = .ok (.ifCond .eq 27, 3) := by decide +kernel
theorem dX10_part_16 : decode cX10_part 16 = .ok (.aload 4, 2) := by decide +kernel
theorem dX10_part_18 : decode cX10_part 18 = .ok (.getfield 96, 3) := by decide +kernel
theorem dX10_part_21 : decode cX10_part 21 = .ok (.iload_n 2, 1) := by decide +kernel
theorem dX10_part_22 : decode cX10_part 22 = .ok (.invokevirtual 144, 3) := by decide +kernel
theorem dX10_part_25 : decode cX10_part 25 = .ok (.ifCond .eq 15, 3) := by decide +kernel
theorem dX10_part_28 : decode cX10_part 28 = .ok (.aload 4, 2) := by decide +kernel
theorem dX10_part_30 : decode cX10_part 30 = .ok (.getfield 96, 3) := by decide +kernel
theorem dX10_part_33 : decode cX10_part 33 = .ok (.iload_n 3, 1) := by decide +kernel
theorem dX10_part_34 : decode cX10_part 34 = .ok (.invokevirtual 144, 3) := by decide +kernel
theorem dX10_part_37 : decode cX10_part 37 = .ok (.ifCond .ne 5, 3) := by decide +kernel
theorem dX10_part_40 : decode cX10_part 40 = .ok (.iconst (-1), 1) := by decide +kernel
theorem dX10_part_41 : decode cX10_part 41 = .ok (.ireturn, 1) := by decide +kernel
theorem dX10_part_42 : decode cX10_part 42 = .ok (.aload 4, 2) := by decide +kernel
theorem dX10_part_44 : decode cX10_part 44 = .ok (.getfield 125, 3) := by decide +kernel
theorem dX10_part_47 : decode cX10_part 47 = .ok (.aload 4, 2) := by decide +kernel
theorem dX10_part_49 : decode cX10_part 49 = .ok (.getfield 96, 3) := by decide +kernel
theorem dX10_part_52 : decode cX10_part 52 = .ok (.iload_n 1, 1) := by decide +kernel
theorem dX10_part_53 : decode cX10_part 53 = .ok (.aload_n 0, 1) := by decide +kernel
theorem dX10_part_54 : decode cX10_part 54 = .ok (.getfield 47, 3) := by decide +kernel
theorem dX10_part_57 : decode cX10_part 57 = .ok (.invokevirtual 154, 3) := by decide +kernel
theorem dX10_part_60 : decode cX10_part 60 = .ok (.aload_n 0, 1) := by decide +kernel
theorem dX10_part_61 : decode cX10_part 61 = .ok (.getfield 47, 3) := by decide +kernel
theorem dX10_part_64 : decode cX10_part 64 = .ok (.invokevirtual 158, 3) := by decide +kernel
theorem dX10_part_67 : decode cX10_part 67 = .ok (.ifCond .eq 11, 3) := by decide +kernel
theorem dX10_part_70 : decode cX10_part 70 = .ok (.aload_n 0, 1) := by decide +kernel
theorem dX10_part_71 : decode cX10_part 71 = .ok (.getfield 47, 3) := by decide +kernel
theorem dX10_part_74 : decode cX10_part 74 = .ok (.getfield 161, 3) := by decide +kernel
theorem dX10_part_77 : decode cX10_part 77 = .ok (.ireturn, 1) := by decide +kernel
theorem dX10_part_78 : decode cX10_part 78 = .ok (.aload_n 0, 1) := by decide +kernel
theorem dX10_part_79 : decode cX10_part 79 = .ok (.getfield 29, 3) := by decide +kernel
theorem dX10_part_82 : decode cX10_part 82 = .ok (.invokevirtual 147, 3) := by decide +kernel
theorem dX10_part_85 : decode cX10_part 85 = .ok (.astore 5, 2) := by decide +kernel
theorem dX10_part_87 : decode cX10_part 87 = .ok (.aload 5, 2) := by decide +kernel
theorem dX10_part_89 : decode cX10_part 89 = .ok (.getfield 125, 3) := by decide +kernel
theorem dX10_part_92 : decode cX10_part 92 = .ok (.aload 5, 2) := by decide +kernel
theorem dX10_part_94 : decode cX10_part 94 = .ok (.getfield 96, 3) := by decide +kernel
theorem dX10_part_97 : decode cX10_part 97 = .ok (.iload_n 1, 1) := by decide +kernel
theorem dX10_part_98 : decode cX10_part 98 = .ok (.iload_n 2, 1) := by decide +kernel
theorem dX10_part_99 : decode cX10_part 99 = .ok (.iload_n 3, 1) := by decide +kernel
theorem dX10_part_100 : decode cX10_part 100 = .ok (.aload_n 0, 1) := by decide +kernel
theorem dX10_part_101 : decode cX10_part 101 = .ok (.getfield 47, 3) := by decide +kernel
theorem dX10_part_104 : decode cX10_part 104 = .ok (.invokevirtual 164, 3) := by decide +kernel
theorem dX10_part_107 : decode cX10_part 107 = .ok (.aload_n 0, 1) := by decide +kernel
theorem dX10_part_108 : decode cX10_part 108 = .ok (.getfield 47, 3) := by decide +kernel
theorem dX10_part_111 : decode cX10_part 111 = .ok (.getfield 161, 3) := by decide +kernel
theorem dX10_part_114 : decode cX10_part 114 = .ok (.ireturn, 1) := by decide +kernel
def wW_X10_part (G : GG) (h0 h1 h2 h3 h4 h5 h6 h7 h8 h9 h10 h11 h12 h13 h14 h15 h16 h17 h18 h19 h20 h21 h22 h23 y0_0 y0_1 y0_2 y0_4 y0_5 y0_7 y0_8 y0_9 y0_10 : Nat) (x0_11 : Int32) (x0_12 : Int32) (x1_1 : Int32) (x1_2 : Int32) (a2 : Nat → Option Nat) (x3_0 : Int32) (x3_1 : Int32) (x3_2 : Int32) (x4_0 : Int32) (x4_1 : Int32) (x4_2 : Int32) (a5 : Nat → Int32) (a6 : Nat → Int32) (a7 : Nat → Int32) (a9 : Nat → Int32) (a10 : Nat → Int32) (a11 : Nat → Int32) (a12 : Nat → Int32) (a13 : Nat → Int32) (x14_0 : Int32) (x14_1 : Int32) (x14_2 : Int32) (a15 : Nat → Int32) (a16 : Nat → Int32) (a17 : Nat → Int32) (a19 : Nat → Int32) (a20 : Nat → Int32) (a21 : Nat → Int32) (a22 : Nat → Int32) (a23 : Nat → Int32) : va_W := [(h0, .inr (10, [.ref y0_0, .ref y0_1, .ref y0_2, .ref h1, .ref y0_4, .ref y0_5, .ref h3, .ref y0_7, .ref y0_8, .ref y0_9, .ref y0_10, .int x0_11, .int x0_12])), (h1, .inr (8, [.ref h2, .int x1_1, .int x1_2])), (h2, .inl (G.2.2.2.2.1, 13, .inr (.inr (.inr (.inr a2))))), (h3, .inr (2, [.int x3_0, .int x3_1, .int x3_2])), (h4, .inr (1, [.int x4_0, .int x4_1, .int x4_2, .ref h5, .ref h6, .ref h7])), (h5, .inl (G.2.1, 32, .inl a5)), (h6, .inl (G.2.1, 256, .inl a6)), (h7, .inl (G.2.1, 256, .inl a7)), (h8, .inr (9, [.ref h9, .ref h10, .ref h11, .ref h12, .ref h13])), (h9, .inl (G.2.1, 16, .inl a9)), (h10, .inl (G.2.1, 16, .inl a10)), (h11, .inl (G.2.1, 16, .inl a11)), (h12, .inl (G.2.1, 16, .inl a12)), (h13, .inl (G.2.1, 8, .inl a13)), (h14, .inr (1, [.int x14_0, .int x14_1, .int x14_2, .ref h15, .ref h16, .ref h17])), (h15, .inl (G.2.1, 32, .inl a15)), (h16, .inl (G.2.1, 256, .inl a16)), (h17, .inl (G.2.1, 256, .inl a17)), (h18, .inr (9, [.ref h19, .ref h20, .ref h21, .ref h22, .ref h23])), (h19, .inl (G.2.1, 16, .inl a19)), (h20, .inl (G.2.1, 16, .inl a20)), (h21, .inl (G.2.1, 16, .inl a21)), (h22, .inl (G.2.1, 16, .inl a22)), (h23, .inl (G.2.1, 8, .inl a23))]
set_option maxHeartbeats 4000000 in
set_option maxRecDepth 100000 in
theorem c_X10_part (l : Launch) (G : GG) (h0 h1 h2 h3 h4 h5 h6 h7 h8 h9 h10 h11 h12 h13 h14 h15 h16 h17 h18 h19 h20 h21 h22 h23 y0_0 y0_1 y0_2 y0_4 y0_5 y0_7 y0_8 y0_9 y0_10 g_cur g_nxt : Nat) (sz : Nat) (x0_11 : Int32) (x0_12 : Int32) (x1_1 : Int32) (x1_2 : Int32) (a2 : Nat → Option Nat) (x3_0 : Int32) (x3_1 : Int32) (x3_2 : Int32) (x4_0 : Int32) (x4_1 : Int32) (x4_2 : Int32) (a5 : Nat → Int32) (a6 : Nat → Int32) (a7 : Nat → Int32) (a9 : Nat → Int32) (a10 : Nat → Int32) (a11 : Nat → Int32) (a12 : Nat → Int32) (a13 : Nat → Int32) (x14_0 : Int32) (x14_1 : Int32) (x14_2 : Int32) (a15 : Nat → Int32) (a16 : Nat → Int32) (a17 : Nat → Int32) (a19 : Nat → Int32) (a20 : Nat → Int32) (a21 : Nat → Int32) (a22 : Nat → Int32) (a23 : Nat → Int32) (F : Nat) (b1 : Int32) (b2 : Int32) (b3 : Int32) (hq_cur : (g_cur, h4, h8) ∈ gS G) (hq_nxt : (g_nxt, h14, h18) ∈ gS G) (hall : stAll G a2)  (r0 : Int32) (e_x1_1 : Int32) (e_x1_2 : Int32) (e_a2 : Nat → Option Nat) (e_x3_0 : Int32) (e_x3_1 : Int32) (e_x3_2 : Int32) (e_x14_0 : Int32) (e_x14_1 : Int32) (e_x14_2 : Int32) (e_a15 : Nat → Int32) (e_a16 : Nat → Int32) (e_a17 : Nat → Int32) (e_a19 : Nat → Int32) (e_a20 : Nat → Int32) (e_a21 : Nat → Int32) (e_a22 : Nat → Int32) (e_a23 : Nat → Int32) (hf : p_X10_part F g_cur g_nxt x1_1 x1_2 a2 x3_0 x3_1 x3_2 x4_0 x4_1 x4_2 a5 a6 a7 a9 a10 a11 a12 a13 x14_0 x14_1 x14_2 a15 a16 a17 a19 a20 a21 a22 a23 b1 b2 b3 = some (r0, e_x1_1, e_x1_2, e_a2, e_x3_0, e_x3_1, e_x3_2, e_x14_0, e_x14_1, e_x14_2, e_a15, e_a16, e_a17, e_a19, e_a20, e_a21, e_a22, e_a23)) : Met l yX10_part (.code yX10_part cX10_part 6 (some .int) :: gtbl) ({ frames := 4, cells := 0, slots := 0, locals := 110 } : Room) (PcS G [.ref h0, .int b1, .int b2, .int b3] (wW_X10_part G h0 h1 h2 h3 h4 h5 h6 h7 h8 h9 h10 h11 h12 h13 h14 h15 h16 h17 h18 h19 h20 h21 h22 h23 y0_0 y0_1 y0_2 y0_4 y0_5 y0_7 y0_8 y0_9 y0_10 x0_11 x0_12 x1_1 x1_2 a2 x3_0 x3_1 x3_2 x4_0 x4_1 x4_2 a5 a6 a7 a9 a10 a11 a12 a13 x14_0 x14_1 x14_2 a15 a16 a17 a19 a20 a21 a22 a23) sz) (QiS G r0 (va_A (wW_X10_part G h0 h1 h2 h3 h4 h5 h6 h7 h8 h9 h10 h11 h12 h13 h14 h15 h16 h17 h18 h19 h20 h21 h22 h23 y0_0 y0_1 y0_2 y0_4 y0_5 y0_7 y0_8 y0_9 y0_10 x0_11 x0_12 x1_1 x1_2 a2 x3_0 x3_1 x3_2 x4_0 x4_1 x4_2 a5 a6 a7 a9 a10 a11 a12 a13 x14_0 x14_1 x14_2 a15 a16 a17 a19 a20 a21 a22 a23) sz) (wW_X10_part G h0 h1 h2 h3 h4 h5 h6 h7 h8 h9 h10 h11 h12 h13 h14 h15 h16 h17 h18 h19 h20 h21 h22 h23 y0_0 y0_1 y0_2 y0_4 y0_5 y0_7 y0_8 y0_9 y0_10 x0_11 x0_12 e_x1_1 e_x1_2 e_a2 e_x3_0 e_x3_1 e_x3_2 x4_0 x4_1 x4_2 a5 a6 a7 a9 a10 a11 a12 a13 e_x14_0 e_x14_1 e_x14_2 e_a15 e_a16 e_a17 e_a19 e_a20 e_a21 e_a22 e_a23)) 0 0 (va_A (wW_X10_part G h0 h1 h2 h3 h4 h5 h6 h7 h8 h9 h10 h11 h12 h13 h14 h15 h16 h17 h18 h19 h20 h21 h22 h23 y0_0 y0_1 y0_2 y0_4 y0_5 y0_7 y0_8 y0_9 y0_10 x0_11 x0_12 x1_1 x1_2 a2 x3_0 x3_1 x3_2 x4_0 x4_1 x4_2 a5 a6 a7 a9 a10 a11 a12 a13 x14_0 x14_1 x14_2 a15 a16 a17 a19 a20 a21 a22 a23) sz) := by
  refine met_start (by decide) (Nat.le_of_ble_eq_true rfl) ?_
  intro p e s m below meth c hC hr hlk hnm hK hP hD hA hS hX ls hl
  obtain ⟨hx, hb, hml, hown, ht0⟩ := hC
  have hown : s.vm.findClass RX10 = some m.cls := hown
  generalize va_A (wW_X10_part G h0 h1 h2 h3 h4 h5 h6 h7 h8 h9 h10 h11 h12 h13 h14 h15 h16 h17 h18 h19 h20 h21 h22 h23 y0_0 y0_1 y0_2 y0_4 y0_5 y0_7 y0_8 y0_9 y0_10 x0_11 x0_12 x1_1 x1_2 a2 x3_0 x3_1 x3_2 x4_0 x4_1 x4_2 a5 a6 a7 a9 a10 a11 a12 a13 x14_0 x14_1 x14_2 a15 a16 a17 a19 a20 a21 a22 a23) sz = A at hD hA hS hX ⊢
  have hl : lv_has ls 6 [(0, .ref h0), (1, .int b1), (2, .int b2), (3, .int b3)] := hl
  have hf : p_X10_part F g_cur g_nxt x1_1 x1_2 a2 x3_0 x3_1 x3_2 x4_0 x4_1 x4_2 a5 a6 a7 a9 a10 a11 a12 a13 x14_0 x14_1 x14_2 a15 a16 a17 a19 a20 a21 a22 a23 b1 b2 b3 = some (r0, e_x1_1, e_x1_2, e_a2, e_x3_0, e_x3_1, e_x3_2, e_x14_0, e_x14_1, e_x14_2, e_a15, e_a16, e_a17, e_a19, e_a20, e_a21, e_a22, e_a23) := hf
  refine lv_aload_n hx hb dX10_part_0 rfl (lv_at hl 0 rfl) ?_
  refine va_get (ci := 10) (v := .ref h1) (C := RX10) (T := TX10) (N := 13) hx hb ht0 iX10 hown hK hP 0 rfl rfl 3 (by decide) (ht0 _ wd_543) (fun _ h9 => h9) rfl dX10_part_1 ?_
  obtain ⟨_, hc_r_4_0, hf⟩ := of_bnd hf
  refine cl_Vr (w2 := (wW_X10_part G h0 h1 h2 h3 h4 h5 h6 h7 h8 h9 h10 h11 h12 h13 h14 h15 h16 h17 h18 h19 h20 h21 h22 h23 y0_0 y0_1 y0_2 y0_4 y0_5 y0_7 y0_8 y0_9 y0_10 x0_11 x0_12 x1_1 x1_2 a2 x3_0 x3_1 x3_2 x4_0 x4_1 x4_2 a5 a6 a7 a9 a10 a11 a12 a13 x14_0 x14_1 x14_2 a15 a16 a17 a19 a20 a21 a22 a23)) (As := []) (rest := []) ⟨hx, hb, hml, hown, ht0⟩ (c_X8_now l G h1 h2 g_cur h4 h8 _ x1_1 x1_2 a2 F hq_cur hc_r_4_0) yk_X8_now wd_531 ⟨rfl, rfl, by decide, by decide⟩ ⟨Nat.le_refl _, Nat.le_refl _⟩ hX hK hP hD hS hA [1, 2] [0, 3, 4, 5, 6, 7, 8, 9, 10, 11, 12, 13, 14, 15, 16, 17, 18, 19, 20, 21, 22, 23] [0, 22, 23, 1, 2, 3, 4, 5, 6, 7, 8, 9, 10, 11, 12, 13, 14, 15, 16, 17, 18, 19, 20, 21] (va_recv hK hP (ci := 8) (q0 := 1) rfl rfl) rfl rfl (by decide) rfl rfl rfl rfl rfl hl.1 rfl (Nat.le_of_ble_eq_true rfl) dX10_part_4 (fun H locs hP hD hS => ?_)
  refine lv_astore (lv' := [(4, .ref g_cur), (0, .ref h0), (1, .int b1), (2, .int b2), (3, .int b3)]) hx hb dX10_part_7 hl (by decide) rfl (fun ls hl => ?_)
  refine lv_iload_n hx hb dX10_part_9 rfl (lv_at hl 2 rfl) ?_
  obtain ⟨r_10_1, hc_r_10_1, hf⟩ := of_bnd hf
  refine cl_Si (w2 := (wW_X10_part G h0 h1 h2 h3 h4 h5 h6 h7 h8 h9 h10 h11 h12 h13 h14 h15 h16 h17 h18 h19 h20 h21 h22 h23 y0_0 y0_1 y0_2 y0_4 y0_5 y0_7 y0_8 y0_9 y0_10 x0_11 x0_12 x1_1 x1_2 a2 x3_0 x3_1 x3_2 x4_0 x4_1 x4_2 a5 a6 a7 a9 a10 a11 a12 a13 x14_0 x14_1 x14_2 a15 a16 a17 a19 a20 a21 a22 a23)) (As := [.int b1]) (rest := []) ⟨hx, hb, hml, hown, ht0⟩ (c_X10_isWord l G _ F b1 _ hc_r_10_1) yk_X10_isWord wd_791 ⟨rfl, rfl, by decide, by decide⟩ ⟨Nat.le_refl _, Nat.le_refl _⟩ hX hK hP hD hS hA [] [0, 1, 2, 3, 4, 5, 6, 7, 8, 9, 10, 11, 12, 13, 14, 15, 16, 17, 18, 19, 20, 21, 22, 23] [0, 1, 2, 3, 4, 5, 6, 7, 8, 9, 10, 11, 12, 13, 14, 15, 16, 17, 18, 19, 20, 21, 22, 23] rfl rfl (by decide) rfl rfl rfl rfl rfl hl.1 rfl (Nat.le_of_ble_eq_true rfl) dX10_part_10 (fun H locs hP hD hS => ?_)
  refine lv_if_eq (tgt := 40) hx hb dX10_part_13 (by decide) (fun c3 => ?_) (fun c3 => ?_)
  · have hf := of_pos hf c3
    refine lv_iconst (v := (-1 : Int32)) hx hb dX10_part_40 (by decide) ?_
    cases hf
    exact ret_i hx hb hr hlk hK hP hD hS dX10_part_41
  · have hf := of_neg hf c3
    refine lv_aload hx hb dX10_part_16 (lv_at hl 0 rfl) ?_
    refine vk_getf hx hb (hX.2.2 _ hq_cur).2.1 hS hown (ht0 _ wd_342) (fun _ h => h) dX10_part_18 ?_
    refine lv_iload_n hx hb dX10_part_21 rfl (lv_at hl 3 rfl) ?_
    obtain ⟨r_22_3, hc_r_22_3, hf⟩ := of_bnd hf
    refine cl_Vi (w2 := (wW_X10_part G h0 h1 h2 h3 h4 h5 h6 h7 h8 h9 h10 h11 h12 h13 h14 h15 h16 h17 h18 h19 h20 h21 h22 h23 y0_0 y0_1 y0_2 y0_4 y0_5 y0_7 y0_8 y0_9 y0_10 x0_11 x0_12 x1_1 x1_2 a2 x3_0 x3_1 x3_2 x4_0 x4_1 x4_2 a5 a6 a7 a9 a10 a11 a12 a13 x14_0 x14_1 x14_2 a15 a16 a17 a19 a20 a21 a22 a23)) (As := [.int b2]) (rest := []) ⟨hx, hb, hml, hown, ht0⟩ (c_X1_isDataValue l G h4 h5 h6 h7 _ x4_0 x4_1 x4_2 F b2 _ hc_r_22_3) yk_X1_isDataValue wd_794 ⟨rfl, rfl, by decide, by decide⟩ ⟨Nat.le_refl _, Nat.le_refl _⟩ hX hK hP hD hS hA [4] [0, 1, 2, 3, 5, 6, 7, 8, 9, 10, 11, 12, 13, 14, 15, 16, 17, 18, 19, 20, 21, 22, 23] [0, 1, 2, 3, 23, 4, 5, 6, 7, 8, 9, 10, 11, 12, 13, 14, 15, 16, 17, 18, 19, 20, 21, 22] (va_recv hK hP (ci := 1) (q0 := 4) rfl rfl) rfl rfl (by decide) rfl rfl rfl rfl rfl hl.1 rfl (Nat.le_of_ble_eq_true rfl) dX10_part_22 (fun H locs hP hD hS => ?_)
    refine lv_if_eq (tgt := 40) hx hb dX10_part_25 (by decide) (fun c5 => ?_) (fun c5 => ?_)
    · have hf := of_pos hf c5
      refine lv_iconst (v := (-1 : Int32)) hx hb dX10_part_40 (by decide) ?_
      cases hf
      exact ret_i hx hb hr hlk hK hP hD hS dX10_part_41
    · have hf := of_neg hf c5
      refine lv_aload hx hb dX10_part_28 (lv_at hl 0 rfl) ?_
      refine vk_getf hx hb (hX.2.2 _ hq_cur).2.1 hS hown (ht0 _ wd_342) (fun _ h => h) dX10_part_30 ?_
      refine lv_iload_n hx hb dX10_part_33 rfl (lv_at hl 4 rfl) ?_
      obtain ⟨r_34_5, hc_r_34_5, hf⟩ := of_bnd hf
      refine cl_Vi (w2 := (wW_X10_part G h0 h1 h2 h3 h4 h5 h6 h7 h8 h9 h10 h11 h12 h13 h14 h15 h16 h17 h18 h19 h20 h21 h22 h23 y0_0 y0_1 y0_2 y0_4 y0_5 y0_7 y0_8 y0_9 y0_10 x0_11 x0_12 x1_1 x1_2 a2 x3_0 x3_1 x3_2 x4_0 x4_1 x4_2 a5 a6 a7 a9 a10 a11 a12 a13 x14_0 x14_1 x14_2 a15 a16 a17 a19 a20 a21 a22 a23)) (As := [.int b3]) (rest := []) ⟨hx, hb, hml, hown, ht0⟩ (c_X1_isDataValue l G h4 h5 h6 h7 _ x4_0 x4_1 x4_2 F b3 _ hc_r_34_5) yk_X1_isDataValue wd_794 ⟨rfl, rfl, by decide, by decide⟩ ⟨Nat.le_refl _, Nat.le_refl _⟩ hX hK hP hD hS hA [4] [0, 1, 2, 3, 5, 6, 7, 8, 9, 10, 11, 12, 13, 14, 15, 16, 17, 18, 19, 20, 21, 22, 23] [0, 1, 2, 3, 23, 4, 5, 6, 7, 8, 9, 10, 11, 12, 13, 14, 15, 16, 17, 18, 19, 20, 21, 22] (va_recv hK hP (ci := 1) (q0 := 4) rfl rfl) rfl rfl (by decide) rfl rfl rfl rfl rfl hl.1 rfl (Nat.le_of_ble_eq_true rfl) dX10_part_34 (fun H locs hP hD hS => ?_)
      refine lv_if_ne (tgt := 42) hx hb dX10_part_37 (by decide) (fun c7 => ?_) (fun c7 => ?_)
      · have hf := of_neg hf c7
        refine lv_aload hx hb dX10_part_42 (lv_at hl 0 rfl) ?_
        refine vk_getf hx hb (hX.2.2 _ hq_cur).2.2 hS hown (ht0 _ wd_344) (fun _ h => h) dX10_part_44 ?_
        refine lv_aload hx hb dX10_part_47 (lv_at hl 0 rfl) ?_
        refine vk_getf hx hb (hX.2.2 _ hq_cur).2.1 hS hown (ht0 _ wd_342) (fun _ h => h) dX10_part_49 ?_
        refine lv_iload_n hx hb dX10_part_52 rfl (lv_at hl 2 rfl) ?_
        refine lv_aload_n hx hb dX10_part_53 rfl (lv_at hl 1 rfl) ?_
        refine va_get (ci := 10) (v := .ref h3) (C := RX10) (T := TX10) (N := 13) hx hb ht0 iX10 hown hK hP 0 rfl rfl 6 (by decide) (ht0 _ wd_546) (fun _ h9 => h9) rfl dX10_part_54 ?_
        obtain ⟨⟨r_57_7_x7_0, r_57_7_x7_1, r_57_7_x7_2⟩, hc_r_57_7, hf⟩ := of_bnd hf
        refine cl_Vv (w2 := (wW_X10_part G h0 h1 h2 h3 h4 h5 h6 h7 h8 h9 h10 h11 h12 h13 h14 h15 h16 h17 h18 h19 h20 h21 h22 h23 y0_0 y0_1 y0_2 y0_4 y0_5 y0_7 y0_8 y0_9 y0_10 x0_11 x0_12 x1_1 x1_2 a2 r_57_7_x7_0 r_57_7_x7_1 r_57_7_x7_2 x4_0 x4_1 x4_2 a5 a6 a7 a9 a10 a11 a12 a13 x14_0 x14_1 x14_2 a15 a16 a17 a19 a20 a21 a22 a23)) (As := [.ref h4, .int b1, .ref h3]) (rest := []) ⟨hx, hb, hml, hown, ht0⟩ (c_X9_readWord l G h8 h11 h12 h4 h5 h6 h7 h3 h9 h10 h13 _ a11 a12 x4_0 x4_1 x4_2 a5 a6 a7 x3_0 x3_1 x3_2 F b1 _ _ _ hc_r_57_7) yk_X9_readWord wd_821 ⟨rfl, rfl, by decide, by decide⟩ ⟨Nat.le_refl _, Nat.le_refl _⟩ hX hK hP hD hS hA [8, 11, 12, 4, 5, 6, 7, 3] [0, 1, 2, 9, 10, 13, 14, 15, 16, 17, 18, 19, 20, 21, 22, 23] [0, 1, 2, 23, 19, 20, 21, 22, 16, 3, 4, 17, 18, 5, 6, 7, 8, 9, 10, 11, 12, 13, 14, 15] (va_recv hK hP (ci := 9) (q0 := 8) rfl rfl) rfl rfl (by decide) rfl rfl rfl rfl rfl hl.1 rfl (Nat.le_of_ble_eq_true rfl) dX10_part_57 (fun H locs hP hD hS => ?_)
        refine lv_aload_n hx hb dX10_part_60 rfl (lv_at hl 1 rfl) ?_
        refine va_get (ci := 10) (v := .ref h3) (C := RX10) (T := TX10) (N := 13) hx hb ht0 iX10 hown hK hP 0 rfl rfl 6 (by decide) (ht0 _ wd_546) (fun _ h9 => h9) rfl dX10_part_61 ?_
        obtain ⟨r_64_8, hc_r_64_8, hf⟩ := of_bnd hf
        refine cl_Vi (w2 := (wW_X10_part G h0 h1 h2 h3 h4 h5 h6 h7 h8 h9 h10 h11 h12 h13 h14 h15 h16 h17 h18 h19 h20 h21 h22 h23 y0_0 y0_1 y0_2 y0_4 y0_5 y0_7 y0_8 y0_9 y0_10 x0_11 x0_12 x1_1 x1_2 a2 r_57_7_x7_0 r_57_7_x7_1 r_57_7_x7_2 x4_0 x4_1 x4_2 a5 a6 a7 a9 a10 a11 a12 a13 x14_0 x14_1 x14_2 a15 a16 a17 a19 a20 a21 a22 a23)) (As := []) (rest := []) ⟨hx, hb, hml, hown, ht0⟩ (c_X2_isTold l G h3 _ r_57_7_x7_0 r_57_7_x7_1 r_57_7_x7_2 F _ hc_r_64_8) yk_X2_isTold wd_850 ⟨rfl, rfl, by decide, by decide⟩ ⟨Nat.le_refl _, Nat.le_refl _⟩ hX hK hP hD hS hA [3] [0, 1, 2, 4, 5, 6, 7, 8, 9, 10, 11, 12, 13, 14, 15, 16, 17, 18, 19, 20, 21, 22, 23] [0, 1, 2, 23, 3, 4, 5, 6, 7, 8, 9, 10, 11, 12, 13, 14, 15, 16, 17, 18, 19, 20, 21, 22] (va_recv hK hP (ci := 2) (q0 := 3) rfl rfl) rfl rfl (by decide) rfl rfl rfl rfl rfl hl.1 rfl (Nat.le_of_ble_eq_true rfl) dX10_part_64 (fun H locs hP hD hS => ?_)
        refine lv_if_eq (tgt := 78) hx hb dX10_part_67 (by decide) (fun c10 => ?_) (fun c10 => ?_)
        · have hf := of_pos hf c10
          refine lv_aload_n hx hb dX10_part_78 rfl (lv_at hl 1 rfl) ?_
          refine va_get (ci := 10) (v := .ref h1) (C := RX10) (T := TX10) (N := 13) hx hb ht0 iX10 hown hK hP 0 rfl rfl 3 (by decide) (ht0 _ wd_543) (fun _ h9 => h9) rfl dX10_part_79 ?_
          obtain ⟨⟨r_82_10_x0_1, r_82_10_x0_2, r_82_10_a1, r_82_10_x12_0, r_82_10_x12_1, r_82_10_x12_2, r_82_10_a13, r_82_10_a14, r_82_10_a15, r_82_10_a17, r_82_10_a18, r_82_10_a19, r_82_10_a20, r_82_10_a21⟩, hc_r_82_10, hf⟩ := of_bnd hf
          refine cl_Vr (w2 := (wW_X10_part G h0 h1 h2 h3 h4 h5 h6 h7 h8 h9 h10 h11 h12 h13 h14 h15 h16 h17 h18 h19 h20 h21 h22 h23 y0_0 y0_1 y0_2 y0_4 y0_5 y0_7 y0_8 y0_9 y0_10 x0_11 x0_12 r_82_10_x0_1 r_82_10_x0_2 r_82_10_a1 r_57_7_x7_0 r_57_7_x7_1 r_57_7_x7_2 x4_0 x4_1 x4_2 a5 a6 a7 a9 a10 a11 a12 a13 r_82_10_x12_0 r_82_10_x12_1 r_82_10_x12_2 r_82_10_a13 r_82_10_a14 r_82_10_a15 r_82_10_a17 r_82_10_a18 r_82_10_a19 r_82_10_a20 r_82_10_a21)) (As := []) (rest := []) ⟨hx, hb, hml, hown, ht0⟩ (c_X8_beginAct l G h1 h2 h4 h5 h6 h7 h8 h9 h10 h11 h12 h13 h14 h15 h16 h17 h18 h19 h20 h21 h22 h23 g_cur g_nxt _ x1_1 x1_2 a2 x4_0 x4_1 x4_2 a5 a6 a7 a9 a10 a11 a12 a13 x14_0 x14_1 x14_2 a15 a16 a17 a19 a20 a21 a22 a23 F hq_cur hq_nxt hall _ _ _ _ _ _ _ _ _ _ _ _ _ _ hc_r_82_10) yk_X8_beginAct wd_798 ⟨rfl, rfl, by decide, by decide⟩ ⟨Nat.le_refl _, Nat.le_refl _⟩ hX hK hP hD hS hA [1, 2, 4, 5, 6, 7, 8, 9, 10, 11, 12, 13, 14, 15, 16, 17, 18, 19, 20, 21, 22, 23] [0, 3] [0, 2, 3, 1, 4, 5, 6, 7, 8, 9, 10, 11, 12, 13, 14, 15, 16, 17, 18, 19, 20, 21, 22, 23] (va_recv hK hP (ci := 8) (q0 := 1) rfl rfl) rfl rfl (by decide) rfl rfl rfl rfl rfl hl.1 rfl (Nat.le_of_ble_eq_true rfl) dX10_part_82 (fun H locs hP hD hS => ?_)
          refine lv_astore (lv' := [(5, .ref g_nxt), (4, .ref g_cur), (0, .ref h0), (1, .int b1), (2, .int b2), (3, .int b3)]) hx hb dX10_part_85 hl (by decide) rfl (fun ls hl => ?_)
          refine lv_aload hx hb dX10_part_87 (lv_at hl 0 rfl) ?_
          refine vk_getf hx hb (hX.2.2 _ hq_nxt).2.2 hS hown (ht0 _ wd_344) (fun _ h => h) dX10_part_89 ?_
          refine lv_aload hx hb dX10_part_92 (lv_at hl 0 rfl) ?_
          refine vk_getf hx hb (hX.2.2 _ hq_nxt).2.1 hS hown (ht0 _ wd_342) (fun _ h => h) dX10_part_94 ?_
          refine lv_iload_n hx hb dX10_part_97 rfl (lv_at hl 3 rfl) ?_
          refine lv_iload_n hx hb dX10_part_98 rfl (lv_at hl 4 rfl) ?_
          refine lv_iload_n hx hb dX10_part_99 rfl (lv_at hl 5 rfl) ?_
          refine lv_aload_n hx hb dX10_part_100 rfl (lv_at hl 2 rfl) ?_
          refine va_get (ci := 10) (v := .ref h3) (C := RX10) (T := TX10) (N := 13) hx hb ht0 iX10 hown hK hP 0 rfl rfl 6 (by decide) (ht0 _ wd_546) (fun _ h9 => h9) rfl dX10_part_101 ?_
          obtain ⟨⟨r_104_11_a1, r_104_11_a2, r_104_11_a4, r_104_11_a5⟩, hc_r_104_11, hf⟩ := of_bnd hf
          refine cl_Vv (w2 := (wW_X10_part G h0 h1 h2 h3 h4 h5 h6 h7 h8 h9 h10 h11 h12 h13 h14 h15 h16 h17 h18 h19 h20 h21 h22 h23 y0_0 y0_1 y0_2 y0_4 y0_5 y0_7 y0_8 y0_9 y0_10 x0_11 x0_12 r_82_10_x0_1 r_82_10_x0_2 r_82_10_a1 r_57_7_x7_0 r_57_7_x7_1 r_57_7_x7_2 x4_0 x4_1 x4_2 a5 a6 a7 a9 a10 a11 a12 a13 r_82_10_x12_0 r_82_10_x12_1 r_82_10_x12_2 r_82_10_a13 r_82_10_a14 r_82_10_a15 r_104_11_a1 r_104_11_a2 r_82_10_a19 r_104_11_a4 r_104_11_a5)) (As := [.ref h14, .int b1, .int b2, .int b3, .ref h3]) (rest := []) ⟨hx, hb, hml, hown, ht0⟩ (c_X9_writePart l G h18 h19 h20 h21 h22 h23 h14 h15 h3 h16 h17 _ r_82_10_a17 r_82_10_a18 r_82_10_a19 r_82_10_a20 r_82_10_a21 r_82_10_x12_0 r_82_10_x12_1 r_82_10_x12_2 r_82_10_a13 r_57_7_x7_0 r_57_7_x7_1 r_57_7_x7_2 F b1 b2 b3 _ _ _ _ hc_r_104_11) yk_X9_writePart wd_854 ⟨rfl, rfl, by decide, by decide⟩ ⟨Nat.le_refl _, Nat.le_refl _⟩ hX hK hP hD hS hA [18, 19, 20, 21, 22, 23, 14, 15, 3] [0, 1, 2, 4, 5, 6, 7, 8, 9, 10, 11, 12, 13, 16, 17] [0, 1, 2, 23, 3, 4, 5, 6, 7, 8, 9, 10, 11, 12, 21, 22, 13, 14, 15, 16, 17, 18, 19, 20] (va_recv hK hP (ci := 9) (q0 := 18) rfl rfl) rfl rfl (by decide) rfl rfl rfl rfl rfl hl.1 rfl (Nat.le_of_ble_eq_true rfl) dX10_part_104 (fun H locs hP hD hS => ?_)
          refine lv_aload_n hx hb dX10_part_107 rfl (lv_at hl 2 rfl) ?_
          refine va_get (ci := 10) (v := .ref h3) (C := RX10) (T := TX10) (N := 13) hx hb ht0 iX10 hown hK hP 0 rfl rfl 6 (by decide) (ht0 _ wd_546) (fun _ h9 => h9) rfl dX10_part_108 ?_
          refine va_get (ci := 2) (v := .int r_57_7_x7_0) (C := RX2) (T := TX2) (N := 3) hx hb ht0 iX2 hown hK hP 3 rfl rfl 0 (by decide) (ht0 _ wd_371) (fun _ h9 => h9) rfl dX10_part_111 ?_
          cases hf
          exact ret_i hx hb hr hlk hK hP hD hS dX10_part_114
        · have hf := of_neg hf c10
          refine lv_aload_n hx hb dX10_part_70 rfl (lv_at hl 1 rfl) ?_
          refine va_get (ci := 10) (v := .ref h3) (C := RX10) (T := TX10) (N := 13) hx hb ht0 iX10 hown hK hP 0 rfl rfl 6 (by decide) (ht0 _ wd_546) (fun _ h9 => h9) rfl dX10_part_71 ?_
          refine va_get (ci := 2) (v := .int r_57_7_x7_0) (C := RX2) (T := TX2) (N := 3) hx hb ht0 iX2 hown hK hP 3 rfl rfl 0 (by decide) (ht0 _ wd_371) (fun _ h9 => h9) rfl dX10_part_74 ?_
          cases hf
          exact ret_i hx hb hr hlk hK hP hD hS dX10_part_77
      · have hf := of_pos hf c7
        refine lv_iconst (v := (-1 : Int32)) hx hb dX10_part_40 (by decide) ?_
        cases hf
        exact ret_i hx hb hr hlk hK hP hD hS dX10_part_41
theorem yk_X10_part : ykV yX10_part RX10 cX10_part 6 (some .int) 3 := ⟨wd_818, wd_819, wd_127, wd_820, rfl, by decide +kernel, by decide +kernel, by decide +kernel⟩
theorem dX10_mend_0 : decode cX10_mend 0 = .ok (.iload_n 1, 1) := by decide +kernel
theorem dX10_mend_1 : decode cX10_mend 1 = .ok (.invokestatic 140, 3) := by decide +kernel
theorem dX10_mend_4 : decode cX10_mend 4 = .ok (.ifCond .ne 5, 3) := by decide +kernel
theorem dX10_mend_7 : decode cX10_mend 7 = .ok (.iconst (-1), 1) := by decide +kernel
theorem dX10_mend_8 : decode cX10_mend 8 = .ok (.ireturn, 1) := by decide +kernel
theorem dX10_mend_9 : decode cX10_mend 9 = .ok (.aload_n 0, 1) := by decide +kernel
theorem dX10_mend_10 : decode cX10_mend 10 = .ok (.getfield 29, 3) := by decide +kernel
theorem dX10_mend_13 : decode cX10_mend 13 = .ok (.invokevirtual 147, 3) := by decide +kernel
theorem dX10_mend_16 : decode cX10_mend 16 = .ok (.astore_n 2, 1) := by decide +kernel
theorem dX10_mend_17 : decode cX10_mend 17 = .ok (.aload_n 2, 1) := by decide +kernel
theorem dX10_mend_18 : decode cX10_mend 18 = .ok (.getfield 125, 3) := by decide +kernel
theorem dX10_mend_21 : decode cX10_mend 21 = .ok (.aload_n 2, 1) := by decide +kernel
theorem dX10_mend_22 : decode cX10_mend 22 = .ok (.getfield 96, 3) := by decide +kernel
theorem dX10_mend_25 : decode cX10_mend 25 = .ok (.iload_n 1, 1) := by decide +kernel
theorem dX10_mend_26 : decode cX10_mend 26 = .ok (.aload_n 0, 1) := by decide +kernel
theorem dX10_mend_27 : decode cX10_mend 27 = .ok (.getfield 47, 3) := by decide +kernel
theorem dX10_mend_30 : decode cX10_mend 30 = .ok (.invokevirtual 168, 3) := by decide +kernel
theorem dX10_mend_33 : decode cX10_mend 33 = .ok (.ireturn, 1) := by decide +kernel
def wW_X10_mend (G : GG) (h0 h1 h2 h3 h4 h5 h6 h7 h8 h9 h10 h11 h12 h13 h14 h15 h16 h17 h18 h19 h20 h21 h22 h23 y0_0 y0_1 y0_2 y0_4 y0_5 y0_7 y0_8 y0_9 y0_10 : Nat) (x0_11 : Int32) (x0_12 : Int32) (x1_1 : Int32) (x1_2 : Int32) (a2 : Nat → Option Nat) (x3_0 : Int32) (x3_1 : Int32) (x3_2 : Int32) (x4_0 : Int32) (x4_1 : Int32) (x4_2 : Int32) (a5 : Nat → Int32) (a6 : Nat → Int32) (a7 : Nat → Int32) (a9 : Nat → Int32) (a10 : Nat → Int32) (a11 : Nat → Int32) (a12 : Nat → Int32) (a13 : Nat → Int32) (x14_0 : Int32) (x14_1 : Int32) (x14_2 : Int32) (a15 : Nat → Int32) (a16 : Nat → Int32) (a17 : Nat → Int32) (a19 : Nat → Int32) (a20 : Nat → Int32) (a21 : Nat → Int32) (a22 : Nat → Int32) (a23 : Nat → Int32) : va_W := [(h0, .inr (10, [.ref y0_0, .ref y0_1, .ref y0_2, .ref h1, .ref y0_4, .ref y0_5, .ref h3, .ref y0_7, .ref y0_8, .ref y0_9, .ref y0_10, .int x0_11, .int x0_12])), (h1, .inr (8, [.ref h2, .int x1_1, .int x1_2])), (h2, .inl (G.2.2.2.2.1, 13, .inr (.inr (.inr (.inr a2))))), (h3, .inr (2, [.int x3_0, .int x3_1, .int x3_2])), (h4, .inr (1, [.int x4_0, .int x4_1, .int x4_2, .ref h5, .ref h6, .ref h7])), (h5, .inl (G.2.1, 32, .inl a5)), (h6, .inl (G.2.1, 256, .inl a6)), (h7, .inl (G.2.1, 256, .inl a7)), (h8, .inr (9, [.ref h9, .ref h10, .ref h11, .ref h12, .ref h13])), (h9, .inl (G.2.1, 16, .inl a9)), (h10, .inl (G.2.1, 16, .inl a10)), (h11, .inl (G.2.1, 16, .inl a11)), (h12, .inl (G.2.1, 16, .inl a12)), (h13, .inl (G.2.1, 8, .inl a13)), (h14, .inr (1, [.int x14_0, .int x14_1, .int x14_2, .ref h15, .ref h16, .ref h17])), (h15, .inl (G.2.1, 32, .inl a15)), (h16, .inl (G.2.1, 256, .inl a16)), (h17, .inl (G.2.1, 256, .inl a17)), (h18, .inr (9, [.ref h19, .ref h20, .ref h21, .ref h22, .ref h23])), (h19, .inl (G.2.1, 16, .inl a19)), (h20, .inl (G.2.1, 16, .inl a20)), (h21, .inl (G.2.1, 16, .inl a21)), (h22, .inl (G.2.1, 16, .inl a22)), (h23, .inl (G.2.1, 8, .inl a23))]
set_option maxHeartbeats 4000000 in
set_option maxRecDepth 100000 in
theorem c_X10_mend (l : Launch) (G : GG) (h0 h1 h2 h3 h4 h5 h6 h7 h8 h9 h10 h11 h12 h13 h14 h15 h16 h17 h18 h19 h20 h21 h22 h23 y0_0 y0_1 y0_2 y0_4 y0_5 y0_7 y0_8 y0_9 y0_10 g_cur g_nxt : Nat) (sz : Nat) (x0_11 : Int32) (x0_12 : Int32) (x1_1 : Int32) (x1_2 : Int32) (a2 : Nat → Option Nat) (x3_0 : Int32) (x3_1 : Int32) (x3_2 : Int32) (x4_0 : Int32) (x4_1 : Int32) (x4_2 : Int32) (a5 : Nat → Int32) (a6 : Nat → Int32) (a7 : Nat → Int32) (a9 : Nat → Int32) (a10 : Nat → Int32) (a11 : Nat → Int32) (a12 : Nat → Int32) (a13 : Nat → Int32) (x14_0 : Int32) (x14_1 : Int32) (x14_2 : Int32) (a15 : Nat → Int32) (a16 : Nat → Int32) (a17 : Nat → Int32) (a19 : Nat → Int32) (a20 : Nat → Int32) (a21 : Nat → Int32) (a22 : Nat → Int32) (a23 : Nat → Int32) (F : Nat) (b1 : Int32) (hq_cur : (g_cur, h4, h8) ∈ gS G) (hq_nxt : (g_nxt, h14, h18) ∈ gS G) (hall : stAll G a2)  (r0 : Int32) (e_x1_1 : Int32) (e_x1_2 : Int32) (e_a2 : Nat → Option Nat) (e_x3_0 : Int32) (e_x3_1 : Int32) (e_x3_2 : Int32) (e_x14_0 : Int32) (e_x14_1 : Int32) (e_x14_2 : Int32) (e_a15 : Nat → Int32) (e_a16 : Nat → Int32) (e_a17 : Nat → Int32) (e_a19 : Nat → Int32) (e_a20 : Nat → Int32) (e_a21 : Nat → Int32) (e_a22 : Nat → Int32) (e_a23 : Nat → Int32) (hf : p_X10_mend F g_cur g_nxt x1_1 x1_2 a2 x3_0 x3_1 x3_2 x4_0 x4_1 x4_2 a5 a6 a7 a9 a10 a11 a12 a13 x14_0 x14_1 x14_2 a15 a16 a17 a19 a20 a21 a22 a23 b1 = some (r0, e_x1_1, e_x1_2, e_a2, e_x3_0, e_x3_1, e_x3_2, e_x14_0, e_x14_1, e_x14_2, e_a15, e_a16, e_a17, e_a19, e_a20, e_a21, e_a22, e_a23)) : Met l yX10_mend (.code yX10_mend cX10_mend 3 (some .int) :: gtbl) ({ frames := 4, cells := 0, slots := 0, locals := 110 } : Room) (PcS G [.ref h0, .int b1] (wW_X10_mend G h0 h1 h2 h3 h4 h5 h6 h7 h8 h9 h10 h11 h12 h13 h14 h15 h16 h17 h18 h19 h20 h21 h22 h23 y0_0 y0_1 y0_2 y0_4 y0_5 y0_7 y0_8 y0_9 y0_10 x0_11 x0_12 x1_1 x1_2 a2 x3_0 x3_1 x3_2 x4_0 x4_1 x4_2 a5 a6 a7 a9 a10 a11 a12 a13 x14_0 x14_1 x14_2 a15 a16 a17 a19 a20 a21 a22 a23) sz) (QiS G r0 (va_A (wW_X10_mend G h0 h1 h2 h3 h4 h5 h6 h7 h8 h9 h10 h11 h12 h13 h14 h15 h16 h17 h18 h19 h20 h21 h22 h23 y0_0 y0_1 y0_2 y0_4 y0_5 y0_7 y0_8 y0_9 y0_10 x0_11 x0_12 x1_1 x1_2 a2 x3_0 x3_1 x3_2 x4_0 x4_1 x4_2 a5 a6 a7 a9 a10 a11 a12 a13 x14_0 x14_1 x14_2 a15 a16 a17 a19 a20 a21 a22 a23) sz) (wW_X10_mend G h0 h1 h2 h3 h4 h5 h6 h7 h8 h9 h10 h11 h12 h13 h14 h15 h16 h17 h18 h19 h20 h21 h22 h23 y0_0 y0_1 y0_2 y0_4 y0_5 y0_7 y0_8 y0_9 y0_10 x0_11 x0_12 e_x1_1 e_x1_2 e_a2 e_x3_0 e_x3_1 e_x3_2 x4_0 x4_1 x4_2 a5 a6 a7 a9 a10 a11 a12 a13 e_x14_0 e_x14_1 e_x14_2 e_a15 e_a16 e_a17 e_a19 e_a20 e_a21 e_a22 e_a23)) 0 0 (va_A (wW_X10_mend G h0 h1 h2 h3 h4 h5 h6 h7 h8 h9 h10 h11 h12 h13 h14 h15 h16 h17 h18 h19 h20 h21 h22 h23 y0_0 y0_1 y0_2 y0_4 y0_5 y0_7 y0_8 y0_9 y0_10 x0_11 x0_12 x1_1 x1_2 a2 x3_0 x3_1 x3_2 x4_0 x4_1 x4_2 a5 a6 a7 a9 a10 a11 a12 a13 x14_0 x14_1 x14_2 a15 a16 a17 a19 a20 a21 a22 a23) sz) := by
  refine met_start (by decide) (Nat.le_of_ble_eq_true rfl) ?_
  intro p e s m below meth c hC hr hlk hnm hK hP hD hA hS hX ls hl
  obtain ⟨hx, hb, hml, hown, ht0⟩ := hC
  have hown : s.vm.findClass RX10 = some m.cls := hown
  generalize va_A (wW_X10_mend G h0 h1 h2 h3 h4 h5 h6 h7 h8 h9 h10 h11 h12 h13 h14 h15 h16 h17 h18 h19 h20 h21 h22 h23 y0_0 y0_1 y0_2 y0_4 y0_5 y0_7 y0_8 y0_9 y0_10 x0_11 x0_12 x1_1 x1_2 a2 x3_0 x3_1 x3_2 x4_0 x4_1 x4_2 a5 a6 a7 a9 a10 a11 a12 a13 x14_0 x14_1 x14_2 a15 a16 a17 a19 a20 a21 a22 a23) sz = A at hD hA hS hX ⊢
  have hl : lv_has ls 3 [(0, .ref h0), (1, .int b1)] := hl
  have hf : p_X10_mend F g_cur g_nxt x1_1 x1_2 a2 x3_0 x3_1 x3_2 x4_0 x4_1 x4_2 a5 a6 a7 a9 a10 a11 a12 a13 x14_0 x14_1 x14_2 a15 a16 a17 a19 a20 a21 a22 a23 b1 = some (r0, e_x1_1, e_x1_2, e_a2, e_x3_0, e_x3_1, e_x3_2, e_x14_0, e_x14_1, e_x14_2, e_a15, e_a16, e_a17, e_a19, e_a20, e_a21, e_a22, e_a23) := hf
  refine lv_iload_n hx hb dX10_mend_0 rfl (lv_at hl 1 rfl) ?_
  obtain ⟨r_1_0, hc_r_1_0, hf⟩ := of_bnd hf
  refine cl_Si (w2 := (wW_X10_mend G h0 h1 h2 h3 h4 h5 h6 h7 h8 h9 h10 h11 h12 h13 h14 h15 h16 h17 h18 h19 h20 h21 h22 h23 y0_0 y0_1 y0_2 y0_4 y0_5 y0_7 y0_8 y0_9 y0_10 x0_11 x0_12 x1_1 x1_2 a2 x3_0 x3_1 x3_2 x4_0 x4_1 x4_2 a5 a6 a7 a9 a10 a11 a12 a13 x14_0 x14_1 x14_2 a15 a16 a17 a19 a20 a21 a22 a23)) (As := [.int b1]) (rest := []) ⟨hx, hb, hml, hown, ht0⟩ (c_X10_isWord l G _ F b1 _ hc_r_1_0) yk_X10_isWord wd_791 ⟨rfl, rfl, by decide, by decide⟩ ⟨Nat.le_refl _, Nat.le_refl _⟩ hX hK hP hD hS hA [] [0, 1, 2, 3, 4, 5, 6, 7, 8, 9, 10, 11, 12, 13, 14, 15, 16, 17, 18, 19, 20, 21, 22, 23] [0, 1, 2, 3, 4, 5, 6, 7, 8, 9, 10, 11, 12, 13, 14, 15, 16, 17, 18, 19, 20, 21, 22, 23] rfl rfl (by decide) rfl rfl rfl rfl rfl hl.1 rfl (Nat.le_of_ble_eq_true rfl) dX10_mend_1 (fun H locs hP hD hS => ?_)
  refine lv_if_ne (tgt := 9) hx hb dX10_mend_4 (by decide) (fun c2 => ?_) (fun c2 => ?_)
  · have hf := of_neg hf c2
    refine lv_aload_n hx hb dX10_mend_9 rfl (lv_at hl 0 rfl) ?_
    refine va_get (ci := 10) (v := .ref h1) (C := RX10) (T := TX10) (N := 13) hx hb ht0 iX10 hown hK hP 0 rfl rfl 3 (by decide) (ht0 _ wd_543) (fun _ h9 => h9) rfl dX10_mend_10 ?_
    obtain ⟨⟨r_13_2_x0_1, r_13_2_x0_2, r_13_2_a1, r_13_2_x12_0, r_13_2_x12_1, r_13_2_x12_2, r_13_2_a13, r_13_2_a14, r_13_2_a15, r_13_2_a17, r_13_2_a18, r_13_2_a19, r_13_2_a20, r_13_2_a21⟩, hc_r_13_2, hf⟩ := of_bnd hf
    refine cl_Vr (w2 := (wW_X10_mend G h0 h1 h2 h3 h4 h5 h6 h7 h8 h9 h10 h11 h12 h13 h14 h15 h16 h17 h18 h19 h20 h21 h22 h23 y0_0 y0_1 y0_2 y0_4 y0_5 y0_7 y0_8 y0_9 y0_10 x0_11 x0_12 r_13_2_x0_1 r_13_2_x0_2 r_13_2_a1 x3_0 x3_1 x3_2 x4_0 x4_1 x4_2 a5 a6 a7 a9 a10 a11 a12 a13 r_13_2_x12_0 r_13_2_x12_1 r_13_2_x12_2 r_13_2_a13 r_13_2_a14 r_13_2_a15 r_13_2_a17 r_13_2_a18 r_13_2_a19 r_13_2_a20 r_13_2_a21)) (As := []) (rest := []) ⟨hx, hb, hml, hown, ht0⟩ (c_X8_beginAct l G h1 h2 h4 h5 h6 h7 h8 h9 h10 h11 h12 h13 h14 h15 h16 h17 h18 h19 h20 h21 h22 h23 g_cur g_nxt _ x1_1 x1_2 a2 x4_0 x4_1 x4_2 a5 a6 a7 a9 a10 a11 a12 a13 x14_0 x14_1 x14_2 a15 a16 a17 a19 a20 a21 a22 a23 F hq_cur hq_nxt hall _ _ _ _ _ _ _ _ _ _ _ _ _ _ hc_r_13_2) yk_X8_beginAct wd_798 ⟨rfl, rfl, by decide, by decide⟩ ⟨Nat.le_refl _, Nat.le_refl _⟩ hX hK hP hD hS hA [1, 2, 4, 5, 6, 7, 8, 9, 10, 11, 12, 13, 14, 15, 16, 17, 18, 19, 20, 21, 22, 23] [0, 3] [0, 2, 3, 1, 4, 5, 6, 7, 8, 9, 10, 11, 12, 13, 14, 15, 16, 17, 18, 19, 20, 21, 22, 23] (va_recv hK hP (ci := 8) (q0 := 1) rfl rfl) rfl rfl (by decide) rfl rfl rfl rfl rfl hl.1 rfl (Nat.le_of_ble_eq_true rfl) dX10_mend_13 (fun H locs hP hD hS => ?_)
    refine lv_astore_n (lv' := [(2, .ref g_nxt), (0, .ref h0), (1, .int b1)]) hx hb dX10_mend_16 rfl hl (by decide) rfl (fun ls hl => ?_)
    refine lv_aload_n hx hb dX10_mend_17 rfl (lv_at hl 0 rfl) ?_
    refine vk_getf hx hb (hX.2.2 _ hq_nxt).2.2 hS hown (ht0 _ wd_344) (fun _ h => h) dX10_mend_18 ?_
    refine lv_aload_n hx hb dX10_mend_21 rfl (lv_at hl 0 rfl) ?_
    refine vk_getf hx hb (hX.2.2 _ hq_nxt).2.1 hS hown (ht0 _ wd_342) (fun _ h => h) dX10_mend_22 ?_
    refine lv_iload_n hx hb dX10_mend_25 rfl (lv_at hl 2 rfl) ?_
    refine lv_aload_n hx hb dX10_mend_26 rfl (lv_at hl 1 rfl) ?_
    refine va_get (ci := 10) (v := .ref h3) (C := RX10) (T := TX10) (N := 13) hx hb ht0 iX10 hown hK hP 0 rfl rfl 6 (by decide) (ht0 _ wd_546) (fun _ h9 => h9) rfl dX10_mend_27 ?_
    obtain ⟨⟨r_30_3, r_30_3_a1, r_30_3_a4, r_30_3_a5, r_30_3_x10_0, r_30_3_x10_1, r_30_3_x10_2⟩, hc_r_30_3, hf⟩ := of_bnd hf
    refine cl_Vi (w2 := (wW_X10_mend G h0 h1 h2 h3 h4 h5 h6 h7 h8 h9 h10 h11 h12 h13 h14 h15 h16 h17 h18 h19 h20 h21 h22 h23 y0_0 y0_1 y0_2 y0_4 y0_5 y0_7 y0_8 y0_9 y0_10 x0_11 x0_12 r_13_2_x0_1 r_13_2_x0_2 r_13_2_a1 r_30_3_x10_0 r_30_3_x10_1 r_30_3_x10_2 x4_0 x4_1 x4_2 a5 a6 a7 a9 a10 a11 a12 a13 r_13_2_x12_0 r_13_2_x12_1 r_13_2_x12_2 r_13_2_a13 r_13_2_a14 r_13_2_a15 r_30_3_a1 r_13_2_a18 r_13_2_a19 r_30_3_a4 r_30_3_a5)) (As := [.ref h14, .int b1, .ref h3]) (rest := []) ⟨hx, hb, hml, hown, ht0⟩ (c_X9_mendWord l G h18 h19 h20 h21 h22 h23 h14 h15 h16 h17 h3 _ r_13_2_a17 r_13_2_a18 r_13_2_a19 r_13_2_a20 r_13_2_a21 r_13_2_x12_0 r_13_2_x12_1 r_13_2_x12_2 r_13_2_a13 r_13_2_a14 r_13_2_a15 x3_0 x3_1 x3_2 F b1 _ _ _ _ _ _ _ hc_r_30_3) yk_X9_mendWord wd_871 ⟨rfl, rfl, by decide, by decide⟩ ⟨Nat.le_refl _, Nat.le_refl _⟩ hX hK hP hD hS hA [18, 19, 20, 21, 22, 23, 14, 15, 16, 17, 3] [0, 1, 2, 4, 5, 6, 7, 8, 9, 10, 11, 12, 13] [0, 1, 2, 23, 3, 4, 5, 6, 7, 8, 9, 10, 11, 12, 19, 20, 21, 22, 13, 14, 15, 16, 17, 18] (va_recv hK hP (ci := 9) (q0 := 18) rfl rfl) rfl rfl (by decide) rfl rfl rfl rfl rfl hl.1 rfl (Nat.le_of_ble_eq_true rfl) dX10_mend_30 (fun H locs hP hD hS => ?_)
    cases hf
    exact ret_i hx hb hr hlk hK hP hD hS dX10_mend_33
  · have hf := of_pos hf c2
    refine lv_iconst (v := (-1 : Int32)) hx hb dX10_mend_7 (by decide) ?_
    cases hf
    exact ret_i hx hb hr hlk hK hP hD hS dX10_mend_8
theorem yk_X10_mend : ykV yX10_mend RX10 cX10_mend 3 (some .int) 1 := ⟨wd_868, wd_869, wd_127, wd_870, rfl, by decide +kernel, by decide +kernel, by decide +kernel⟩
theorem dX10_scrub_0 : decode cX10_scrub 0 = .ok (.aload_n 0, 1) := by decide +kernel
theorem dX10_scrub_1 : decode cX10_scrub 1 = .ok (.getfield 29, 3) := by decide +kernel
theorem dX10_scrub_4 : decode cX10_scrub 4 = .ok (.invokevirtual 147, 3) := by decide +kernel
theorem dX10_scrub_7 : decode cX10_scrub 7 = .ok (.astore_n 1, 1) := by decide +kernel
theorem dX10_scrub_8 : decode cX10_scrub 8 = .ok (.aload_n 1, 1) := by decide +kernel
theorem dX10_scrub_9 : decode cX10_scrub 9 = .ok (.getfield 125, 3) := by decide +kernel
theorem dX10_scrub_12 : decode cX10_scrub 12 = .ok (.aload_n 1, 1) := by decide +kernel
theorem dX10_scrub_13 : decode cX10_scrub 13 = .ok (.getfield 96, 3) := by decide +kernel
theorem dX10_scrub_16 : decode cX10_scrub 16 = .ok (.aload_n 0, 1) := by decide +kernel
theorem dX10_scrub_17 : decode cX10_scrub 17 = .ok (.getfield 47, 3) := by decide +kernel
theorem dX10_scrub_20 : decode cX10_scrub 20 = .ok (.invokevirtual 172, 3) := by decide +kernel
theorem dX10_scrub_23 : decode cX10_scrub 23 = .ok (.ireturn, 1) := by decide +kernel
def wW_X10_scrub (G : GG) (h0 h1 h2 h3 h4 h5 h6 h7 h8 h9 h10 h11 h12 h13 h14 h15 h16 h17 h18 h19 h20 h21 h22 h23 y0_0 y0_1 y0_2 y0_4 y0_5 y0_7 y0_8 y0_9 y0_10 : Nat) (x0_11 : Int32) (x0_12 : Int32) (x1_1 : Int32) (x1_2 : Int32) (a2 : Nat → Option Nat) (x3_0 : Int32) (x3_1 : Int32) (x3_2 : Int32) (x4_0 : Int32) (x4_1 : Int32) (x4_2 : Int32) (a5 : Nat → Int32) (a6 : Nat → Int32) (a7 : Nat → Int32) (a9 : Nat → Int32) (a10 : Nat → Int32) (a11 : Nat → Int32) (a12 : Nat → Int32) (a13 : Nat → Int32) (x14_0 : Int32) (x14_1 : Int32) (x14_2 : Int32) (a15 : Nat → Int32) (a16 : Nat → Int32) (a17 : Nat → Int32) (a19 : Nat → Int32) (a20 : Nat → Int32) (a21 : Nat → Int32) (a22 : Nat → Int32) (a23 : Nat → Int32) : va_W := [(h0, .inr (10, [.ref y0_0, .ref y0_1, .ref y0_2, .ref h1, .ref y0_4, .ref y0_5, .ref h3, .ref y0_7, .ref y0_8, .ref y0_9, .ref y0_10, .int x0_11, .int x0_12])), (h1, .inr (8, [.ref h2, .int x1_1, .int x1_2])), (h2, .inl (G.2.2.2.2.1, 13, .inr (.inr (.inr (.inr a2))))), (h3, .inr (2, [.int x3_0, .int x3_1, .int x3_2])), (h4, .inr (1, [.int x4_0, .int x4_1, .int x4_2, .ref h5, .ref h6, .ref h7])), (h5, .inl (G.2.1, 32, .inl a5)), (h6, .inl (G.2.1, 256, .inl a6)), (h7, .inl (G.2.1, 256, .inl a7)), (h8, .inr (9, [.ref h9, .ref h10, .ref h11, .ref h12, .ref h13])), (h9, .inl (G.2.1, 16, .inl a9)), (h10, .inl (G.2.1, 16, .inl a10)), (h11, .inl (G.2.1, 16, .inl a11)), (h12, .inl (G.2.1, 16, .inl a12)), (h13, .inl (G.2.1, 8, .inl a13)), (h14, .inr (1, [.int x14_0, .int x14_1, .int x14_2, .ref h15, .ref h16, .ref h17])), (h15, .inl (G.2.1, 32, .inl a15)), (h16, .inl (G.2.1, 256, .inl a16)), (h17, .inl (G.2.1, 256, .inl a17)), (h18, .inr (9, [.ref h19, .ref h20, .ref h21, .ref h22, .ref h23])), (h19, .inl (G.2.1, 16, .inl a19)), (h20, .inl (G.2.1, 16, .inl a20)), (h21, .inl (G.2.1, 16, .inl a21)), (h22, .inl (G.2.1, 16, .inl a22)), (h23, .inl (G.2.1, 8, .inl a23))]
set_option maxHeartbeats 4000000 in
set_option maxRecDepth 100000 in
theorem c_X10_scrub (l : Launch) (G : GG) (h0 h1 h2 h3 h4 h5 h6 h7 h8 h9 h10 h11 h12 h13 h14 h15 h16 h17 h18 h19 h20 h21 h22 h23 y0_0 y0_1 y0_2 y0_4 y0_5 y0_7 y0_8 y0_9 y0_10 g_cur g_nxt : Nat) (sz : Nat) (x0_11 : Int32) (x0_12 : Int32) (x1_1 : Int32) (x1_2 : Int32) (a2 : Nat → Option Nat) (x3_0 : Int32) (x3_1 : Int32) (x3_2 : Int32) (x4_0 : Int32) (x4_1 : Int32) (x4_2 : Int32) (a5 : Nat → Int32) (a6 : Nat → Int32) (a7 : Nat → Int32) (a9 : Nat → Int32) (a10 : Nat → Int32) (a11 : Nat → Int32) (a12 : Nat → Int32) (a13 : Nat → Int32) (x14_0 : Int32) (x14_1 : Int32) (x14_2 : Int32) (a15 : Nat → Int32) (a16 : Nat → Int32) (a17 : Nat → Int32) (a19 : Nat → Int32) (a20 : Nat → Int32) (a21 : Nat → Int32) (a22 : Nat → Int32) (a23 : Nat → Int32) (F : Nat)  (hq_cur : (g_cur, h4, h8) ∈ gS G) (hq_nxt : (g_nxt, h14, h18) ∈ gS G) (hall : stAll G a2)  (r0 : Int32) (e_x1_1 : Int32) (e_x1_2 : Int32) (e_a2 : Nat → Option Nat) (e_x3_0 : Int32) (e_x3_1 : Int32) (e_x3_2 : Int32) (e_x14_0 : Int32) (e_x14_1 : Int32) (e_x14_2 : Int32) (e_a15 : Nat → Int32) (e_a16 : Nat → Int32) (e_a17 : Nat → Int32) (e_a19 : Nat → Int32) (e_a20 : Nat → Int32) (e_a21 : Nat → Int32) (e_a22 : Nat → Int32) (e_a23 : Nat → Int32) (hf : p_X10_scrub F g_cur g_nxt x1_1 x1_2 a2 x3_0 x3_1 x3_2 x4_0 x4_1 x4_2 a5 a6 a7 a9 a10 a11 a12 a13 x14_0 x14_1 x14_2 a15 a16 a17 a19 a20 a21 a22 a23  = some (r0, e_x1_1, e_x1_2, e_a2, e_x3_0, e_x3_1, e_x3_2, e_x14_0, e_x14_1, e_x14_2, e_a15, e_a16, e_a17, e_a19, e_a20, e_a21, e_a22, e_a23)) : Met l yX10_scrub (.code yX10_scrub cX10_scrub 2 (some .int) :: gtbl) ({ frames := 5, cells := 0, slots := 0, locals := 123 } : Room) (PcS G [.ref h0] (wW_X10_scrub G h0 h1 h2 h3 h4 h5 h6 h7 h8 h9 h10 h11 h12 h13 h14 h15 h16 h17 h18 h19 h20 h21 h22 h23 y0_0 y0_1 y0_2 y0_4 y0_5 y0_7 y0_8 y0_9 y0_10 x0_11 x0_12 x1_1 x1_2 a2 x3_0 x3_1 x3_2 x4_0 x4_1 x4_2 a5 a6 a7 a9 a10 a11 a12 a13 x14_0 x14_1 x14_2 a15 a16 a17 a19 a20 a21 a22 a23) sz) (QiS G r0 (va_A (wW_X10_scrub G h0 h1 h2 h3 h4 h5 h6 h7 h8 h9 h10 h11 h12 h13 h14 h15 h16 h17 h18 h19 h20 h21 h22 h23 y0_0 y0_1 y0_2 y0_4 y0_5 y0_7 y0_8 y0_9 y0_10 x0_11 x0_12 x1_1 x1_2 a2 x3_0 x3_1 x3_2 x4_0 x4_1 x4_2 a5 a6 a7 a9 a10 a11 a12 a13 x14_0 x14_1 x14_2 a15 a16 a17 a19 a20 a21 a22 a23) sz) (wW_X10_scrub G h0 h1 h2 h3 h4 h5 h6 h7 h8 h9 h10 h11 h12 h13 h14 h15 h16 h17 h18 h19 h20 h21 h22 h23 y0_0 y0_1 y0_2 y0_4 y0_5 y0_7 y0_8 y0_9 y0_10 x0_11 x0_12 e_x1_1 e_x1_2 e_a2 e_x3_0 e_x3_1 e_x3_2 x4_0 x4_1 x4_2 a5 a6 a7 a9 a10 a11 a12 a13 e_x14_0 e_x14_1 e_x14_2 e_a15 e_a16 e_a17 e_a19 e_a20 e_a21 e_a22 e_a23)) 0 0 (va_A (wW_X10_scrub G h0 h1 h2 h3 h4 h5 h6 h7 h8 h9 h10 h11 h12 h13 h14 h15 h16 h17 h18 h19 h20 h21 h22 h23 y0_0 y0_1 y0_2 y0_4 y0_5 y0_7 y0_8 y0_9 y0_10 x0_11 x0_12 x1_1 x1_2 a2 x3_0 x3_1 x3_2 x4_0 x4_1 x4_2 a5 a6 a7 a9 a10 a11 a12 a13 x14_0 x14_1 x14_2 a15 a16 a17 a19 a20 a21 a22 a23) sz) := by
  refine met_start (by decide) (Nat.le_of_ble_eq_true rfl) ?_
  intro p e s m below meth c hC hr hlk hnm hK hP hD hA hS hX ls hl
  obtain ⟨hx, hb, hml, hown, ht0⟩ := hC
  have hown : s.vm.findClass RX10 = some m.cls := hown
  generalize va_A (wW_X10_scrub G h0 h1 h2 h3 h4 h5 h6 h7 h8 h9 h10 h11 h12 h13 h14 h15 h16 h17 h18 h19 h20 h21 h22 h23 y0_0 y0_1 y0_2 y0_4 y0_5 y0_7 y0_8 y0_9 y0_10 x0_11 x0_12 x1_1 x1_2 a2 x3_0 x3_1 x3_2 x4_0 x4_1 x4_2 a5 a6 a7 a9 a10 a11 a12 a13 x14_0 x14_1 x14_2 a15 a16 a17 a19 a20 a21 a22 a23) sz = A at hD hA hS hX ⊢
  have hl : lv_has ls 2 [(0, .ref h0)] := hl
  have hf : p_X10_scrub F g_cur g_nxt x1_1 x1_2 a2 x3_0 x3_1 x3_2 x4_0 x4_1 x4_2 a5 a6 a7 a9 a10 a11 a12 a13 x14_0 x14_1 x14_2 a15 a16 a17 a19 a20 a21 a22 a23  = some (r0, e_x1_1, e_x1_2, e_a2, e_x3_0, e_x3_1, e_x3_2, e_x14_0, e_x14_1, e_x14_2, e_a15, e_a16, e_a17, e_a19, e_a20, e_a21, e_a22, e_a23) := hf
  refine lv_aload_n hx hb dX10_scrub_0 rfl (lv_at hl 0 rfl) ?_
  refine va_get (ci := 10) (v := .ref h1) (C := RX10) (T := TX10) (N := 13) hx hb ht0 iX10 hown hK hP 0 rfl rfl 3 (by decide) (ht0 _ wd_543) (fun _ h9 => h9) rfl dX10_scrub_1 ?_
  obtain ⟨⟨r_4_0_x0_1, r_4_0_x0_2, r_4_0_a1, r_4_0_x12_0, r_4_0_x12_1, r_4_0_x12_2, r_4_0_a13, r_4_0_a14, r_4_0_a15, r_4_0_a17, r_4_0_a18, r_4_0_a19, r_4_0_a20, r_4_0_a21⟩, hc_r_4_0, hf⟩ := of_bnd hf
  refine cl_Vr (w2 := (wW_X10_scrub G h0 h1 h2 h3 h4 h5 h6 h7 h8 h9 h10 h11 h12 h13 h14 h15 h16 h17 h18 h19 h20 h21 h22 h23 y0_0 y0_1 y0_2 y0_4 y0_5 y0_7 y0_8 y0_9 y0_10 x0_11 x0_12 r_4_0_x0_1 r_4_0_x0_2 r_4_0_a1 x3_0 x3_1 x3_2 x4_0 x4_1 x4_2 a5 a6 a7 a9 a10 a11 a12 a13 r_4_0_x12_0 r_4_0_x12_1 r_4_0_x12_2 r_4_0_a13 r_4_0_a14 r_4_0_a15 r_4_0_a17 r_4_0_a18 r_4_0_a19 r_4_0_a20 r_4_0_a21)) (As := []) (rest := []) ⟨hx, hb, hml, hown, ht0⟩ (c_X8_beginAct l G h1 h2 h4 h5 h6 h7 h8 h9 h10 h11 h12 h13 h14 h15 h16 h17 h18 h19 h20 h21 h22 h23 g_cur g_nxt _ x1_1 x1_2 a2 x4_0 x4_1 x4_2 a5 a6 a7 a9 a10 a11 a12 a13 x14_0 x14_1 x14_2 a15 a16 a17 a19 a20 a21 a22 a23 F hq_cur hq_nxt hall _ _ _ _ _ _ _ _ _ _ _ _ _ _ hc_r_4_0) yk_X8_beginAct wd_798 ⟨rfl, rfl, by decide, by decide⟩ ⟨Nat.le_refl _, Nat.le_refl _⟩ hX hK hP hD hS hA [1, 2, 4, 5, 6, 7, 8, 9, 10, 11, 12, 13, 14, 15, 16, 17, 18, 19, 20, 21, 22, 23] [0, 3] [0, 2, 3, 1, 4, 5, 6, 7, 8, 9, 10, 11, 12, 13, 14, 15, 16, 17, 18, 19, 20, 21, 22, 23] (va_recv hK hP (ci := 8) (q0 := 1) rfl rfl) rfl rfl (by decide) rfl rfl rfl rfl rfl hl.1 rfl (Nat.le_of_ble_eq_true rfl) dX10_scrub_4 (fun H locs hP hD hS => ?_)
  refine lv_astore_n (lv' := [(1, .ref g_nxt), (0, .ref h0)]) hx hb dX10_scrub_7 rfl hl (by decide) rfl (fun ls hl => ?_)
  refine lv_aload_n hx hb dX10_scrub_8 rfl (lv_at hl 0 rfl) ?_
  refine vk_getf hx hb (hX.2.2 _ hq_nxt).2.2 hS hown (ht0 _ wd_344) (fun _ h => h) dX10_scrub_9 ?_
  refine lv_aload_n hx hb dX10_scrub_12 rfl (lv_at hl 0 rfl) ?_
  refine vk_getf hx hb (hX.2.2 _ hq_nxt).2.1 hS hown (ht0 _ wd_342) (fun _ h => h) dX10_scrub_13 ?_
  refine lv_aload_n hx hb dX10_scrub_16 rfl (lv_at hl 1 rfl) ?_
  refine va_get (ci := 10) (v := .ref h3) (C := RX10) (T := TX10) (N := 13) hx hb ht0 iX10 hown hK hP 0 rfl rfl 6 (by decide) (ht0 _ wd_546) (fun _ h9 => h9) rfl dX10_scrub_17 ?_
  obtain ⟨⟨r_20_1, r_20_1_a1, r_20_1_a4, r_20_1_a5, r_20_1_x10_0, r_20_1_x10_1, r_20_1_x10_2⟩, hc_r_20_1, hf⟩ := of_bnd hf
  refine cl_Vi (w2 := (wW_X10_scrub G h0 h1 h2 h3 h4 h5 h6 h7 h8 h9 h10 h11 h12 h13 h14 h15 h16 h17 h18 h19 h20 h21 h22 h23 y0_0 y0_1 y0_2 y0_4 y0_5 y0_7 y0_8 y0_9 y0_10 x0_11 x0_12 r_4_0_x0_1 r_4_0_x0_2 r_4_0_a1 r_20_1_x10_0 r_20_1_x10_1 r_20_1_x10_2 x4_0 x4_1 x4_2 a5 a6 a7 a9 a10 a11 a12 a13 r_4_0_x12_0 r_4_0_x12_1 r_4_0_x12_2 r_4_0_a13 r_4_0_a14 r_4_0_a15 r_20_1_a1 r_4_0_a18 r_4_0_a19 r_20_1_a4 r_20_1_a5)) (As := [.ref h14, .ref h3]) (rest := []) ⟨hx, hb, hml, hown, ht0⟩ (c_X9_mendAll l G h18 h19 h20 h21 h22 h23 h14 h15 h16 h17 h3 _ r_4_0_a17 r_4_0_a18 r_4_0_a19 r_4_0_a20 r_4_0_a21 r_4_0_x12_0 r_4_0_x12_1 r_4_0_x12_2 r_4_0_a13 r_4_0_a14 r_4_0_a15 x3_0 x3_1 x3_2 F _ _ _ _ _ _ _ hc_r_20_1) yk_X9_mendAll wd_884 ⟨rfl, rfl, by decide, by decide⟩ ⟨Nat.le_refl _, Nat.le_refl _⟩ hX hK hP hD hS hA [18, 19, 20, 21, 22, 23, 14, 15, 16, 17, 3] [0, 1, 2, 4, 5, 6, 7, 8, 9, 10, 11, 12, 13] [0, 1, 2, 23, 3, 4, 5, 6, 7, 8, 9, 10, 11, 12, 19, 20, 21, 22, 13, 14, 15, 16, 17, 18] (va_recv hK hP (ci := 9) (q0 := 18) rfl rfl) rfl rfl (by decide) rfl rfl rfl rfl rfl hl.1 rfl (Nat.le_of_ble_eq_true rfl) dX10_scrub_20 (fun H locs hP hD hS => ?_)
  cases hf
  exact ret_i hx hb hr hlk hK hP hD hS dX10_scrub_23
theorem yk_X10_scrub : ykV yX10_scrub RX10 cX10_scrub 2 (some .int) 0 := ⟨wd_881, wd_882, wd_127, wd_883, rfl, by decide +kernel, by decide +kernel, by decide +kernel⟩
theorem dX10_slip_0 : decode cX10_slip 0 = .ok (.iload_n 1, 1) := by decide +kernel
theorem dX10_slip_1 : decode cX10_slip 1 = .ok (.invokestatic 140, 3) := by decide +kernel
theorem dX10_slip_4 : decode cX10_slip 4 = .ok (.ifCond .eq 20, 3) := by decide +kernel
theorem dX10_slip_7 : decode cX10_slip 7 = .ok (.aload_n 0, 1) := by decide +kernel
theorem dX10_slip_8 : decode cX10_slip 8 = .ok (.getfield 29, 3) := by decide +kernel
theorem dX10_slip_11 : decode cX10_slip 11 = .ok (.invokevirtual 92, 3) := by decide +kernel
theorem dX10_slip_14 : decode cX10_slip 14 = .ok (.getfield 96, 3) := by decide +kernel
theorem dX10_slip_17 : decode cX10_slip 17 = .ok (.iload_n 2, 1) := by decide +kernel
theorem dX10_slip_18 : decode cX10_slip 18 = .ok (.invokevirtual 176, 3) := by decide +kernel
theorem dX10_slip_21 : decode cX10_slip 21 = .ok (.ifCond .ne 5, 3) := by decide +kernel
theorem dX10_slip_24 : decode cX10_slip 24 = .ok (.iconst (-1), 1) := by decide +kernel
theorem dX10_slip_25 : decode cX10_slip 25 = .ok (.ireturn, 1) := by decide +kernel
theorem dX10_slip_26 : decode cX10_slip 26 = .ok (.aload_n 0, 1) := by decide +kernel
theorem dX10_slip_27 : decode cX10_slip 27 = .ok (.getfield 29, 3) := by decide +kernel
theorem dX10_slip_30 : decode cX10_slip 30 = .ok (.invokevirtual 147, 3) := by decide +kernel
theorem dX10_slip_33 : decode cX10_slip 33 = .ok (.astore_n 3, 1) := by decide +kernel
theorem dX10_slip_34 : decode cX10_slip 34 = .ok (.aload_n 3, 1) := by decide +kernel
theorem dX10_slip_35 : decode cX10_slip 35 = .ok (.getfield 125, 3) := by decide +kernel
theorem dX10_slip_38 : decode cX10_slip 38 = .ok (.aload_n 3, 1) := by decide +kernel
theorem dX10_slip_39 : decode cX10_slip 39 = .ok (.getfield 96, 3) := by decide +kernel
theorem dX10_slip_42 : decode cX10_slip 42 = .ok (.iload_n 1, 1) := by decide +kernel
theorem dX10_slip_43 : decode cX10_slip 43 = .ok (.iconst 1, 1) := by decide +kernel
theorem dX10_slip_44 : decode cX10_slip 44 = .ok (.iload_n 2, 1) := by decide +kernel
theorem dX10_slip_45 : decode cX10_slip 45 = .ok (.ishl, 1) := by decide +kernel
theorem dX10_slip_46 : decode cX10_slip 46 = .ok (.invokevirtual 179, 3) := by decide +kernel
theorem dX10_slip_49 : decode cX10_slip 49 = .ok (.aload_n 3, 1) := by decide +kernel
theorem dX10_slip_50 : decode cX10_slip 50 = .ok (.getfield 125, 3) := by decide +kernel
theorem dX10_slip_53 : decode cX10_slip 53 = .ok (.getfield 182, 3) := by decide +kernel
theorem dX10_slip_56 : decode cX10_slip 56 = .ok (.iload_n 1, 1) := by decide +kernel
theorem dX10_slip_57 : decode cX10_slip 57 = .ok (.iaload, 1) := by decide +kernel
theorem dX10_slip_58 : decode cX10_slip 58 = .ok (.iload_n 2, 1) := by decide +kernel
theorem dX10_slip_59 : decode cX10_slip 59 = .ok (.iushr, 1) := by decide +kernel
theorem dX10_slip_60 : decode cX10_slip 60 = .ok (.iconst 1, 1) := by decide +kernel
theorem dX10_slip_61 : decode cX10_slip 61 = .ok (.iand, 1) := by decide +kernel
theorem dX10_slip_62 : decode cX10_slip 62 = .ok (.ireturn, 1) := by decide +kernel
def wW_X10_slip (G : GG) (h0 h1 h2 h3 h4 h5 h6 h7 h8 h9 h10 h11 h12 h13 h14 h15 h16 h17 h18 h19 h20 h21 h22 y0_0 y0_1 y0_2 y0_4 y0_5 y0_6 y0_7 y0_8 y0_9 y0_10 : Nat) (x0_11 : Int32) (x0_12 : Int32) (x1_1 : Int32) (x1_2 : Int32) (a2 : Nat → Option Nat) (x3_0 : Int32) (x3_1 : Int32) (x3_2 : Int32) (a4 : Nat → Int32) (a5 : Nat → Int32) (a6 : Nat → Int32) (a8 : Nat → Int32) (a9 : Nat → Int32) (a10 : Nat → Int32) (a11 : Nat → Int32) (a12 : Nat → Int32) (x13_0 : Int32) (x13_1 : Int32) (x13_2 : Int32) (a14 : Nat → Int32) (a15 : Nat → Int32) (a16 : Nat → Int32) (a18 : Nat → Int32) (a19 : Nat → Int32) (a20 : Nat → Int32) (a21 : Nat → Int32) (a22 : Nat → Int32) : va_W := [(h0, .inr (10, [.ref y0_0, .ref y0_1, .ref y0_2, .ref h1, .ref y0_4, .ref y0_5, .ref y0_6, .ref y0_7, .ref y0_8, .ref y0_9, .ref y0_10, .int x0_11, .int x0_12])), (h1, .inr (8, [.ref h2, .int x1_1, .int x1_2])), (h2, .inl (G.2.2.2.2.1, 13, .inr (.inr (.inr (.inr a2))))), (h3, .inr (1, [.int x3_0, .int x3_1, .int x3_2, .ref h4, .ref h5, .ref h6])), (h4, .inl (G.2.1, 32, .inl a4)), (h5, .inl (G.2.1, 256, .inl a5)), (h6, .inl (G.2.1, 256, .inl a6)), (h7, .inr (9, [.ref h8, .ref h9, .ref h10, .ref h11, .ref h12])), (h8, .inl (G.2.1, 16, .inl a8)), (h9, .inl (G.2.1, 16, .inl a9)), (h10, .inl (G.2.1, 16, .inl a10)), (h11, .inl (G.2.1, 16, .inl a11)), (h12, .inl (G.2.1, 8, .inl a12)), (h13, .inr (1, [.int x13_0, .int x13_1, .int x13_2, .ref h14, .ref h15, .ref h16])), (h14, .inl (G.2.1, 32, .inl a14)), (h15, .inl (G.2.1, 256, .inl a15)), (h16, .inl (G.2.1, 256, .inl a16)), (h17, .inr (9, [.ref h18, .ref h19, .ref h20, .ref h21, .ref h22])), (h18, .inl (G.2.1, 16, .inl a18)), (h19, .inl (G.2.1, 16, .inl a19)), (h20, .inl (G.2.1, 16, .inl a20)), (h21, .inl (G.2.1, 16, .inl a21)), (h22, .inl (G.2.1, 8, .inl a22))]
set_option maxHeartbeats 4000000 in
set_option maxRecDepth 100000 in
theorem c_X10_slip (l : Launch) (G : GG) (h0 h1 h2 h3 h4 h5 h6 h7 h8 h9 h10 h11 h12 h13 h14 h15 h16 h17 h18 h19 h20 h21 h22 y0_0 y0_1 y0_2 y0_4 y0_5 y0_6 y0_7 y0_8 y0_9 y0_10 g_cur g_nxt : Nat) (sz : Nat) (x0_11 : Int32) (x0_12 : Int32) (x1_1 : Int32) (x1_2 : Int32) (a2 : Nat → Option Nat) (x3_0 : Int32) (x3_1 : Int32) (x3_2 : Int32) (a4 : Nat → Int32) (a5 : Nat → Int32) (a6 : Nat → Int32) (a8 : Nat → Int32) (a9 : Nat → Int32) (a10 : Nat → Int32) (a11 : Nat → Int32) (a12 : Nat → Int32) (x13_0 : Int32) (x13_1 : Int32) (x13_2 : Int32) (a14 : Nat → Int32) (a15 : Nat → Int32) (a16 : Nat → Int32) (a18 : Nat → Int32) (a19 : Nat → Int32) (a20 : Nat → Int32) (a21 : Nat → Int32) (a22 : Nat → Int32) (F : Nat) (b1 : Int32) (b2 : Int32) (hq_cur : (g_cur, h3, h7) ∈ gS G) (hq_nxt : (g_nxt, h13, h17) ∈ gS G) (hall : stAll G a2)  (r0 : Int32) (e_x1_1 : Int32) (e_x1_2 : Int32) (e_a2 : Nat → Option Nat) (e_x13_0 : Int32) (e_x13_1 : Int32) (e_x13_2 : Int32) (e_a14 : Nat → Int32) (e_a15 : Nat → Int32) (e_a16 : Nat → Int32) (e_a18 : Nat → Int32) (e_a19 : Nat → Int32) (e_a20 : Nat → Int32) (e_a21 : Nat → Int32) (e_a22 : Nat → Int32) (hf : p_X10_slip F g_cur g_nxt x1_1 x1_2 a2 x3_0 x3_1 x3_2 a4 a5 a6 a8 a9 a10 a11 a12 x13_0 x13_1 x13_2 a14 a15 a16 a18 a19 a20 a21 a22 b1 b2 = some (r0, e_x1_1, e_x1_2, e_a2, e_x13_0, e_x13_1, e_x13_2, e_a14, e_a15, e_a16, e_a18, e_a19, e_a20, e_a21, e_a22)) : Met l yX10_slip (.code yX10_slip cX10_slip 4 (some .int) :: gtbl) ({ frames := 4, cells := 0, slots := 0, locals := 110 } : Room) (PcS G [.ref h0, .int b1, .int b2] (wW_X10_slip G h0 h1 h2 h3 h4 h5 h6 h7 h8 h9 h10 h11 h12 h13 h14 h15 h16 h17 h18 h19 h20 h21 h22 y0_0 y0_1 y0_2 y0_4 y0_5 y0_6 y0_7 y0_8 y0_9 y0_10 x0_11 x0_12 x1_1 x1_2 a2 x3_0 x3_1 x3_2 a4 a5 a6 a8 a9 a10 a11 a12 x13_0 x13_1 x13_2 a14 a15 a16 a18 a19 a20 a21 a22) sz) (QiS G r0 (va_A (wW_X10_slip G h0 h1 h2 h3 h4 h5 h6 h7 h8 h9 h10 h11 h12 h13 h14 h15 h16 h17 h18 h19 h20 h21 h22 y0_0 y0_1 y0_2 y0_4 y0_5 y0_6 y0_7 y0_8 y0_9 y0_10 x0_11 x0_12 x1_1 x1_2 a2 x3_0 x3_1 x3_2 a4 a5 a6 a8 a9 a10 a11 a12 x13_0 x13_1 x13_2 a14 a15 a16 a18 a19 a20 a21 a22) sz) (wW_X10_slip G h0 h1 h2 h3 h4 h5 h6 h7 h8 h9 h10 h11 h12 h13 h14 h15 h16 h17 h18 h19 h20 h21 h22 y0_0 y0_1 y0_2 y0_4 y0_5 y0_6 y0_7 y0_8 y0_9 y0_10 x0_11 x0_12 e_x1_1 e_x1_2 e_a2 x3_0 x3_1 x3_2 a4 a5 a6 a8 a9 a10 a11 a12 e_x13_0 e_x13_1 e_x13_2 e_a14 e_a15 e_a16 e_a18 e_a19 e_a20 e_a21 e_a22)) 0 0 (va_A (wW_X10_slip G h0 h1 h2 h3 h4 h5 h6 h7 h8 h9 h10 h11 h12 h13 h14 h15 h16 h17 h18 h19 h20 h21 h22 y0_0 y0_1 y0_2 y0_4 y0_5 y0_6 y0_7 y0_8 y0_9 y0_10 x0_11 x0_12 x1_1 x1_2 a2 x3_0 x3_1 x3_2 a4 a5 a6 a8 a9 a10 a11 a12 x13_0 x13_1 x13_2 a14 a15 a16 a18 a19 a20 a21 a22) sz) := by
  refine met_start (by decide) (Nat.le_of_ble_eq_true rfl) ?_
  intro p e s m below meth c hC hr hlk hnm hK hP hD hA hS hX ls hl
  obtain ⟨hx, hb, hml, hown, ht0⟩ := hC
  have hown : s.vm.findClass RX10 = some m.cls := hown
  generalize va_A (wW_X10_slip G h0 h1 h2 h3 h4 h5 h6 h7 h8 h9 h10 h11 h12 h13 h14 h15 h16 h17 h18 h19 h20 h21 h22 y0_0 y0_1 y0_2 y0_4 y0_5 y0_6 y0_7 y0_8 y0_9 y0_10 x0_11 x0_12 x1_1 x1_2 a2 x3_0 x3_1 x3_2 a4 a5 a6 a8 a9 a10 a11 a12 x13_0 x13_1 x13_2 a14 a15 a16 a18 a19 a20 a21 a22) sz = A at hD hA hS hX ⊢
  have hl : lv_has ls 4 [(0, .ref h0), (1, .int b1), (2, .int b2)] := hl
  have hf : p_X10_slip F g_cur g_nxt x1_1 x1_2 a2 x3_0 x3_1 x3_2 a4 a5 a6 a8 a9 a10 a11 a12 x13_0 x13_1 x13_2 a14 a15 a16 a18 a19 a20 a21 a22 b1 b2 = some (r0, e_x1_1, e_x1_2, e_a2, e_x13_0, e_x13_1, e_x13_2, e_a14, e_a15, e_a16, e_a18, e_a19, e_a20, e_a21, e_a22) := hf
  refine lv_iload_n hx hb dX10_slip_0 rfl (lv_at hl 1 rfl) ?_
  obtain ⟨r_1_0, hc_r_1_0, hf⟩ := of_bnd hf
  refine cl_Si (w2 := (wW_X10_slip G h0 h1 h2 h3 h4 h5 h6 h7 h8 h9 h10 h11 h12 h13 h14 h15 h16 h17 h18 h19 h20 h21 h22 y0_0 y0_1 y0_2 y0_4 y0_5 y0_6 y0_7 y0_8 y0_9 y0_10 x0_11 x0_12 x1_1 x1_2 a2 x3_0 x3_1 x3_2 a4 a5 a6 a8 a9 a10 a11 a12 x13_0 x13_1 x13_2 a14 a15 a16 a18 a19 a20 a21 a22)) (As := [.int b1]) (rest := []) ⟨hx, hb, hml, hown, ht0⟩ (c_X10_isWord l G _ F b1 _ hc_r_1_0) yk_X10_isWord wd_791 ⟨rfl, rfl, by decide, by decide⟩ ⟨Nat.le_refl _, Nat.le_refl _⟩ hX hK hP hD hS hA [] [0, 1, 2, 3, 4, 5, 6, 7, 8, 9, 10, 11, 12, 13, 14, 15, 16, 17, 18, 19, 20, 21, 22] [0, 1, 2, 3, 4, 5, 6, 7, 8, 9, 10, 11, 12, 13, 14, 15, 16, 17, 18, 19, 20, 21, 22] rfl rfl (by decide) rfl rfl rfl rfl rfl hl.1 rfl (Nat.le_of_ble_eq_true rfl) dX10_slip_1 (fun H locs hP hD hS => ?_)
  refine lv_if_eq (tgt := 24) hx hb dX10_slip_4 (by decide) (fun c2 => ?_) (fun c2 => ?_)
  · have hf := of_pos hf c2
    refine lv_iconst (v := (-1 : Int32)) hx hb dX10_slip_24 (by decide) ?_
    cases hf
    exact ret_i hx hb hr hlk hK hP hD hS dX10_slip_25
  · have hf := of_neg hf c2
    refine lv_aload_n hx hb dX10_slip_7 rfl (lv_at hl 0 rfl) ?_
    refine va_get (ci := 10) (v := .ref h1) (C := RX10) (T := TX10) (N := 13) hx hb ht0 iX10 hown hK hP 0 rfl rfl 3 (by decide) (ht0 _ wd_543) (fun _ h9 => h9) rfl dX10_slip_8 ?_
    obtain ⟨_, hc_r_11_2, hf⟩ := of_bnd hf
    refine cl_Vr (w2 := (wW_X10_slip G h0 h1 h2 h3 h4 h5 h6 h7 h8 h9 h10 h11 h12 h13 h14 h15 h16 h17 h18 h19 h20 h21 h22 y0_0 y0_1 y0_2 y0_4 y0_5 y0_6 y0_7 y0_8 y0_9 y0_10 x0_11 x0_12 x1_1 x1_2 a2 x3_0 x3_1 x3_2 a4 a5 a6 a8 a9 a10 a11 a12 x13_0 x13_1 x13_2 a14 a15 a16 a18 a19 a20 a21 a22)) (As := []) (rest := []) ⟨hx, hb, hml, hown, ht0⟩ (c_X8_now l G h1 h2 g_cur h3 h7 _ x1_1 x1_2 a2 F hq_cur hc_r_11_2) yk_X8_now wd_531 ⟨rfl, rfl, by decide, by decide⟩ ⟨Nat.le_refl _, Nat.le_refl _⟩ hX hK hP hD hS hA [1, 2] [0, 3, 4, 5, 6, 7, 8, 9, 10, 11, 12, 13, 14, 15, 16, 17, 18, 19, 20, 21, 22] [0, 21, 22, 1, 2, 3, 4, 5, 6, 7, 8, 9, 10, 11, 12, 13, 14, 15, 16, 17, 18, 19, 20] (va_recv hK hP (ci := 8) (q0 := 1) rfl rfl) rfl rfl (by decide) rfl rfl rfl rfl rfl hl.1 rfl (Nat.le_of_ble_eq_true rfl) dX10_slip_11 (fun H locs hP hD hS => ?_)
    refine vk_getf hx hb (hX.2.2 _ hq_cur).2.1 hS hown (ht0 _ wd_342) (fun _ h => h) dX10_slip_14 ?_
    refine lv_iload_n hx hb dX10_slip_17 rfl (lv_at hl 2 rfl) ?_
    obtain ⟨r_18_3, hc_r_18_3, hf⟩ := of_bnd hf
    refine cl_Vi (w2 := (wW_X10_slip G h0 h1 h2 h3 h4 h5 h6 h7 h8 h9 h10 h11 h12 h13 h14 h15 h16 h17 h18 h19 h20 h21 h22 y0_0 y0_1 y0_2 y0_4 y0_5 y0_6 y0_7 y0_8 y0_9 y0_10 x0_11 x0_12 x1_1 x1_2 a2 x3_0 x3_1 x3_2 a4 a5 a6 a8 a9 a10 a11 a12 x13_0 x13_1 x13_2 a14 a15 a16 a18 a19 a20 a21 a22)) (As := [.int b2]) (rest := []) ⟨hx, hb, hml, hown, ht0⟩ (c_X1_isPlace l G h3 h4 h5 h6 _ x3_0 x3_1 x3_2 F b2 _ hc_r_18_3) yk_X1_isPlace wd_898 ⟨rfl, rfl, by decide, by decide⟩ ⟨Nat.le_refl _, Nat.le_refl _⟩ hX hK hP hD hS hA [3] [0, 1, 2, 4, 5, 6, 7, 8, 9, 10, 11, 12, 13, 14, 15, 16, 17, 18, 19, 20, 21, 22] [0, 1, 2, 22, 3, 4, 5, 6, 7, 8, 9, 10, 11, 12, 13, 14, 15, 16, 17, 18, 19, 20, 21] (va_recv hK hP (ci := 1) (q0 := 3) rfl rfl) rfl rfl (by decide) rfl rfl rfl rfl rfl hl.1 rfl (Nat.le_of_ble_eq_true rfl) dX10_slip_18 (fun H locs hP hD hS => ?_)
    refine lv_if_ne (tgt := 26) hx hb dX10_slip_21 (by decide) (fun c5 => ?_) (fun c5 => ?_)
    · have hf := of_neg hf c5
      refine lv_aload_n hx hb dX10_slip_26 rfl (lv_at hl 0 rfl) ?_
      refine va_get (ci := 10) (v := .ref h1) (C := RX10) (T := TX10) (N := 13) hx hb ht0 iX10 hown hK hP 0 rfl rfl 3 (by decide) (ht0 _ wd_543) (fun _ h9 => h9) rfl dX10_slip_27 ?_
      obtain ⟨⟨r_30_5_x0_1, r_30_5_x0_2, r_30_5_a1, r_30_5_x12_0, r_30_5_x12_1, r_30_5_x12_2, r_30_5_a13, r_30_5_a14, r_30_5_a15, r_30_5_a17, r_30_5_a18, r_30_5_a19, r_30_5_a20, r_30_5_a21⟩, hc_r_30_5, hf⟩ := of_bnd hf
      refine cl_Vr (w2 := (wW_X10_slip G h0 h1 h2 h3 h4 h5 h6 h7 h8 h9 h10 h11 h12 h13 h14 h15 h16 h17 h18 h19 h20 h21 h22 y0_0 y0_1 y0_2 y0_4 y0_5 y0_6 y0_7 y0_8 y0_9 y0_10 x0_11 x0_12 r_30_5_x0_1 r_30_5_x0_2 r_30_5_a1 x3_0 x3_1 x3_2 a4 a5 a6 a8 a9 a10 a11 a12 r_30_5_x12_0 r_30_5_x12_1 r_30_5_x12_2 r_30_5_a13 r_30_5_a14 r_30_5_a15 r_30_5_a17 r_30_5_a18 r_30_5_a19 r_30_5_a20 r_30_5_a21)) (As := []) (rest := []) ⟨hx, hb, hml, hown, ht0⟩ (c_X8_beginAct l G h1 h2 h3 h4 h5 h6 h7 h8 h9 h10 h11 h12 h13 h14 h15 h16 h17 h18 h19 h20 h21 h22 g_cur g_nxt _ x1_1 x1_2 a2 x3_0 x3_1 x3_2 a4 a5 a6 a8 a9 a10 a11 a12 x13_0 x13_1 x13_2 a14 a15 a16 a18 a19 a20 a21 a22 F hq_cur hq_nxt hall _ _ _ _ _ _ _ _ _ _ _ _ _ _ hc_r_30_5) yk_X8_beginAct wd_798 ⟨rfl, rfl, by decide, by decide⟩ ⟨Nat.le_refl _, Nat.le_refl _⟩ hX hK hP hD hS hA [1, 2, 3, 4, 5, 6, 7, 8, 9, 10, 11, 12, 13, 14, 15, 16, 17, 18, 19, 20, 21, 22] [0] [0, 1, 2, 3, 4, 5, 6, 7, 8, 9, 10, 11, 12, 13, 14, 15, 16, 17, 18, 19, 20, 21, 22] (va_recv hK hP (ci := 8) (q0 := 1) rfl rfl) rfl rfl (by decide) rfl rfl rfl rfl rfl hl.1 rfl (Nat.le_of_ble_eq_true rfl) dX10_slip_30 (fun H locs hP hD hS => ?_)
      refine lv_astore_n (lv' := [(3, .ref g_nxt), (0, .ref h0), (1, .int b1), (2, .int b2)]) hx hb dX10_slip_33 rfl hl (by decide) rfl (fun ls hl => ?_)
      refine lv_aload_n hx hb dX10_slip_34 rfl (lv_at hl 0 rfl) ?_
      refine vk_getf hx hb (hX.2.2 _ hq_nxt).2.2 hS hown (ht0 _ wd_344) (fun _ h => h) dX10_slip_35 ?_
      refine lv_aload_n hx hb dX10_slip_38 rfl (lv_at hl 0 rfl) ?_
      refine vk_getf hx hb (hX.2.2 _ hq_nxt).2.1 hS hown (ht0 _ wd_342) (fun _ h => h) dX10_slip_39 ?_
      refine lv_iload_n hx hb dX10_slip_42 rfl (lv_at hl 2 rfl) ?_
      refine lv_iconst (v := (1 : Int32)) hx hb dX10_slip_43 (by decide) ?_
      refine lv_iload_n hx hb dX10_slip_44 rfl (lv_at hl 3 rfl) ?_
      refine lv_ishl hx hb dX10_slip_45 ?_
      obtain ⟨⟨r_46_6_a1, r_46_6_a3, r_46_6_a4⟩, hc_r_46_6, hf⟩ := of_bnd hf
      refine cl_Vv (w2 := (wW_X10_slip G h0 h1 h2 h3 h4 h5 h6 h7 h8 h9 h10 h11 h12 h13 h14 h15 h16 h17 h18 h19 h20 h21 h22 y0_0 y0_1 y0_2 y0_4 y0_5 y0_6 y0_7 y0_8 y0_9 y0_10 x0_11 x0_12 r_30_5_x0_1 r_30_5_x0_2 r_30_5_a1 x3_0 x3_1 x3_2 a4 a5 a6 a8 a9 a10 a11 a12 r_30_5_x12_0 r_30_5_x12_1 r_30_5_x12_2 r_30_5_a13 r_30_5_a14 r_30_5_a15 r_46_6_a1 r_30_5_a18 r_30_5_a19 r_46_6_a3 r_46_6_a4)) (As := [.ref h13, .int b1, .int ((1 : Int32) <<< (b2 &&& 31))]) (rest := []) ⟨hx, hb, hml, hown, ht0⟩ (c_X9_slipPlaces l G h17 h18 h20 h21 h22 h13 h14 h19 h15 h16 _ r_30_5_a17 r_30_5_a19 r_30_5_a20 r_30_5_a21 r_30_5_x12_0 r_30_5_x12_1 r_30_5_x12_2 r_30_5_a13 F b1 ((1 : Int32) <<< (b2 &&& 31)) _ _ _ hc_r_46_6) yk_X9_slipPlaces wd_902 ⟨rfl, rfl, by decide, by decide⟩ ⟨Nat.le_refl _, Nat.le_refl _⟩ hX hK hP hD hS hA [17, 18, 20, 21, 22, 13, 14] [0, 1, 2, 3, 4, 5, 6, 7, 8, 9, 10, 11, 12, 15, 16, 19] [0, 1, 2, 3, 4, 5, 6, 7, 8, 9, 10, 11, 12, 21, 22, 13, 14, 16, 17, 15, 18, 19, 20] (va_recv hK hP (ci := 9) (q0 := 17) rfl rfl) rfl rfl (by decide) rfl rfl rfl rfl rfl hl.1 rfl (Nat.le_of_ble_eq_true rfl) dX10_slip_46 (fun H locs hP hD hS => ?_)
      refine lv_aload_n hx hb dX10_slip_49 rfl (lv_at hl 0 rfl) ?_
      refine vk_getf hx hb (hX.2.2 _ hq_nxt).2.2 hS hown (ht0 _ wd_344) (fun _ h => h) dX10_slip_50 ?_
      refine va_get (ci := 9) (v := .ref h18) (C := RX9) (T := TX9) (N := 5) hx hb ht0 iX9 hown hK hP 17 rfl rfl 0 (by decide) (ht0 _ wd_321) (fun _ h9 => h9) rfl dX10_slip_53 ?_
      refine lv_iload_n hx hb dX10_slip_56 rfl (lv_at hl 2 rfl) ?_
      obtain ⟨g8, hf⟩ := of_grd hf
      refine va_iald hx hb hK hP 18 0 rfl rfl g8 dX10_slip_57 ?_
      refine lv_iload_n hx hb dX10_slip_58 rfl (lv_at hl 3 rfl) ?_
      refine lv_iushr (v := jushr (r_46_6_a1 b1.toNatClampNeg) b2) hx hb dX10_slip_59 rfl ?_
      refine lv_iconst (v := (1 : Int32)) hx hb dX10_slip_60 (by decide) ?_
      refine lv_iand hx hb dX10_slip_61 ?_
      cases hf
      exact ret_i hx hb hr hlk hK hP hD hS dX10_slip_62
    · have hf := of_pos hf c5
      refine lv_iconst (v := (-1 : Int32)) hx hb dX10_slip_24 (by decide) ?_
      cases hf
      exact ret_i hx hb hr hlk hK hP hD hS dX10_slip_25
theorem yk_X10_slip : ykV yX10_slip RX10 cX10_slip 4 (some .int) 2 := ⟨wd_895, wd_896, wd_127, wd_897, rfl, by decide +kernel, by decide +kernel, by decide +kernel⟩
theorem dX10_burst_0 : decode cX10_burst 0 = .ok (.iload_n 1, 1) := by decide +kernel
theorem dX10_burst_1 : decode cX10_burst 1 = .ok (.invokestatic 140, 3) := by decide +kernel
theorem dX10_burst_4 : decode cX10_burst 4 = .ok (.ifCond .eq 14, 3) := by decide +kernel
theorem dX10_burst_7 : decode cX10_burst 7 = .ok (.iload_n 3, 1) := by decide +kernel
theorem dX10_burst_8 : decode cX10_burst 8 = .ok (.iconst 1, 1) := by decide +kernel
theorem dX10_burst_9 : decode cX10_burst 9 = .ok (.if_icmp .lt 9, 3) := by decide +kernel
theorem dX10_burst_12 : decode cX10_burst 12 = .ok (.iload_n 3, 1) := by decide +kernel
theorem dX10_burst_13 : decode cX10_burst 13 = .ok (.bipush 8, 2) := by decide +kernel
theorem dX10_burst_15 : decode cX10_burst 15 = .ok (.if_icmp .le 5, 3) := by decide +kernel
theorem dX10_burst_18 : decode cX10_burst 18 = .ok (.iconst 0, 1) := by decide +kernel
theorem dX10_burst_19 : decode cX10_burst 19 = .ok (.ireturn, 1) := by decide +kernel
theorem dX10_burst_20 : decode cX10_burst 20 = .ok (.iload_n 2, 1) := by decide +kernel
theorem dX10_burst_21 : decode cX10_burst 21 = .ok (.ifCond .lt 22, 3) := by decide +kernel
theorem dX10_burst_24 : decode cX10_burst 24 = .ok (.iload_n 2, 1) := by decide +kernel
theorem dX10_burst_25 : decode cX10_burst 25 = .ok (.aload_n 0, 1) := by decide +kernel
theorem dX10_burst_26 : decode cX10_burst 26 = .ok (.getfield 29, 3) := by decide +kernel
theorem dX10_burst_29 : decode cX10_burst 29 = .ok (.invokevirtual 92, 3) := by decide +kernel
theorem dX10_burst_32 : decode cX10_burst 32 = .ok (.getfield 96, 3) := by decide +kernel
theorem dX10_burst_35 : decode cX10_burst 35 = .ok (.invokevirtual 136, 3) := by decide +kernel
theorem dX10_burst_38 : decode cX10_burst 38 = .ok (.iload_n 3, 1) := by decide +kernel
theorem dX10_burst_39 : decode cX10_burst 39 = .ok (.isub, 1) := by decide +kernel
theorem dX10_burst_40 : decode cX10_burst 40 = .ok (.if_icmp .le 5, 3) := by decide +kernel
theorem dX10_burst_43 : decode cX10_burst 43 = .ok (.iconst 0, 1) := by decide +kernel
theorem dX10_burst_44 : decode cX10_burst 44 = .ok (.ireturn, 1) := by decide +kernel
theorem dX10_burst_45 : decode cX10_burst 45 = .ok (.aload_n 0, 1) := by decide +kernel
theorem dX10_burst_46 : decode cX10_burst 46 = .ok (.getfield 29, 3) := by decide +kernel
theorem dX10_burst_49 : decode cX10_burst 49 = .ok (.invokevirtual 147, 3) := by decide +kernel
theorem dX10_burst_52 : decode cX10_burst 52 = .ok (.astore 4, 2) := by decide +kernel
theorem dX10_burst_54 : decode cX10_burst 54 = .ok (.aload 4, 2) := by decide +kernel
theorem dX10_burst_56 : decode cX10_burst 56 = .ok (.getfield 125, 3) := by decide +kernel
theorem dX10_burst_59 : decode cX10_burst 59 = .ok (.aload 4, 2) := by decide +kernel
theorem dX10_burst_61 : decode cX10_burst 61 = .ok (.getfield 96, 3) := by decide +kernel
theorem dX10_burst_64 : decode cX10_burst 64 = .ok (.iload_n 1, 1) := by decide +kernel
theorem dX10_burst_65 : decode cX10_burst 65 = .ok (.iconst 1, 1) := by decide +kernel
theorem dX10_burst_66 : decode cX10_burst 66 = .ok (.iload_n 3, 1) := by decide +kernel
theorem dX10_burst_67 : decode cX10_burst 67 = .ok (.ishl, 1) := by decide +kernel
theorem dX10_burst_68 : decode cX10_burst 68 = .ok (.iconst 1, 1) := by decide +kernel
theorem dX10_burst_69 : decode cX10_burst 69 = .ok (.isub, 1) := by decide +kernel
theorem dX10_burst_70 : decode cX10_burst 70 = .ok (.iload_n 2, 1) := by decide +kernel
theorem dX10_burst_71 : decode cX10_burst 71 = .ok (.ishl, 1) := by decide +kernel
theorem dX10_burst_72 : decode cX10_burst 72 = .ok (.invokevirtual 179, 3) := by decide +kernel
theorem dX10_burst_75 : decode cX10_burst 75 = .ok (.iconst 1, 1) := by decide +kernel
theorem dX10_burst_76 : decode cX10_burst 76 = .ok (.ireturn, 1) := by decide +kernel
def wW_X10_burst (G : GG) (h0 h1 h2 h3 h4 h5 h6 h7 h8 h9 h10 h11 h12 h13 h14 h15 h16 h17 h18 h19 h20 h21 h22 y0_0 y0_1 y0_2 y0_4 y0_5 y0_6 y0_7 y0_8 y0_9 y0_10 : Nat) (x0_11 : Int32) (x0_12 : Int32) (x1_1 : Int32) (x1_2 : Int32) (a2 : Nat → Option Nat) (x3_0 : Int32) (x3_1 : Int32) (x3_2 : Int32) (a4 : Nat → Int32) (a5 : Nat → Int32) (a6 : Nat → Int32) (a8 : Nat → Int32) (a9 : Nat → Int32) (a10 : Nat → Int32) (a11 : Nat → Int32) (a12 : Nat → Int32) (x13_0 : Int32) (x13_1 : Int32) (x13_2 : Int32) (a14 : Nat → Int32) (a15 : Nat → Int32) (a16 : Nat → Int32) (a18 : Nat → Int32) (a19 : Nat → Int32) (a20 : Nat → Int32) (a21 : Nat → Int32) (a22 : Nat → Int32) : va_W := [(h0, .inr (10, [.ref y0_0, .ref y0_1, .ref y0_2, .ref h1, .ref y0_4, .ref y0_5, .ref y0_6, .ref y0_7, .ref y0_8, .ref y0_9, .ref y0_10, .int x0_11, .int x0_12])), (h1, .inr (8, [.ref h2, .int x1_1, .int x1_2])), (h2, .inl (G.2.2.2.2.1, 13, .inr (.inr (.inr (.inr a2))))), (h3, .inr (1, [.int x3_0, .int x3_1, .int x3_2, .ref h4, .ref h5, .ref h6])), (h4, .inl (G.2.1, 32, .inl a4)), (h5, .inl (G.2.1, 256, .inl a5)), (h6, .inl (G.2.1, 256, .inl a6)), (h7, .inr (9, [.ref h8, .ref h9, .ref h10, .ref h11, .ref h12])), (h8, .inl (G.2.1, 16, .inl a8)), (h9, .inl (G.2.1, 16, .inl a9)), (h10, .inl (G.2.1, 16, .inl a10)), (h11, .inl (G.2.1, 16, .inl a11)), (h12, .inl (G.2.1, 8, .inl a12)), (h13, .inr (1, [.int x13_0, .int x13_1, .int x13_2, .ref h14, .ref h15, .ref h16])), (h14, .inl (G.2.1, 32, .inl a14)), (h15, .inl (G.2.1, 256, .inl a15)), (h16, .inl (G.2.1, 256, .inl a16)), (h17, .inr (9, [.ref h18, .ref h19, .ref h20, .ref h21, .ref h22])), (h18, .inl (G.2.1, 16, .inl a18)), (h19, .inl (G.2.1, 16, .inl a19)), (h20, .inl (G.2.1, 16, .inl a20)), (h21, .inl (G.2.1, 16, .inl a21)), (h22, .inl (G.2.1, 8, .inl a22))]
set_option maxHeartbeats 4000000 in
set_option maxRecDepth 100000 in
theorem c_X10_burst (l : Launch) (G : GG) (h0 h1 h2 h3 h4 h5 h6 h7 h8 h9 h10 h11 h12 h13 h14 h15 h16 h17 h18 h19 h20 h21 h22 y0_0 y0_1 y0_2 y0_4 y0_5 y0_6 y0_7 y0_8 y0_9 y0_10 g_cur g_nxt : Nat) (sz : Nat) (x0_11 : Int32) (x0_12 : Int32) (x1_1 : Int32) (x1_2 : Int32) (a2 : Nat → Option Nat) (x3_0 : Int32) (x3_1 : Int32) (x3_2 : Int32) (a4 : Nat → Int32) (a5 : Nat → Int32) (a6 : Nat → Int32) (a8 : Nat → Int32) (a9 : Nat → Int32) (a10 : Nat → Int32) (a11 : Nat → Int32) (a12 : Nat → Int32) (x13_0 : Int32) (x13_1 : Int32) (x13_2 : Int32) (a14 : Nat → Int32) (a15 : Nat → Int32) (a16 : Nat → Int32) (a18 : Nat → Int32) (a19 : Nat → Int32) (a20 : Nat → Int32) (a21 : Nat → Int32) (a22 : Nat → Int32) (F : Nat) (b1 : Int32) (b2 : Int32) (b3 : Int32) (hq_cur : (g_cur, h3, h7) ∈ gS G) (hq_nxt : (g_nxt, h13, h17) ∈ gS G) (hall : stAll G a2)  (r0 : Int32) (e_x1_1 : Int32) (e_x1_2 : Int32) (e_a2 : Nat → Option Nat) (e_x13_0 : Int32) (e_x13_1 : Int32) (e_x13_2 : Int32) (e_a14 : Nat → Int32) (e_a15 : Nat → Int32) (e_a16 : Nat → Int32) (e_a18 : Nat → Int32) (e_a19 : Nat → Int32) (e_a20 : Nat → Int32) (e_a21 : Nat → Int32) (e_a22 : Nat → Int32) (hf : p_X10_burst F g_cur g_nxt x1_1 x1_2 a2 x3_0 x3_1 x3_2 a4 a5 a6 a8 a9 a10 a11 a12 x13_0 x13_1 x13_2 a14 a15 a16 a18 a19 a20 a21 a22 b1 b2 b3 = some (r0, e_x1_1, e_x1_2, e_a2, e_x13_0, e_x13_1, e_x13_2, e_a14, e_a15, e_a16, e_a18, e_a19, e_a20, e_a21, e_a22)) : Met l yX10_burst (.code yX10_burst cX10_burst 5 (some .boolean) :: gtbl) ({ frames := 4, cells := 0, slots := 0, locals := 110 } : Room) (PcS G [.ref h0, .int b1, .int b2, .int b3] (wW_X10_burst G h0 h1 h2 h3 h4 h5 h6 h7 h8 h9 h10 h11 h12 h13 h14 h15 h16 h17 h18 h19 h20 h21 h22 y0_0 y0_1 y0_2 y0_4 y0_5 y0_6 y0_7 y0_8 y0_9 y0_10 x0_11 x0_12 x1_1 x1_2 a2 x3_0 x3_1 x3_2 a4 a5 a6 a8 a9 a10 a11 a12 x13_0 x13_1 x13_2 a14 a15 a16 a18 a19 a20 a21 a22) sz) (QiS G r0 (va_A (wW_X10_burst G h0 h1 h2 h3 h4 h5 h6 h7 h8 h9 h10 h11 h12 h13 h14 h15 h16 h17 h18 h19 h20 h21 h22 y0_0 y0_1 y0_2 y0_4 y0_5 y0_6 y0_7 y0_8 y0_9 y0_10 x0_11 x0_12 x1_1 x1_2 a2 x3_0 x3_1 x3_2 a4 a5 a6 a8 a9 a10 a11 a12 x13_0 x13_1 x13_2 a14 a15 a16 a18 a19 a20 a21 a22) sz) (wW_X10_burst G h0 h1 h2 h3 h4 h5 h6 h7 h8 h9 h10 h11 h12 h13 h14 h15 h16 h17 h18 h19 h20 h21 h22 y0_0 y0_1 y0_2 y0_4 y0_5 y0_6 y0_7 y0_8 y0_9 y0_10 x0_11 x0_12 e_x1_1 e_x1_2 e_a2 x3_0 x3_1 x3_2 a4 a5 a6 a8 a9 a10 a11 a12 e_x13_0 e_x13_1 e_x13_2 e_a14 e_a15 e_a16 e_a18 e_a19 e_a20 e_a21 e_a22)) 0 0 (va_A (wW_X10_burst G h0 h1 h2 h3 h4 h5 h6 h7 h8 h9 h10 h11 h12 h13 h14 h15 h16 h17 h18 h19 h20 h21 h22 y0_0 y0_1 y0_2 y0_4 y0_5 y0_6 y0_7 y0_8 y0_9 y0_10 x0_11 x0_12 x1_1 x1_2 a2 x3_0 x3_1 x3_2 a4 a5 a6 a8 a9 a10 a11 a12 x13_0 x13_1 x13_2 a14 a15 a16 a18 a19 a20 a21 a22) sz) := by
  refine met_start (by decide) (Nat.le_of_ble_eq_true rfl) ?_
  intro p e s m below meth c hC hr hlk hnm hK hP hD hA hS hX ls hl
  obtain ⟨hx, hb, hml, hown, ht0⟩ := hC
  have hown : s.vm.findClass RX10 = some m.cls := hown
  generalize va_A (wW_X10_burst G h0 h1 h2 h3 h4 h5 h6 h7 h8 h9 h10 h11 h12 h13 h14 h15 h16 h17 h18 h19 h20 h21 h22 y0_0 y0_1 y0_2 y0_4 y0_5 y0_6 y0_7 y0_8 y0_9 y0_10 x0_11 x0_12 x1_1 x1_2 a2 x3_0 x3_1 x3_2 a4 a5 a6 a8 a9 a10 a11 a12 x13_0 x13_1 x13_2 a14 a15 a16 a18 a19 a20 a21 a22) sz = A at hD hA hS hX ⊢
  have hl : lv_has ls 5 [(0, .ref h0), (1, .int b1), (2, .int b2), (3, .int b3)] := hl
  have hf : p_X10_burst F g_cur g_nxt x1_1 x1_2 a2 x3_0 x3_1 x3_2 a4 a5 a6 a8 a9 a10 a11 a12 x13_0 x13_1 x13_2 a14 a15 a16 a18 a19 a20 a21 a22 b1 b2 b3 = some (r0, e_x1_1, e_x1_2, e_a2, e_x13_0, e_x13_1, e_x13_2, e_a14, e_a15, e_a16, e_a18, e_a19, e_a20, e_a21, e_a22) := hf
  refine lv_iload_n hx hb dX10_burst_0 rfl (lv_at hl 1 rfl) ?_
  obtain ⟨r_1_0, hc_r_1_0, hf⟩ := of_bnd hf
  refine cl_Si (w2 := (wW_X10_burst G h0 h1 h2 h3 h4 h5 h6 h7 h8 h9 h10 h11 h12 h13 h14 h15 h16 h17 h18 h19 h20 h21 h22 y0_0 y0_1 y0_2 y0_4 y0_5 y0_6 y0_7 y0_8 y0_9 y0_10 x0_11 x0_12 x1_1 x1_2 a2 x3_0 x3_1 x3_2 a4 a5 a6 a8 a9 a10 a11 a12 x13_0 x13_1 x13_2 a14 a15 a16 a18 a19 a20 a21 a22)) (As := [.int b1]) (rest := []) ⟨hx, hb, hml, hown, ht0⟩ (c_X10_isWord l G _ F b1 _ hc_r_1_0) yk_X10_isWord wd_791 ⟨rfl, rfl, by decide, by decide⟩ ⟨Nat.le_refl _, Nat.le_refl _⟩ hX hK hP hD hS hA [] [0, 1, 2, 3, 4, 5, 6, 7, 8, 9, 10, 11, 12, 13, 14, 15, 16, 17, 18, 19, 20, 21, 22] [0, 1, 2, 3, 4, 5, 6, 7, 8, 9, 10, 11, 12, 13, 14, 15, 16, 17, 18, 19, 20, 21, 22] rfl rfl (by decide) rfl rfl rfl rfl rfl hl.1 rfl (Nat.le_of_ble_eq_true rfl) dX10_burst_1 (fun H locs hP hD hS => ?_)
  refine lv_if_eq (tgt := 18) hx hb dX10_burst_4 (by decide) (fun c2 => ?_) (fun c2 => ?_)
  · have hf := of_pos hf c2
    refine lv_iconst (v := (0 : Int32)) hx hb dX10_burst_18 (by decide) ?_
    cases hf
    exact ret_z hx hb hr hlk hK hP hD hS (by decide) dX10_burst_19
  · have hf := of_neg hf c2
    refine lv_iload_n hx hb dX10_burst_7 rfl (lv_at hl 3 rfl) ?_
    refine lv_iconst (v := (1 : Int32)) hx hb dX10_burst_8 (by decide) ?_
    refine lv_icmp_lt (tgt := 18) hx hb dX10_burst_9 (by decide) (fun c3 => ?_) (fun c3 => ?_)
    · have hf := of_pos hf c3
      refine lv_iconst (v := (0 : Int32)) hx hb dX10_burst_18 (by decide) ?_
      cases hf
      exact ret_z hx hb hr hlk hK hP hD hS (by decide) dX10_burst_19
    · have hf := of_neg hf c3
      refine lv_iload_n hx hb dX10_burst_12 rfl (lv_at hl 3 rfl) ?_
      refine lv_bipush (v := (8 : Int32)) hx hb dX10_burst_13 (by decide) ?_
      refine lv_icmp_le (tgt := 20) hx hb dX10_burst_15 (by decide) (fun c4 => ?_) (fun c4 => ?_)
      · have hf := of_pos hf c4
        refine lv_iload_n hx hb dX10_burst_20 rfl (lv_at hl 2 rfl) ?_
        refine lv_if_lt (tgt := 43) hx hb dX10_burst_21 (by decide) (fun c5 => ?_) (fun c5 => ?_)
        · have hf := of_pos hf c5
          refine lv_iconst (v := (0 : Int32)) hx hb dX10_burst_43 (by decide) ?_
          cases hf
          exact ret_z hx hb hr hlk hK hP hD hS (by decide) dX10_burst_44
        · have hf := of_neg hf c5
          refine lv_iload_n hx hb dX10_burst_24 rfl (lv_at hl 2 rfl) ?_
          refine lv_aload_n hx hb dX10_burst_25 rfl (lv_at hl 0 rfl) ?_
          refine va_get (ci := 10) (v := .ref h1) (C := RX10) (T := TX10) (N := 13) hx hb ht0 iX10 hown hK hP 0 rfl rfl 3 (by decide) (ht0 _ wd_543) (fun _ h9 => h9) rfl dX10_burst_26 ?_
          obtain ⟨_, hc_r_29_5, hf⟩ := of_bnd hf
          refine cl_Vr (w2 := (wW_X10_burst G h0 h1 h2 h3 h4 h5 h6 h7 h8 h9 h10 h11 h12 h13 h14 h15 h16 h17 h18 h19 h20 h21 h22 y0_0 y0_1 y0_2 y0_4 y0_5 y0_6 y0_7 y0_8 y0_9 y0_10 x0_11 x0_12 x1_1 x1_2 a2 x3_0 x3_1 x3_2 a4 a5 a6 a8 a9 a10 a11 a12 x13_0 x13_1 x13_2 a14 a15 a16 a18 a19 a20 a21 a22)) (As := []) (rest := [.int b2]) ⟨hx, hb, hml, hown, ht0⟩ (c_X8_now l G h1 h2 g_cur h3 h7 _ x1_1 x1_2 a2 F hq_cur hc_r_29_5) yk_X8_now wd_531 ⟨rfl, rfl, by decide, by decide⟩ ⟨Nat.le_refl _, Nat.le_refl _⟩ hX hK hP hD hS hA [1, 2] [0, 3, 4, 5, 6, 7, 8, 9, 10, 11, 12, 13, 14, 15, 16, 17, 18, 19, 20, 21, 22] [0, 21, 22, 1, 2, 3, 4, 5, 6, 7, 8, 9, 10, 11, 12, 13, 14, 15, 16, 17, 18, 19, 20] (va_recv hK hP (ci := 8) (q0 := 1) rfl rfl) rfl rfl (by decide) rfl rfl rfl rfl rfl hl.1 rfl (Nat.le_of_ble_eq_true rfl) dX10_burst_29 (fun H locs hP hD hS => ?_)
          refine vk_getf hx hb (hX.2.2 _ hq_cur).2.1 hS hown (ht0 _ wd_342) (fun _ h => h) dX10_burst_32 ?_
          obtain ⟨r_35_6, hc_r_35_6, hf⟩ := of_bnd hf
          refine cl_Vi (w2 := (wW_X10_burst G h0 h1 h2 h3 h4 h5 h6 h7 h8 h9 h10 h11 h12 h13 h14 h15 h16 h17 h18 h19 h20 h21 h22 y0_0 y0_1 y0_2 y0_4 y0_5 y0_6 y0_7 y0_8 y0_9 y0_10 x0_11 x0_12 x1_1 x1_2 a2 x3_0 x3_1 x3_2 a4 a5 a6 a8 a9 a10 a11 a12 x13_0 x13_1 x13_2 a14 a15 a16 a18 a19 a20 a21 a22)) (As := []) (rest := [.int b2]) ⟨hx, hb, hml, hown, ht0⟩ (c_X1_places l G h3 h4 h5 h6 _ x3_0 x3_1 x3_2 F _ hc_r_35_6) yk_X1_places wd_781 ⟨rfl, rfl, by decide, by decide⟩ ⟨Nat.le_refl _, Nat.le_refl _⟩ hX hK hP hD hS hA [3] [0, 1, 2, 4, 5, 6, 7, 8, 9, 10, 11, 12, 13, 14, 15, 16, 17, 18, 19, 20, 21, 22] [0, 1, 2, 22, 3, 4, 5, 6, 7, 8, 9, 10, 11, 12, 13, 14, 15, 16, 17, 18, 19, 20, 21] (va_recv hK hP (ci := 1) (q0 := 3) rfl rfl) rfl rfl (by decide) rfl rfl rfl rfl rfl hl.1 rfl (Nat.le_of_ble_eq_true rfl) dX10_burst_35 (fun H locs hP hD hS => ?_)
          refine lv_iload_n hx hb dX10_burst_38 rfl (lv_at hl 3 rfl) ?_
          refine lv_isub hx hb dX10_burst_39 ?_
          refine lv_icmp_le (tgt := 45) hx hb dX10_burst_40 (by decide) (fun c8 => ?_) (fun c8 => ?_)
          · have hf := of_pos hf c8
            refine lv_aload_n hx hb dX10_burst_45 rfl (lv_at hl 0 rfl) ?_
            refine va_get (ci := 10) (v := .ref h1) (C := RX10) (T := TX10) (N := 13) hx hb ht0 iX10 hown hK hP 0 rfl rfl 3 (by decide) (ht0 _ wd_543) (fun _ h9 => h9) rfl dX10_burst_46 ?_
            obtain ⟨⟨r_49_8_x0_1, r_49_8_x0_2, r_49_8_a1, r_49_8_x12_0, r_49_8_x12_1, r_49_8_x12_2, r_49_8_a13, r_49_8_a14, r_49_8_a15, r_49_8_a17, r_49_8_a18, r_49_8_a19, r_49_8_a20, r_49_8_a21⟩, hc_r_49_8, hf⟩ := of_bnd hf
            refine cl_Vr (w2 := (wW_X10_burst G h0 h1 h2 h3 h4 h5 h6 h7 h8 h9 h10 h11 h12 h13 h14 h15 h16 h17 h18 h19 h20 h21 h22 y0_0 y0_1 y0_2 y0_4 y0_5 y0_6 y0_7 y0_8 y0_9 y0_10 x0_11 x0_12 r_49_8_x0_1 r_49_8_x0_2 r_49_8_a1 x3_0 x3_1 x3_2 a4 a5 a6 a8 a9 a10 a11 a12 r_49_8_x12_0 r_49_8_x12_1 r_49_8_x12_2 r_49_8_a13 r_49_8_a14 r_49_8_a15 r_49_8_a17 r_49_8_a18 r_49_8_a19 r_49_8_a20 r_49_8_a21)) (As := []) (rest := []) ⟨hx, hb, hml, hown, ht0⟩ (c_X8_beginAct l G h1 h2 h3 h4 h5 h6 h7 h8 h9 h10 h11 h12 h13 h14 h15 h16 h17 h18 h19 h20 h21 h22 g_cur g_nxt _ x1_1 x1_2 a2 x3_0 x3_1 x3_2 a4 a5 a6 a8 a9 a10 a11 a12 x13_0 x13_1 x13_2 a14 a15 a16 a18 a19 a20 a21 a22 F hq_cur hq_nxt hall _ _ _ _ _ _ _ _ _ _ _ _ _ _ hc_r_49_8) yk_X8_beginAct wd_798 ⟨rfl, rfl, by decide, by decide⟩ ⟨Nat.le_refl _, Nat.le_refl _⟩ hX hK hP hD hS hA [1, 2, 3, 4, 5, 6, 7, 8, 9, 10, 11, 12, 13, 14, 15, 16, 17, 18, 19, 20, 21, 22] [0] [0, 1, 2, 3, 4, 5, 6, 7, 8, 9, 10, 11, 12, 13, 14, 15, 16, 17, 18, 19, 20, 21, 22] (va_recv hK hP (ci := 8) (q0 := 1) rfl rfl) rfl rfl (by decide) rfl rfl rfl rfl rfl hl.1 rfl (Nat.le_of_ble_eq_true rfl) dX10_burst_49 (fun H locs hP hD hS => ?_)
            refine lv_astore (lv' := [(4, .ref g_nxt), (0, .ref h0), (1, .int b1), (2, .int b2), (3, .int b3)]) hx hb dX10_burst_52 hl (by decide) rfl (fun ls hl => ?_)
            refine lv_aload hx hb dX10_burst_54 (lv_at hl 0 rfl) ?_
            refine vk_getf hx hb (hX.2.2 _ hq_nxt).2.2 hS hown (ht0 _ wd_344) (fun _ h => h) dX10_burst_56 ?_
            refine lv_aload hx hb dX10_burst_59 (lv_at hl 0 rfl) ?_
            refine vk_getf hx hb (hX.2.2 _ hq_nxt).2.1 hS hown (ht0 _ wd_342) (fun _ h => h) dX10_burst_61 ?_
            refine lv_iload_n hx hb dX10_burst_64 rfl (lv_at hl 2 rfl) ?_
            refine lv_iconst (v := (1 : Int32)) hx hb dX10_burst_65 (by decide) ?_
            refine lv_iload_n hx hb dX10_burst_66 rfl (lv_at hl 4 rfl) ?_
            refine lv_ishl hx hb dX10_burst_67 ?_
            refine lv_iconst (v := (1 : Int32)) hx hb dX10_burst_68 (by decide) ?_
            refine lv_isub hx hb dX10_burst_69 ?_
            refine lv_iload_n hx hb dX10_burst_70 rfl (lv_at hl 3 rfl) ?_
            refine lv_ishl hx hb dX10_burst_71 ?_
            obtain ⟨⟨r_72_9_a1, r_72_9_a3, r_72_9_a4⟩, hc_r_72_9, hf⟩ := of_bnd hf
            refine cl_Vv (w2 := (wW_X10_burst G h0 h1 h2 h3 h4 h5 h6 h7 h8 h9 h10 h11 h12 h13 h14 h15 h16 h17 h18 h19 h20 h21 h22 y0_0 y0_1 y0_2 y0_4 y0_5 y0_6 y0_7 y0_8 y0_9 y0_10 x0_11 x0_12 r_49_8_x0_1 r_49_8_x0_2 r_49_8_a1 x3_0 x3_1 x3_2 a4 a5 a6 a8 a9 a10 a11 a12 r_49_8_x12_0 r_49_8_x12_1 r_49_8_x12_2 r_49_8_a13 r_49_8_a14 r_49_8_a15 r_72_9_a1 r_49_8_a18 r_49_8_a19 r_72_9_a3 r_72_9_a4)) (As := [.ref h13, .int b1, .int ((((1 : Int32) <<< (b3 &&& 31)) - (1 : Int32)) <<< (b2 &&& 31))]) (rest := []) ⟨hx, hb, hml, hown, ht0⟩ (c_X9_slipPlaces l G h17 h18 h20 h21 h22 h13 h14 h19 h15 h16 _ r_49_8_a17 r_49_8_a19 r_49_8_a20 r_49_8_a21 r_49_8_x12_0 r_49_8_x12_1 r_49_8_x12_2 r_49_8_a13 F b1 ((((1 : Int32) <<< (b3 &&& 31)) - (1 : Int32)) <<< (b2 &&& 31)) _ _ _ hc_r_72_9) yk_X9_slipPlaces wd_902 ⟨rfl, rfl, by decide, by decide⟩ ⟨Nat.le_refl _, Nat.le_refl _⟩ hX hK hP hD hS hA [17, 18, 20, 21, 22, 13, 14] [0, 1, 2, 3, 4, 5, 6, 7, 8, 9, 10, 11, 12, 15, 16, 19] [0, 1, 2, 3, 4, 5, 6, 7, 8, 9, 10, 11, 12, 21, 22, 13, 14, 16, 17, 15, 18, 19, 20] (va_recv hK hP (ci := 9) (q0 := 17) rfl rfl) rfl rfl (by decide) rfl rfl rfl rfl rfl hl.1 rfl (Nat.le_of_ble_eq_true rfl) dX10_burst_72 (fun H locs hP hD hS => ?_)
            refine lv_iconst (v := (1 : Int32)) hx hb dX10_burst_75 (by decide) ?_
            cases hf
            exact ret_z hx hb hr hlk hK hP hD hS (by decide) dX10_burst_76
          · have hf := of_neg hf c8
            refine lv_iconst (v := (0 : Int32)) hx hb dX10_burst_43 (by decide) ?_
            cases hf
            exact ret_z hx hb hr hlk hK hP hD hS (by decide) dX10_burst_44
      · have hf := of_neg hf c4
        refine lv_iconst (v := (0 : Int32)) hx hb dX10_burst_18 (by decide) ?_
        cases hf
        exact ret_z hx hb hr hlk hK hP hD hS (by decide) dX10_burst_19
theorem yk_X10_burst : ykV yX10_burst RX10 cX10_burst 5 (some .boolean) 3 := ⟨wd_907, wd_908, wd_127, wd_909, rfl, by decide +kernel, by decide +kernel, by decide +kernel⟩
theorem dX10_storm_0 : decode cX10_storm 0 = .ok (.iload_n 2, 1) := by decide +kernel
theorem dX10_storm_1 : decode cX10_storm 1 = .ok (.iconst 1, 1) := by decide +kernel
theorem dX10_storm_2 : decode cX10_storm 2 = .ok (.if_icmp .lt 12, 3) := by decide +kernel
theorem dX10_storm_5 : decode cX10_storm 5 = .ok (.iload_n 1, 1) := by decide +kernel
theorem dX10_storm_6 : decode cX10_storm 6 = .ok (.iload_n 2, 1) := by decide +kernel
theorem dX10_storm_7 : decode cX10_storm 7 = .ok (.iload_n 3, 1) := by decide +kernel
theorem dX10_storm_8 : decode cX10_storm 8 = .ok (.invokestatic 185, 3) := by decide +kernel
theorem dX10_storm_11 : decode cX10_storm 11 = .ok (.ifCond .ne 5, 3) := by decide +kernel
theorem dX10_storm_14 : decode cX10_storm 14 = .ok (.iconst (-1), 1) := by decide +kernel
theorem dX10_storm_15 : decode cX10_storm 15 = .ok (.ireturn, 1) := by decide +kernel
theorem dX10_storm_16 : decode cX10_storm 16 = .ok (.aload_n 0, 1) := by decide +kernel
theorem dX10_storm_17 : decode cX10_storm 17 = .ok (.getfield 29, 3) := by decide +kernel
theorem dX10_storm_20 : decode cX10_storm 20 = .ok (.invokevirtual 147, 3) := by decide +kernel
theorem dX10_storm_23 : decode cX10_storm 23 = .ok (.astore 4, 2) := by decide +kernel
theorem dX10_storm_25 : decode cX10_storm 25 = .ok (.aload 4, 2) := by decide +kernel
theorem dX10_storm_27 : decode cX10_storm 27 = .ok (.getfield 125, 3) := by decide +kernel
theorem dX10_storm_30 : decode cX10_storm 30 = .ok (.aload 4, 2) := by decide +kernel
theorem dX10_storm_32 : decode cX10_storm 32 = .ok (.getfield 96, 3) := by decide +kernel
theorem dX10_storm_35 : decode cX10_storm 35 = .ok (.iload_n 1, 1) := by decide +kernel
theorem dX10_storm_36 : decode cX10_storm 36 = .ok (.iload_n 2, 1) := by decide +kernel
theorem dX10_storm_37 : decode cX10_storm 37 = .ok (.iload_n 3, 1) := by decide +kernel
theorem dX10_storm_38 : decode cX10_storm 38 = .ok (.aload_n 0, 1) := by decide +kernel
theorem dX10_storm_39 : decode cX10_storm 39 = .ok (.getfield 47, 3) := by decide +kernel
theorem dX10_storm_42 : decode cX10_storm 42 = .ok (.invokevirtual 189, 3) := by decide +kernel
theorem dX10_storm_45 : decode cX10_storm 45 = .ok (.bipush 16, 2) := by decide +kernel
theorem dX10_storm_47 : decode cX10_storm 47 = .ok (.aload 4, 2) := by decide +kernel
theorem dX10_storm_49 : decode cX10_storm 49 = .ok (.getfield 125, 3) := by decide +kernel
theorem dX10_storm_52 : decode cX10_storm 52 = .ok (.invokevirtual 192, 3) := by decide +kernel
theorem dX10_storm_55 : decode cX10_storm 55 = .ok (.isub, 1) := by decide +kernel
theorem dX10_storm_56 : decode cX10_storm 56 = .ok (.ireturn, 1) := by decide +kernel
def wW_X10_storm (G : GG) (h0 h1 h2 h3 h4 h5 h6 h7 h8 h9 h10 h11 h12 h13 h14 h15 h16 h17 h18 h19 h20 h21 h22 h23 y0_0 y0_1 y0_2 y0_4 y0_5 y0_7 y0_8 y0_9 y0_10 : Nat) (x0_11 : Int32) (x0_12 : Int32) (x1_1 : Int32) (x1_2 : Int32) (a2 : Nat → Option Nat) (x3_0 : Int32) (x3_1 : Int32) (x3_2 : Int32) (x4_0 : Int32) (x4_1 : Int32) (x4_2 : Int32) (a5 : Nat → Int32) (a6 : Nat → Int32) (a7 : Nat → Int32) (a9 : Nat → Int32) (a10 : Nat → Int32) (a11 : Nat → Int32) (a12 : Nat → Int32) (a13 : Nat → Int32) (x14_0 : Int32) (x14_1 : Int32) (x14_2 : Int32) (a15 : Nat → Int32) (a16 : Nat → Int32) (a17 : Nat → Int32) (a19 : Nat → Int32) (a20 : Nat → Int32) (a21 : Nat → Int32) (a22 : Nat → Int32) (a23 : Nat → Int32) : va_W := [(h0, .inr (10, [.ref y0_0, .ref y0_1, .ref y0_2, .ref h1, .ref y0_4, .ref y0_5, .ref h3, .ref y0_7, .ref y0_8, .ref y0_9, .ref y0_10, .int x0_11, .int x0_12])), (h1, .inr (8, [.ref h2, .int x1_1, .int x1_2])), (h2, .inl (G.2.2.2.2.1, 13, .inr (.inr (.inr (.inr a2))))), (h3, .inr (2, [.int x3_0, .int x3_1, .int x3_2])), (h4, .inr (1, [.int x4_0, .int x4_1, .int x4_2, .ref h5, .ref h6, .ref h7])), (h5, .inl (G.2.1, 32, .inl a5)), (h6, .inl (G.2.1, 256, .inl a6)), (h7, .inl (G.2.1, 256, .inl a7)), (h8, .inr (9, [.ref h9, .ref h10, .ref h11, .ref h12, .ref h13])), (h9, .inl (G.2.1, 16, .inl a9)), (h10, .inl (G.2.1, 16, .inl a10)), (h11, .inl (G.2.1, 16, .inl a11)), (h12, .inl (G.2.1, 16, .inl a12)), (h13, .inl (G.2.1, 8, .inl a13)), (h14, .inr (1, [.int x14_0, .int x14_1, .int x14_2, .ref h15, .ref h16, .ref h17])), (h15, .inl (G.2.1, 32, .inl a15)), (h16, .inl (G.2.1, 256, .inl a16)), (h17, .inl (G.2.1, 256, .inl a17)), (h18, .inr (9, [.ref h19, .ref h20, .ref h21, .ref h22, .ref h23])), (h19, .inl (G.2.1, 16, .inl a19)), (h20, .inl (G.2.1, 16, .inl a20)), (h21, .inl (G.2.1, 16, .inl a21)), (h22, .inl (G.2.1, 16, .inl a22)), (h23, .inl (G.2.1, 8, .inl a23))]
set_option maxHeartbeats 4000000 in
set_option maxRecDepth 100000 in
theorem c_X10_storm (l : Launch) (G : GG) (h0 h1 h2 h3 h4 h5 h6 h7 h8 h9 h10 h11 h12 h13 h14 h15 h16 h17 h18 h19 h20 h21 h22 h23 y0_0 y0_1 y0_2 y0_4 y0_5 y0_7 y0_8 y0_9 y0_10 g_cur g_nxt : Nat) (sz : Nat) (x0_11 : Int32) (x0_12 : Int32) (x1_1 : Int32) (x1_2 : Int32) (a2 : Nat → Option Nat) (x3_0 : Int32) (x3_1 : Int32) (x3_2 : Int32) (x4_0 : Int32) (x4_1 : Int32) (x4_2 : Int32) (a5 : Nat → Int32) (a6 : Nat → Int32) (a7 : Nat → Int32) (a9 : Nat → Int32) (a10 : Nat → Int32) (a11 : Nat → Int32) (a12 : Nat → Int32) (a13 : Nat → Int32) (x14_0 : Int32) (x14_1 : Int32) (x14_2 : Int32) (a15 : Nat → Int32) (a16 : Nat → Int32) (a17 : Nat → Int32) (a19 : Nat → Int32) (a20 : Nat → Int32) (a21 : Nat → Int32) (a22 : Nat → Int32) (a23 : Nat → Int32) (F : Nat) (b1 : Int32) (b2 : Int32) (b3 : Int32) (hq_cur : (g_cur, h4, h8) ∈ gS G) (hq_nxt : (g_nxt, h14, h18) ∈ gS G) (hall : stAll G a2)  (r0 : Int32) (e_x1_1 : Int32) (e_x1_2 : Int32) (e_a2 : Nat → Option Nat) (e_x3_0 : Int32) (e_x3_1 : Int32) (e_x3_2 : Int32) (e_x14_0 : Int32) (e_x14_1 : Int32) (e_x14_2 : Int32) (e_a15 : Nat → Int32) (e_a16 : Nat → Int32) (e_a17 : Nat → Int32) (e_a19 : Nat → Int32) (e_a20 : Nat → Int32) (e_a21 : Nat → Int32) (e_a22 : Nat → Int32) (e_a23 : Nat → Int32) (hf : p_X10_storm F g_cur g_nxt x1_1 x1_2 a2 x3_0 x3_1 x3_2 x4_0 x4_1 x4_2 a5 a6 a7 a9 a10 a11 a12 a13 x14_0 x14_1 x14_2 a15 a16 a17 a19 a20 a21 a22 a23 b1 b2 b3 = some (r0, e_x1_1, e_x1_2, e_a2, e_x3_0, e_x3_1, e_x3_2, e_x14_0, e_x14_1, e_x14_2, e_a15, e_a16, e_a17, e_a19, e_a20, e_a21, e_a22, e_a23)) : Met l yX10_storm (.code yX10_storm cX10_storm 5 (some .int) :: gtbl) ({ frames := 6, cells := 0, slots := 0, locals := 152 } : Room) (PcS G [.ref h0, .int b1, .int b2, .int b3] (wW_X10_storm G h0 h1 h2 h3 h4 h5 h6 h7 h8 h9 h10 h11 h12 h13 h14 h15 h16 h17 h18 h19 h20 h21 h22 h23 y0_0 y0_1 y0_2 y0_4 y0_5 y0_7 y0_8 y0_9 y0_10 x0_11 x0_12 x1_1 x1_2 a2 x3_0 x3_1 x3_2 x4_0 x4_1 x4_2 a5 a6 a7 a9 a10 a11 a12 a13 x14_0 x14_1 x14_2 a15 a16 a17 a19 a20 a21 a22 a23) sz) (QiS G r0 (va_A (wW_X10_storm G h0 h1 h2 h3 h4 h5 h6 h7 h8 h9 h10 h11 h12 h13 h14 h15 h16 h17 h18 h19 h20 h21 h22 h23 y0_0 y0_1 y0_2 y0_4 y0_5 y0_7 y0_8 y0_9 y0_10 x0_11 x0_12 x1_1 x1_2 a2 x3_0 x3_1 x3_2 x4_0 x4_1 x4_2 a5 a6 a7 a9 a10 a11 a12 a13 x14_0 x14_1 x14_2 a15 a16 a17 a19 a20 a21 a22 a23) sz) (wW_X10_storm G h0 h1 h2 h3 h4 h5 h6 h7 h8 h9 h10 h11 h12 h13 h14 h15 h16 h17 h18 h19 h20 h21 h22 h23 y0_0 y0_1 y0_2 y0_4 y0_5 y0_7 y0_8 y0_9 y0_10 x0_11 x0_12 e_x1_1 e_x1_2 e_a2 e_x3_0 e_x3_1 e_x3_2 x4_0 x4_1 x4_2 a5 a6 a7 a9 a10 a11 a12 a13 e_x14_0 e_x14_1 e_x14_2 e_a15 e_a16 e_a17 e_a19 e_a20 e_a21 e_a22 e_a23)) 0 0 (va_A (wW_X10_storm G h0 h1 h2 h3 h4 h5 h6 h7 h8 h9 h10 h11 h12 h13 h14 h15 h16 h17 h18 h19 h20 h21 h22 h23 y0_0 y0_1 y0_2 y0_4 y0_5 y0_7 y0_8 y0_9 y0_10 x0_11 x0_12 x1_1 x1_2 a2 x3_0 x3_1 x3_2 x4_0 x4_1 x4_2 a5 a6 a7 a9 a10 a11 a12 a13 x14_0 x14_1 x14_2 a15 a16 a17 a19 a20 a21 a22 a23) sz) := by
  refine met_start (by decide) (Nat.le_of_ble_eq_true rfl) ?_
  intro p e s m below meth c hC hr hlk hnm hK hP hD hA hS hX ls hl
  obtain ⟨hx, hb, hml, hown, ht0⟩ := hC
  have hown : s.vm.findClass RX10 = some m.cls := hown
  generalize va_A (wW_X10_storm G h0 h1 h2 h3 h4 h5 h6 h7 h8 h9 h10 h11 h12 h13 h14 h15 h16 h17 h18 h19 h20 h21 h22 h23 y0_0 y0_1 y0_2 y0_4 y0_5 y0_7 y0_8 y0_9 y0_10 x0_11 x0_12 x1_1 x1_2 a2 x3_0 x3_1 x3_2 x4_0 x4_1 x4_2 a5 a6 a7 a9 a10 a11 a12 a13 x14_0 x14_1 x14_2 a15 a16 a17 a19 a20 a21 a22 a23) sz = A at hD hA hS hX ⊢
  have hl : lv_has ls 5 [(0, .ref h0), (1, .int b1), (2, .int b2), (3, .int b3)] := hl
  have hf : p_X10_storm F g_cur g_nxt x1_1 x1_2 a2 x3_0 x3_1 x3_2 x4_0 x4_1 x4_2 a5 a6 a7 a9 a10 a11 a12 a13 x14_0 x14_1 x14_2 a15 a16 a17 a19 a20 a21 a22 a23 b1 b2 b3 = some (r0, e_x1_1, e_x1_2, e_a2, e_x3_0, e_x3_1, e_x3_2, e_x14_0, e_x14_1, e_x14_2, e_a15, e_a16, e_a17, e_a19, e_a20, e_a21, e_a22, e_a23) := hf
  refine lv_iload_n hx hb dX10_storm_0 rfl (lv_at hl 2 rfl) ?_
  refine lv_iconst (v := (1 : Int32)) hx hb dX10_storm_1 (by decide) ?_
  refine lv_icmp_lt (tgt := 14) hx hb dX10_storm_2 (by decide) (fun c1 => ?_) (fun c1 => ?_)
  · have hf := of_pos hf c1
    refine lv_iconst (v := (-1 : Int32)) hx hb dX10_storm_14 (by decide) ?_
    cases hf
    exact ret_i hx hb hr hlk hK hP hD hS dX10_storm_15
  · have hf := of_neg hf c1
    refine lv_iload_n hx hb dX10_storm_5 rfl (lv_at hl 1 rfl) ?_
    refine lv_iload_n hx hb dX10_storm_6 rfl (lv_at hl 2 rfl) ?_
    refine lv_iload_n hx hb dX10_storm_7 rfl (lv_at hl 3 rfl) ?_
    obtain ⟨r_8_1, hc_r_8_1, hf⟩ := of_bnd hf
    refine cl_Si (w2 := (wW_X10_storm G h0 h1 h2 h3 h4 h5 h6 h7 h8 h9 h10 h11 h12 h13 h14 h15 h16 h17 h18 h19 h20 h21 h22 h23 y0_0 y0_1 y0_2 y0_4 y0_5 y0_7 y0_8 y0_9 y0_10 x0_11 x0_12 x1_1 x1_2 a2 x3_0 x3_1 x3_2 x4_0 x4_1 x4_2 a5 a6 a7 a9 a10 a11 a12 a13 x14_0 x14_1 x14_2 a15 a16 a17 a19 a20 a21 a22 a23)) (As := [.int b1, .int b2, .int b3]) (rest := []) ⟨hx, hb, hml, hown, ht0⟩ (c_X10_isStorm l G _ F b1 b2 b3 _ hc_r_8_1) yk_X10_isStorm wd_914 ⟨rfl, rfl, by decide, by decide⟩ ⟨Nat.le_refl _, Nat.le_refl _⟩ hX hK hP hD hS hA [] [0, 1, 2, 3, 4, 5, 6, 7, 8, 9, 10, 11, 12, 13, 14, 15, 16, 17, 18, 19, 20, 21, 22, 23] [0, 1, 2, 3, 4, 5, 6, 7, 8, 9, 10, 11, 12, 13, 14, 15, 16, 17, 18, 19, 20, 21, 22, 23] rfl rfl (by decide) rfl rfl rfl rfl rfl hl.1 rfl (Nat.le_of_ble_eq_true rfl) dX10_storm_8 (fun H locs hP hD hS => ?_)
    refine lv_if_ne (tgt := 16) hx hb dX10_storm_11 (by decide) (fun c3 => ?_) (fun c3 => ?_)
    · have hf := of_neg hf c3
      refine lv_aload_n hx hb dX10_storm_16 rfl (lv_at hl 0 rfl) ?_
      refine va_get (ci := 10) (v := .ref h1) (C := RX10) (T := TX10) (N := 13) hx hb ht0 iX10 hown hK hP 0 rfl rfl 3 (by decide) (ht0 _ wd_543) (fun _ h9 => h9) rfl dX10_storm_17 ?_
      obtain ⟨⟨r_20_3_x0_1, r_20_3_x0_2, r_20_3_a1, r_20_3_x12_0, r_20_3_x12_1, r_20_3_x12_2, r_20_3_a13, r_20_3_a14, r_20_3_a15, r_20_3_a17, r_20_3_a18, r_20_3_a19, r_20_3_a20, r_20_3_a21⟩, hc_r_20_3, hf⟩ := of_bnd hf
      refine cl_Vr (w2 := (wW_X10_storm G h0 h1 h2 h3 h4 h5 h6 h7 h8 h9 h10 h11 h12 h13 h14 h15 h16 h17 h18 h19 h20 h21 h22 h23 y0_0 y0_1 y0_2 y0_4 y0_5 y0_7 y0_8 y0_9 y0_10 x0_11 x0_12 r_20_3_x0_1 r_20_3_x0_2 r_20_3_a1 x3_0 x3_1 x3_2 x4_0 x4_1 x4_2 a5 a6 a7 a9 a10 a11 a12 a13 r_20_3_x12_0 r_20_3_x12_1 r_20_3_x12_2 r_20_3_a13 r_20_3_a14 r_20_3_a15 r_20_3_a17 r_20_3_a18 r_20_3_a19 r_20_3_a20 r_20_3_a21)) (As := []) (rest := []) ⟨hx, hb, hml, hown, ht0⟩ (c_X8_beginAct l G h1 h2 h4 h5 h6 h7 h8 h9 h10 h11 h12 h13 h14 h15 h16 h17 h18 h19 h20 h21 h22 h23 g_cur g_nxt _ x1_1 x1_2 a2 x4_0 x4_1 x4_2 a5 a6 a7 a9 a10 a11 a12 a13 x14_0 x14_1 x14_2 a15 a16 a17 a19 a20 a21 a22 a23 F hq_cur hq_nxt hall _ _ _ _ _ _ _ _ _ _ _ _ _ _ hc_r_20_3) yk_X8_beginAct wd_798 ⟨rfl, rfl, by decide, by decide⟩ ⟨Nat.le_refl _, Nat.le_refl _⟩ hX hK hP hD hS hA [1, 2, 4, 5, 6, 7, 8, 9, 10, 11, 12, 13, 14, 15, 16, 17, 18, 19, 20, 21, 22, 23] [0, 3] [0, 2, 3, 1, 4, 5, 6, 7, 8, 9, 10, 11, 12, 13, 14, 15, 16, 17, 18, 19, 20, 21, 22, 23] (va_recv hK hP (ci := 8) (q0 := 1) rfl rfl) rfl rfl (by decide) rfl rfl rfl rfl rfl hl.1 rfl (Nat.le_of_ble_eq_true rfl) dX10_storm_20 (fun H locs hP hD hS => ?_)
      refine lv_astore (lv' := [(4, .ref g_nxt), (0, .ref h0), (1, .int b1), (2, .int b2), (3, .int b3)]) hx hb dX10_storm_23 hl (by decide) rfl (fun ls hl => ?_)
      refine lv_aload hx hb dX10_storm_25 (lv_at hl 0 rfl) ?_
      refine vk_getf hx hb (hX.2.2 _ hq_nxt).2.2 hS hown (ht0 _ wd_344) (fun _ h => h) dX10_storm_27 ?_
      refine lv_aload hx hb dX10_storm_30 (lv_at hl 0 rfl) ?_
      refine vk_getf hx hb (hX.2.2 _ hq_nxt).2.1 hS hown (ht0 _ wd_342) (fun _ h => h) dX10_storm_32 ?_
      refine lv_iload_n hx hb dX10_storm_35 rfl (lv_at hl 2 rfl) ?_
      refine lv_iload_n hx hb dX10_storm_36 rfl (lv_at hl 3 rfl) ?_
      refine lv_iload_n hx hb dX10_storm_37 rfl (lv_at hl 4 rfl) ?_
      refine lv_aload_n hx hb dX10_storm_38 rfl (lv_at hl 1 rfl) ?_
      refine va_get (ci := 10) (v := .ref h3) (C := RX10) (T := TX10) (N := 13) hx hb ht0 iX10 hown hK hP 0 rfl rfl 6 (by decide) (ht0 _ wd_546) (fun _ h9 => h9) rfl dX10_storm_39 ?_
      obtain ⟨⟨r_42_4_a1, r_42_4_a4, r_42_4_a5, r_42_4_x10_0, r_42_4_x10_1, r_42_4_x10_2⟩, hc_r_42_4, hf⟩ := of_bnd hf
      refine cl_Vv (w2 := (wW_X10_storm G h0 h1 h2 h3 h4 h5 h6 h7 h8 h9 h10 h11 h12 h13 h14 h15 h16 h17 h18 h19 h20 h21 h22 h23 y0_0 y0_1 y0_2 y0_4 y0_5 y0_7 y0_8 y0_9 y0_10 x0_11 x0_12 r_20_3_x0_1 r_20_3_x0_2 r_20_3_a1 r_42_4_x10_0 r_42_4_x10_1 r_42_4_x10_2 x4_0 x4_1 x4_2 a5 a6 a7 a9 a10 a11 a12 a13 r_20_3_x12_0 r_20_3_x12_1 r_20_3_x12_2 r_20_3_a13 r_20_3_a14 r_20_3_a15 r_42_4_a1 r_20_3_a18 r_20_3_a19 r_42_4_a4 r_42_4_a5)) (As := [.ref h14, .int b1, .int b2, .int b3, .ref h3]) (rest := []) ⟨hx, hb, hml, hown, ht0⟩ (c_X9_runStorm l G h18 h19 h20 h21 h22 h23 h14 h15 h16 h17 h3 _ r_20_3_a17 r_20_3_a18 r_20_3_a19 r_20_3_a20 r_20_3_a21 r_20_3_x12_0 r_20_3_x12_1 r_20_3_x12_2 r_20_3_a13 r_20_3_a14 r_20_3_a15 x3_0 x3_1 x3_2 F b1 b2 b3 _ _ _ _ _ _ hc_r_42_4) yk_X9_runStorm wd_917 ⟨rfl, rfl, by decide, by decide⟩ ⟨Nat.le_refl _, Nat.le_refl _⟩ hX hK hP hD hS hA [18, 19, 20, 21, 22, 23, 14, 15, 16, 17, 3] [0, 1, 2, 4, 5, 6, 7, 8, 9, 10, 11, 12, 13] [0, 1, 2, 23, 3, 4, 5, 6, 7, 8, 9, 10, 11, 12, 19, 20, 21, 22, 13, 14, 15, 16, 17, 18] (va_recv hK hP (ci := 9) (q0 := 18) rfl rfl) rfl rfl (by decide) rfl rfl rfl rfl rfl hl.1 rfl (Nat.le_of_ble_eq_true rfl) dX10_storm_42 (fun H locs hP hD hS => ?_)
      refine lv_bipush (v := (16 : Int32)) hx hb dX10_storm_45 (by decide) ?_
      refine lv_aload hx hb dX10_storm_47 (lv_at hl 0 rfl) ?_
      refine vk_getf hx hb (hX.2.2 _ hq_nxt).2.2 hS hown (ht0 _ wd_344) (fun _ h => h) dX10_storm_49 ?_
      obtain ⟨r_52_5, hc_r_52_5, hf⟩ := of_bnd hf
      refine cl_Vi (w2 := (wW_X10_storm G h0 h1 h2 h3 h4 h5 h6 h7 h8 h9 h10 h11 h12 h13 h14 h15 h16 h17 h18 h19 h20 h21 h22 h23 y0_0 y0_1 y0_2 y0_4 y0_5 y0_7 y0_8 y0_9 y0_10 x0_11 x0_12 r_20_3_x0_1 r_20_3_x0_2 r_20_3_a1 r_42_4_x10_0 r_42_4_x10_1 r_42_4_x10_2 x4_0 x4_1 x4_2 a5 a6 a7 a9 a10 a11 a12 a13 r_20_3_x12_0 r_20_3_x12_1 r_20_3_x12_2 r_20_3_a13 r_20_3_a14 r_20_3_a15 r_42_4_a1 r_20_3_a18 r_20_3_a19 r_42_4_a4 r_42_4_a5)) (As := []) (rest := [.int (16 : Int32)]) ⟨hx, hb, hml, hown, ht0⟩ (c_X9_countAsMeant l G h18 h19 h20 h21 h22 h23 _ r_42_4_a1 r_20_3_a18 F _ hc_r_52_5) yk_X9_countAsMeant wd_927 ⟨rfl, rfl, by decide, by decide⟩ ⟨Nat.le_refl _, Nat.le_refl _⟩ hX hK hP hD hS hA [18, 19, 20] [0, 1, 2, 3, 4, 5, 6, 7, 8, 9, 10, 11, 12, 13, 14, 15, 16, 17, 21, 22, 23] [0, 1, 2, 3, 4, 5, 6, 7, 8, 9, 10, 11, 12, 13, 14, 15, 16, 17, 21, 22, 23, 18, 19, 20] (va_recv hK hP (ci := 9) (q0 := 18) rfl rfl) rfl rfl (by decide) rfl rfl rfl rfl rfl hl.1 rfl (Nat.le_of_ble_eq_true rfl) dX10_storm_52 (fun H locs hP hD hS => ?_)
      refine lv_isub hx hb dX10_storm_55 ?_
      cases hf
      exact ret_i hx hb hr hlk hK hP hD hS dX10_storm_56
    · have hf := of_pos hf c3
      refine lv_iconst (v := (-1 : Int32)) hx hb dX10_storm_14 (by decide) ?_
      cases hf
      exact ret_i hx hb hr hlk hK hP hD hS dX10_storm_15
theorem yk_X10_storm : ykV yX10_storm RX10 cX10_storm 5 (some .int) 3 := ⟨wd_911, wd_912, wd_127, wd_913, rfl, by decide +kernel, by decide +kernel, by decide +kernel⟩
theorem dX10_stick_0 : decode cX10_stick 0 = .ok (.aload_n 0, 1) := by decide +kernel
theorem dX10_stick_1 : decode cX10_stick 1 = .ok (.getfield 29, 3) := by decide +kernel
theorem dX10_stick_4 : decode cX10_stick 4 = .ok (.invokevirtual 92, 3) := by decide +kernel
theorem dX10_stick_7 : decode cX10_stick 7 = .ok (.astore 4, 2) := by decide +kernel
theorem dX10_stick_9 : decode cX10_stick 9 = .ok (.iload_n 1, 1) := by decide +kernel
theorem dX10_stick_10 : decode cX10_stick 10 = .ok (.invokestatic 140, 3) := by decide +kernel
theorem dX10_stick_13 : decode cX10_stick 13 = .ok (.ifCond .eq 24, 3) := by decide +kernel
theorem dX10_stick_16 : decode cX10_stick 16 = .ok (.aload 4, 2) := by decide +kernel
theorem dX10_stick_18 : decode cX10_stick 18 = .ok (.getfield 96, 3) := by decide +kernel
theorem dX10_stick_21 : decode cX10_stick 21 = .ok (.iload_n 2, 1) := by decide +kernel
theorem dX10_stick_22 : decode cX10_stick 22 = .ok (.invokevirtual 176, 3) := by decide +kernel
theorem dX10_stick_25 : decode cX10_stick 25 = .ok (.ifCond .eq 12, 3) := by decide +kernel
theorem dX10_stick_28 : decode cX10_stick 28 = .ok (.iload_n 3, 1) := by decide +kernel
theorem dX10_stick_29 : decode cX10_stick 29 = .ok (.ifCond .lt 8, 3) := by decide +kernel
theorem dX10_stick_32 : decode cX10_stick 32 = .ok (.iload_n 3, 1) := by decide +kernel
theorem dX10_stick_33 : decode cX10_stick 33 = .ok (.iconst 1, 1) := by decide +kernel
theorem dX10_stick_34 : decode cX10_stick 34 = .ok (.if_icmp .le 5, 3) := by decide +kernel
theorem dX10_stick_37 : decode cX10_stick 37 = .ok (.iconst 0, 1) := by decide +kernel
theorem dX10_stick_38 : decode cX10_stick 38 = .ok (.ireturn, 1) := by decide +kernel
theorem dX10_stick_39 : decode cX10_stick 39 = .ok (.aload 4, 2) := by decide +kernel
theorem dX10_stick_41 : decode cX10_stick 41 = .ok (.getfield 125, 3) := by decide +kernel
theorem dX10_stick_44 : decode cX10_stick 44 = .ok (.getfield 195, 3) := by decide +kernel
theorem dX10_stick_47 : decode cX10_stick 47 = .ok (.iload_n 1, 1) := by decide +kernel
theorem dX10_stick_48 : decode cX10_stick 48 = .ok (.iaload, 1) := by decide +kernel
theorem dX10_stick_49 : decode cX10_stick 49 = .ok (.istore 5, 2) := by decide +kernel
theorem dX10_stick_51 : decode cX10_stick 51 = .ok (.iload 5, 2) := by decide +kernel
theorem dX10_stick_53 : decode cX10_stick 53 = .ok (.iload_n 2, 1) := by decide +kernel
theorem dX10_stick_54 : decode cX10_stick 54 = .ok (.iushr, 1) := by decide +kernel
theorem dX10_stick_55 : decode cX10_stick 55 = .ok (.iconst 1, 1) := by decide +kernel
theorem dX10_stick_56 : decode cX10_stick 56 = .ok (.iand, 1) := by decide +kernel
theorem dX10_stick_57 : decode cX10_stick 57 = .ok (.iconst 1, 1) := by decide +kernel
theorem dX10_stick_58 : decode cX10_stick 58 = .ok (.if_icmp .eq 12, 3) := by decide +kernel
theorem dX10_stick_61 : decode cX10_stick 61 = .ok (.iload 5, 2) := by decide +kernel
theorem dX10_stick_63 : decode cX10_stick 63 = .ok (.invokestatic 198, 3) := by decide +kernel
theorem dX10_stick_66 : decode cX10_stick 66 = .ok (.iconst 2, 1) := by decide +kernel
theorem dX10_stick_67 : decode cX10_stick 67 = .ok (.if_icmp .lt 5, 3) := by decide +kernel
theorem dX10_stick_70 : decode cX10_stick 70 = .ok (.iconst 0, 1) := by decide +kernel
theorem dX10_stick_71 : decode cX10_stick 71 = .ok (.ireturn, 1) := by decide +kernel
theorem dX10_stick_72 : decode cX10_stick 72 = .ok (.aload_n 0, 1) := by decide +kernel
theorem dX10_stick_73 : decode cX10_stick 73 = .ok (.getfield 29, 3) := by decide +kernel
theorem dX10_stick_76 : decode cX10_stick 76 = .ok (.invokevirtual 147, 3) := by decide +kernel
theorem dX10_stick_79 : decode cX10_stick 79 = .ok (.astore 6, 2) := by decide +kernel
theorem dX10_stick_81 : decode cX10_stick 81 = .ok (.aload 6, 2) := by decide +kernel
theorem dX10_stick_83 : decode cX10_stick 83 = .ok (.getfield 125, 3) := by decide +kernel
theorem dX10_stick_86 : decode cX10_stick 86 = .ok (.aload 6, 2) := by decide +kernel
theorem dX10_stick_88 : decode cX10_stick 88 = .ok (.getfield 96, 3) := by decide +kernel
theorem dX10_stick_91 : decode cX10_stick 91 = .ok (.iload_n 1, 1) := by decide +kernel
theorem dX10_stick_92 : decode cX10_stick 92 = .ok (.iload_n 2, 1) := by decide +kernel
theorem dX10_stick_93 : decode cX10_stick 93 = .ok (.iload_n 3, 1) := by decide +kernel
theorem dX10_stick_94 : decode cX10_stick 94 = .ok (.invokevirtual 204, 3) := by decide +kernel
theorem dX10_stick_97 : decode cX10_stick 97 = .ok (.iconst 1, 1) := by decide +kernel
theorem dX10_stick_98 : decode cX10_stick 98 = .ok (.ireturn, 1) := by decide +kernel
def wW_X10_stick (G : GG) (h0 h1 h2 h3 h4 h5 h6 h7 h8 h9 h10 h11 h12 h13 h14 h15 h16 h17 h18 h19 h20 h21 h22 y0_0 y0_1 y0_2 y0_4 y0_5 y0_6 y0_7 y0_8 y0_9 y0_10 : Nat) (x0_11 : Int32) (x0_12 : Int32) (x1_1 : Int32) (x1_2 : Int32) (a2 : Nat → Option Nat) (x3_0 : Int32) (x3_1 : Int32) (x3_2 : Int32) (a4 : Nat → Int32) (a5 : Nat → Int32) (a6 : Nat → Int32) (a8 : Nat → Int32) (a9 : Nat → Int32) (a10 : Nat → Int32) (a11 : Nat → Int32) (a12 : Nat → Int32) (x13_0 : Int32) (x13_1 : Int32) (x13_2 : Int32) (a14 : Nat → Int32) (a15 : Nat → Int32) (a16 : Nat → Int32) (a18 : Nat → Int32) (a19 : Nat → Int32) (a20 : Nat → Int32) (a21 : Nat → Int32) (a22 : Nat → Int32) : va_W := [(h0, .inr (10, [.ref y0_0, .ref y0_1, .ref y0_2, .ref h1, .ref y0_4, .ref y0_5, .ref y0_6, .ref y0_7, .ref y0_8, .ref y0_9, .ref y0_10, .int x0_11, .int x0_12])), (h1, .inr (8, [.ref h2, .int x1_1, .int x1_2])), (h2, .inl (G.2.2.2.2.1, 13, .inr (.inr (.inr (.inr a2))))), (h3, .inr (1, [.int x3_0, .int x3_1, .int x3_2, .ref h4, .ref h5, .ref h6])), (h4, .inl (G.2.1, 32, .inl a4)), (h5, .inl (G.2.1, 256, .inl a5)), (h6, .inl (G.2.1, 256, .inl a6)), (h7, .inr (9, [.ref h8, .ref h9, .ref h10, .ref h11, .ref h12])), (h8, .inl (G.2.1, 16, .inl a8)), (h9, .inl (G.2.1, 16, .inl a9)), (h10, .inl (G.2.1, 16, .inl a10)), (h11, .inl (G.2.1, 16, .inl a11)), (h12, .inl (G.2.1, 8, .inl a12)), (h13, .inr (1, [.int x13_0, .int x13_1, .int x13_2, .ref h14, .ref h15, .ref h16])), (h14, .inl (G.2.1, 32, .inl a14)), (h15, .inl (G.2.1, 256, .inl a15)), (h16, .inl (G.2.1, 256, .inl a16)), (h17, .inr (9, [.ref h18, .ref h19, .ref h20, .ref h21, .ref h22])), (h18, .inl (G.2.1, 16, .inl a18)), (h19, .inl (G.2.1, 16, .inl a19)), (h20, .inl (G.2.1, 16, .inl a20)), (h21, .inl (G.2.1, 16, .inl a21)), (h22, .inl (G.2.1, 8, .inl a22))]
set_option maxHeartbeats 4000000 in
set_option maxRecDepth 100000 in
theorem c_X10_stick (l : Launch) (G : GG) (h0 h1 h2 h3 h4 h5 h6 h7 h8 h9 h10 h11 h12 h13 h14 h15 h16 h17 h18 h19 h20 h21 h22 y0_0 y0_1 y0_2 y0_4 y0_5 y0_6 y0_7 y0_8 y0_9 y0_10 g_cur g_nxt : Nat) (sz : Nat) (x0_11 : Int32) (x0_12 : Int32) (x1_1 : Int32) (x1_2 : Int32) (a2 : Nat → Option Nat) (x3_0 : Int32) (x3_1 : Int32) (x3_2 : Int32) (a4 : Nat → Int32) (a5 : Nat → Int32) (a6 : Nat → Int32) (a8 : Nat → Int32) (a9 : Nat → Int32) (a10 : Nat → Int32) (a11 : Nat → Int32) (a12 : Nat → Int32) (x13_0 : Int32) (x13_1 : Int32) (x13_2 : Int32) (a14 : Nat → Int32) (a15 : Nat → Int32) (a16 : Nat → Int32) (a18 : Nat → Int32) (a19 : Nat → Int32) (a20 : Nat → Int32) (a21 : Nat → Int32) (a22 : Nat → Int32) (F : Nat) (b1 : Int32) (b2 : Int32) (b3 : Int32) (hq_cur : (g_cur, h3, h7) ∈ gS G) (hq_nxt : (g_nxt, h13, h17) ∈ gS G) (hall : stAll G a2)  (r0 : Int32) (e_x1_1 : Int32) (e_x1_2 : Int32) (e_a2 : Nat → Option Nat) (e_x13_0 : Int32) (e_x13_1 : Int32) (e_x13_2 : Int32) (e_a14 : Nat → Int32) (e_a15 : Nat → Int32) (e_a16 : Nat → Int32) (e_a18 : Nat → Int32) (e_a19 : Nat → Int32) (e_a20 : Nat → Int32) (e_a21 : Nat → Int32) (e_a22 : Nat → Int32) (hf : p_X10_stick F g_cur g_nxt x1_1 x1_2 a2 x3_0 x3_1 x3_2 a4 a5 a6 a8 a9 a10 a11 a12 x13_0 x13_1 x13_2 a14 a15 a16 a18 a19 a20 a21 a22 b1 b2 b3 = some (r0, e_x1_1, e_x1_2, e_a2, e_x13_0, e_x13_1, e_x13_2, e_a14, e_a15, e_a16, e_a18, e_a19, e_a20, e_a21, e_a22)) : Met l yX10_stick (.code yX10_stick cX10_stick 7 (some .boolean) :: gtbl) ({ frames := 4, cells := 0, slots := 0, locals := 110 } : Room) (PcS G [.ref h0, .int b1, .int b2, .int b3] (wW_X10_stick G h0 h1 h2 h3 h4 h5 h6 h7 h8 h9 h10 h11 h12 h13 h14 h15 h16 h17 h18 h19 h20 h21 h22 y0_0 y0_1 y0_2 y0_4 y0_5 y0_6 y0_7 y0_8 y0_9 y0_10 x0_11 x0_12 x1_1 x1_2 a2 x3_0 x3_1 x3_2 a4 a5 a6 a8 a9 a10 a11 a12 x13_0 x13_1 x13_2 a14 a15 a16 a18 a19 a20 a21 a22) sz) (QiS G r0 (va_A (wW_X10_stick G h0 h1 h2 h3 h4 h5 h6 h7 h8 h9 h10 h11 h12 h13 h14 h15 h16 h17 h18 h19 h20 h21 h22 y0_0 y0_1 y0_2 y0_4 y0_5 y0_6 y0_7 y0_8 y0_9 y0_10 x0_11 x0_12 x1_1 x1_2 a2 x3_0 x3_1 x3_2 a4 a5 a6 a8 a9 a10 a11 a12 x13_0 x13_1 x13_2 a14 a15 a16 a18 a19 a20 a21 a22) sz) (wW_X10_stick G h0 h1 h2 h3 h4 h5 h6 h7 h8 h9 h10 h11 h12 h13 h14 h15 h16 h17 h18 h19 h20 h21 h22 y0_0 y0_1 y0_2 y0_4 y0_5 y0_6 y0_7 y0_8 y0_9 y0_10 x0_11 x0_12 e_x1_1 e_x1_2 e_a2 x3_0 x3_1 x3_2 a4 a5 a6 a8 a9 a10 a11 a12 e_x13_0 e_x13_1 e_x13_2 e_a14 e_a15 e_a16 e_a18 e_a19 e_a20 e_a21 e_a22)) 0 0 (va_A (wW_X10_stick G h0 h1 h2 h3 h4 h5 h6 h7 h8 h9 h10 h11 h12 h13 h14 h15 h16 h17 h18 h19 h20 h21 h22 y0_0 y0_1 y0_2 y0_4 y0_5 y0_6 y0_7 y0_8 y0_9 y0_10 x0_11 x0_12 x1_1 x1_2 a2 x3_0 x3_1 x3_2 a4 a5 a6 a8 a9 a10 a11 a12 x13_0 x13_1 x13_2 a14 a15 a16 a18 a19 a20 a21 a22) sz) := by
  refine met_start (by decide) (Nat.le_of_ble_eq_true rfl) ?_
  intro p e s m below meth c hC hr hlk hnm hK hP hD hA hS hX ls hl
  obtain ⟨hx, hb, hml, hown, ht0⟩ := hC
  have hown : s.vm.findClass RX10 = some m.cls := hown
  generalize va_A (wW_X10_stick G h0 h1 h2 h3 h4 h5 h6 h7 h8 h9 h10 h11 h12 h13 h14 h15 h16 h17 h18 h19 h20 h21 h22 y0_0 y0_1 y0_2 y0_4 y0_5 y0_6 y0_7 y0_8 y0_9 y0_10 x0_11 x0_12 x1_1 x1_2 a2 x3_0 x3_1 x3_2 a4 a5 a6 a8 a9 a10 a11 a12 x13_0 x13_1 x13_2 a14 a15 a16 a18 a19 a20 a21 a22) sz = A at hD hA hS hX ⊢
  have hl : lv_has ls 7 [(0, .ref h0), (1, .int b1), (2, .int b2), (3, .int b3)] := hl
  have hf : p_X10_stick F g_cur g_nxt x1_1 x1_2 a2 x3_0 x3_1 x3_2 a4 a5 a6 a8 a9 a10 a11 a12 x13_0 x13_1 x13_2 a14 a15 a16 a18 a19 a20 a21 a22 b1 b2 b3 = some (r0, e_x1_1, e_x1_2, e_a2, e_x13_0, e_x13_1, e_x13_2, e_a14, e_a15, e_a16, e_a18, e_a19, e_a20, e_a21, e_a22) := hf
  refine lv_aload_n hx hb dX10_stick_0 rfl (lv_at hl 0 rfl) ?_
  refine va_get (ci := 10) (v := .ref h1) (C := RX10) (T := TX10) (N := 13) hx hb ht0 iX10 hown hK hP 0 rfl rfl 3 (by decide) (ht0 _ wd_543) (fun _ h9 => h9) rfl dX10_stick_1 ?_
  obtain ⟨_, hc_r_4_0, hf⟩ := of_bnd hf
  refine cl_Vr (w2 := (wW_X10_stick G h0 h1 h2 h3 h4 h5 h6 h7 h8 h9 h10 h11 h12 h13 h14 h15 h16 h17 h18 h19 h20 h21 h22 y0_0 y0_1 y0_2 y0_4 y0_5 y0_6 y0_7 y0_8 y0_9 y0_10 x0_11 x0_12 x1_1 x1_2 a2 x3_0 x3_1 x3_2 a4 a5 a6 a8 a9 a10 a11 a12 x13_0 x13_1 x13_2 a14 a15 a16 a18 a19 a20 a21 a22)) (As := []) (rest := []) ⟨hx, hb, hml, hown, ht0⟩ (c_X8_now l G h1 h2 g_cur h3 h7 _ x1_1 x1_2 a2 F hq_cur hc_r_4_0) yk_X8_now wd_531 ⟨rfl, rfl, by decide, by decide⟩ ⟨Nat.le_refl _, Nat.le_refl _⟩ hX hK hP hD hS hA [1, 2] [0, 3, 4, 5, 6, 7, 8, 9, 10, 11, 12, 13, 14, 15, 16, 17, 18, 19, 20, 21, 22] [0, 21, 22, 1, 2, 3, 4, 5, 6, 7, 8, 9, 10, 11, 12, 13, 14, 15, 16, 17, 18, 19, 20] (va_recv hK hP (ci := 8) (q0 := 1) rfl rfl) rfl rfl (by decide) rfl rfl rfl rfl rfl hl.1 rfl (Nat.le_of_ble_eq_true rfl) dX10_stick_4 (fun H locs hP hD hS => ?_)
  refine lv_astore (lv' := [(4, .ref g_cur), (0, .ref h0), (1, .int b1), (2, .int b2), (3, .int b3)]) hx hb dX10_stick_7 hl (by decide) rfl (fun ls hl => ?_)
  refine lv_iload_n hx hb dX10_stick_9 rfl (lv_at hl 2 rfl) ?_
  obtain ⟨r_10_1, hc_r_10_1, hf⟩ := of_bnd hf
  refine cl_Si (w2 := (wW_X10_stick G h0 h1 h2 h3 h4 h5 h6 h7 h8 h9 h10 h11 h12 h13 h14 h15 h16 h17 h18 h19 h20 h21 h22 y0_0 y0_1 y0_2 y0_4 y0_5 y0_6 y0_7 y0_8 y0_9 y0_10 x0_11 x0_12 x1_1 x1_2 a2 x3_0 x3_1 x3_2 a4 a5 a6 a8 a9 a10 a11 a12 x13_0 x13_1 x13_2 a14 a15 a16 a18 a19 a20 a21 a22)) (As := [.int b1]) (rest := []) ⟨hx, hb, hml, hown, ht0⟩ (c_X10_isWord l G _ F b1 _ hc_r_10_1) yk_X10_isWord wd_791 ⟨rfl, rfl, by decide, by decide⟩ ⟨Nat.le_refl _, Nat.le_refl _⟩ hX hK hP hD hS hA [] [0, 1, 2, 3, 4, 5, 6, 7, 8, 9, 10, 11, 12, 13, 14, 15, 16, 17, 18, 19, 20, 21, 22] [0, 1, 2, 3, 4, 5, 6, 7, 8, 9, 10, 11, 12, 13, 14, 15, 16, 17, 18, 19, 20, 21, 22] rfl rfl (by decide) rfl rfl rfl rfl rfl hl.1 rfl (Nat.le_of_ble_eq_true rfl) dX10_stick_10 (fun H locs hP hD hS => ?_)
  refine lv_if_eq (tgt := 37) hx hb dX10_stick_13 (by decide) (fun c3 => ?_) (fun c3 => ?_)
  · have hf := of_pos hf c3
    refine lv_iconst (v := (0 : Int32)) hx hb dX10_stick_37 (by decide) ?_
    cases hf
    exact ret_z hx hb hr hlk hK hP hD hS (by decide) dX10_stick_38
  · have hf := of_neg hf c3
    refine lv_aload hx hb dX10_stick_16 (lv_at hl 0 rfl) ?_
    refine vk_getf hx hb (hX.2.2 _ hq_cur).2.1 hS hown (ht0 _ wd_342) (fun _ h => h) dX10_stick_18 ?_
    refine lv_iload_n hx hb dX10_stick_21 rfl (lv_at hl 3 rfl) ?_
    obtain ⟨r_22_3, hc_r_22_3, hf⟩ := of_bnd hf
    refine cl_Vi (w2 := (wW_X10_stick G h0 h1 h2 h3 h4 h5 h6 h7 h8 h9 h10 h11 h12 h13 h14 h15 h16 h17 h18 h19 h20 h21 h22 y0_0 y0_1 y0_2 y0_4 y0_5 y0_6 y0_7 y0_8 y0_9 y0_10 x0_11 x0_12 x1_1 x1_2 a2 x3_0 x3_1 x3_2 a4 a5 a6 a8 a9 a10 a11 a12 x13_0 x13_1 x13_2 a14 a15 a16 a18 a19 a20 a21 a22)) (As := [.int b2]) (rest := []) ⟨hx, hb, hml, hown, ht0⟩ (c_X1_isPlace l G h3 h4 h5 h6 _ x3_0 x3_1 x3_2 F b2 _ hc_r_22_3) yk_X1_isPlace wd_898 ⟨rfl, rfl, by decide, by decide⟩ ⟨Nat.le_refl _, Nat.le_refl _⟩ hX hK hP hD hS hA [3] [0, 1, 2, 4, 5, 6, 7, 8, 9, 10, 11, 12, 13, 14, 15, 16, 17, 18, 19, 20, 21, 22] [0, 1, 2, 22, 3, 4, 5, 6, 7, 8, 9, 10, 11, 12, 13, 14, 15, 16, 17, 18, 19, 20, 21] (va_recv hK hP (ci := 1) (q0 := 3) rfl rfl) rfl rfl (by decide) rfl rfl rfl rfl rfl hl.1 rfl (Nat.le_of_ble_eq_true rfl) dX10_stick_22 (fun H locs hP hD hS => ?_)
    refine lv_if_eq (tgt := 37) hx hb dX10_stick_25 (by decide) (fun c5 => ?_) (fun c5 => ?_)
    · have hf := of_pos hf c5
      refine lv_iconst (v := (0 : Int32)) hx hb dX10_stick_37 (by decide) ?_
      cases hf
      exact ret_z hx hb hr hlk hK hP hD hS (by decide) dX10_stick_38
    · have hf := of_neg hf c5
      refine lv_iload_n hx hb dX10_stick_28 rfl (lv_at hl 4 rfl) ?_
      refine lv_if_lt (tgt := 37) hx hb dX10_stick_29 (by decide) (fun c6 => ?_) (fun c6 => ?_)
      · have hf := of_pos hf c6
        refine lv_iconst (v := (0 : Int32)) hx hb dX10_stick_37 (by decide) ?_
        cases hf
        exact ret_z hx hb hr hlk hK hP hD hS (by decide) dX10_stick_38
      · have hf := of_neg hf c6
        refine lv_iload_n hx hb dX10_stick_32 rfl (lv_at hl 4 rfl) ?_
        refine lv_iconst (v := (1 : Int32)) hx hb dX10_stick_33 (by decide) ?_
        refine lv_icmp_le (tgt := 39) hx hb dX10_stick_34 (by decide) (fun c7 => ?_) (fun c7 => ?_)
        · have hf := of_pos hf c7
          refine lv_aload hx hb dX10_stick_39 (lv_at hl 0 rfl) ?_
          refine vk_getf hx hb (hX.2.2 _ hq_cur).2.2 hS hown (ht0 _ wd_344) (fun _ h => h) dX10_stick_41 ?_
          refine va_get (ci := 9) (v := .ref h10) (C := RX9) (T := TX9) (N := 5) hx hb ht0 iX9 hown hK hP 7 rfl rfl 2 (by decide) (ht0 _ wd_325) (fun _ h9 => h9) rfl dX10_stick_44 ?_
          refine lv_iload_n hx hb dX10_stick_47 rfl (lv_at hl 2 rfl) ?_
          obtain ⟨g8, hf⟩ := of_grd hf
          refine va_iald hx hb hK hP 10 0 rfl rfl g8 dX10_stick_48 ?_
          refine lv_istore (lv' := [(5, .int (a10 b1.toNatClampNeg)), (4, .ref g_cur), (0, .ref h0), (1, .int b1), (2, .int b2), (3, .int b3)]) hx hb dX10_stick_49 hl (by decide) rfl (fun ls hl => ?_)
          refine lv_iload hx hb dX10_stick_51 (lv_at hl 0 rfl) ?_
          refine lv_iload_n hx hb dX10_stick_53 rfl (lv_at hl 4 rfl) ?_
          refine lv_iushr (v := jushr (a10 b1.toNatClampNeg) b2) hx hb dX10_stick_54 rfl ?_
          refine lv_iconst (v := (1 : Int32)) hx hb dX10_stick_55 (by decide) ?_
          refine lv_iand hx hb dX10_stick_56 ?_
          refine lv_iconst (v := (1 : Int32)) hx hb dX10_stick_57 (by decide) ?_
          refine lv_icmp_eq (tgt := 70) hx hb dX10_stick_58 (by decide) (fun c9 => ?_) (fun c9 => ?_)
          · have hf := of_pos hf c9
            refine lv_iconst (v := (0 : Int32)) hx hb dX10_stick_70 (by decide) ?_
            cases hf
            exact ret_z hx hb hr hlk hK hP hD hS (by decide) dX10_stick_71
          · have hf := of_neg hf c9
            refine lv_iload hx hb dX10_stick_61 (lv_at hl 0 rfl) ?_
            obtain ⟨r_63_9, hc_r_63_9, hf⟩ := of_bnd hf
            refine cl_Si (w2 := (wW_X10_stick G h0 h1 h2 h3 h4 h5 h6 h7 h8 h9 h10 h11 h12 h13 h14 h15 h16 h17 h18 h19 h20 h21 h22 y0_0 y0_1 y0_2 y0_4 y0_5 y0_6 y0_7 y0_8 y0_9 y0_10 x0_11 x0_12 x1_1 x1_2 a2 x3_0 x3_1 x3_2 a4 a5 a6 a8 a9 a10 a11 a12 x13_0 x13_1 x13_2 a14 a15 a16 a18 a19 a20 a21 a22)) (As := [.int (a10 b1.toNatClampNeg)]) (rest := []) ⟨hx, hb, hml, hown, ht0⟩ (c_J6_bitCount_0f7a4 l G _ F (a10 b1.toNatClampNeg) _ hc_r_63_9) yk_J6_bitCount_0f7a4 wd_939 ⟨rfl, rfl, by decide, by decide⟩ ⟨Nat.le_refl _, Nat.le_refl _⟩ hX hK hP hD hS hA [] [0, 1, 2, 3, 4, 5, 6, 7, 8, 9, 10, 11, 12, 13, 14, 15, 16, 17, 18, 19, 20, 21, 22] [0, 1, 2, 3, 4, 5, 6, 7, 8, 9, 10, 11, 12, 13, 14, 15, 16, 17, 18, 19, 20, 21, 22] rfl rfl (by decide) rfl rfl rfl rfl rfl hl.1 rfl (Nat.le_of_ble_eq_true rfl) dX10_stick_63 (fun H locs hP hD hS => ?_)
            refine lv_iconst (v := (2 : Int32)) hx hb dX10_stick_66 (by decide) ?_
            refine lv_icmp_lt (tgt := 72) hx hb dX10_stick_67 (by decide) (fun c11 => ?_) (fun c11 => ?_)
            · have hf := of_pos hf c11
              refine lv_aload_n hx hb dX10_stick_72 rfl (lv_at hl 2 rfl) ?_
              refine va_get (ci := 10) (v := .ref h1) (C := RX10) (T := TX10) (N := 13) hx hb ht0 iX10 hown hK hP 0 rfl rfl 3 (by decide) (ht0 _ wd_543) (fun _ h9 => h9) rfl dX10_stick_73 ?_
              obtain ⟨⟨r_76_11_x0_1, r_76_11_x0_2, r_76_11_a1, r_76_11_x12_0, r_76_11_x12_1, r_76_11_x12_2, r_76_11_a13, r_76_11_a14, r_76_11_a15, r_76_11_a17, r_76_11_a18, r_76_11_a19, r_76_11_a20, r_76_11_a21⟩, hc_r_76_11, hf⟩ := of_bnd hf
              refine cl_Vr (w2 := (wW_X10_stick G h0 h1 h2 h3 h4 h5 h6 h7 h8 h9 h10 h11 h12 h13 h14 h15 h16 h17 h18 h19 h20 h21 h22 y0_0 y0_1 y0_2 y0_4 y0_5 y0_6 y0_7 y0_8 y0_9 y0_10 x0_11 x0_12 r_76_11_x0_1 r_76_11_x0_2 r_76_11_a1 x3_0 x3_1 x3_2 a4 a5 a6 a8 a9 a10 a11 a12 r_76_11_x12_0 r_76_11_x12_1 r_76_11_x12_2 r_76_11_a13 r_76_11_a14 r_76_11_a15 r_76_11_a17 r_76_11_a18 r_76_11_a19 r_76_11_a20 r_76_11_a21)) (As := []) (rest := []) ⟨hx, hb, hml, hown, ht0⟩ (c_X8_beginAct l G h1 h2 h3 h4 h5 h6 h7 h8 h9 h10 h11 h12 h13 h14 h15 h16 h17 h18 h19 h20 h21 h22 g_cur g_nxt _ x1_1 x1_2 a2 x3_0 x3_1 x3_2 a4 a5 a6 a8 a9 a10 a11 a12 x13_0 x13_1 x13_2 a14 a15 a16 a18 a19 a20 a21 a22 F hq_cur hq_nxt hall _ _ _ _ _ _ _ _ _ _ _ _ _ _ hc_r_76_11) yk_X8_beginAct wd_798 ⟨rfl, rfl, by decide, by decide⟩ ⟨Nat.le_refl _, Nat.le_refl _⟩ hX hK hP hD hS hA [1, 2, 3, 4, 5, 6, 7, 8, 9, 10, 11, 12, 13, 14, 15, 16, 17, 18, 19, 20, 21, 22] [0] [0, 1, 2, 3, 4, 5, 6, 7, 8, 9, 10, 11, 12, 13, 14, 15, 16, 17, 18, 19, 20, 21, 22] (va_recv hK hP (ci := 8) (q0 := 1) rfl rfl) rfl rfl (by decide) rfl rfl rfl rfl rfl hl.1 rfl (Nat.le_of_ble_eq_true rfl) dX10_stick_76 (fun H locs hP hD hS => ?_)
              refine lv_astore (lv' := [(6, .ref g_nxt), (5, .int (a10 b1.toNatClampNeg)), (4, .ref g_cur), (0, .ref h0), (1, .int b1), (2, .int b2), (3, .int b3)]) hx hb dX10_stick_79 hl (by decide) rfl (fun ls hl => ?_)
              refine lv_aload hx hb dX10_stick_81 (lv_at hl 0 rfl) ?_
              refine vk_getf hx hb (hX.2.2 _ hq_nxt).2.2 hS hown (ht0 _ wd_344) (fun _ h => h) dX10_stick_83 ?_
              refine lv_aload hx hb dX10_stick_86 (lv_at hl 0 rfl) ?_
              refine vk_getf hx hb (hX.2.2 _ hq_nxt).2.1 hS hown (ht0 _ wd_342) (fun _ h => h) dX10_stick_88 ?_
              refine lv_iload_n hx hb dX10_stick_91 rfl (lv_at hl 4 rfl) ?_
              refine lv_iload_n hx hb dX10_stick_92 rfl (lv_at hl 5 rfl) ?_
              refine lv_iload_n hx hb dX10_stick_93 rfl (lv_at hl 6 rfl) ?_
              obtain ⟨⟨r_94_12_a1, r_94_12_a2, r_94_12_a3⟩, hc_r_94_12, hf⟩ := of_bnd hf
              refine cl_Vv (w2 := (wW_X10_stick G h0 h1 h2 h3 h4 h5 h6 h7 h8 h9 h10 h11 h12 h13 h14 h15 h16 h17 h18 h19 h20 h21 h22 y0_0 y0_1 y0_2 y0_4 y0_5 y0_6 y0_7 y0_8 y0_9 y0_10 x0_11 x0_12 r_76_11_x0_1 r_76_11_x0_2 r_76_11_a1 x3_0 x3_1 x3_2 a4 a5 a6 a8 a9 a10 a11 a12 r_76_11_x12_0 r_76_11_x12_1 r_76_11_x12_2 r_76_11_a13 r_76_11_a14 r_76_11_a15 r_94_12_a1 r_76_11_a18 r_94_12_a2 r_94_12_a3 r_76_11_a21)) (As := [.ref h13, .int b1, .int b2, .int b3]) (rest := []) ⟨hx, hb, hml, hown, ht0⟩ (c_X9_stickPlace l G h17 h18 h20 h21 h13 h14 h19 h22 h15 h16 _ r_76_11_a17 r_76_11_a19 r_76_11_a20 r_76_11_x12_0 r_76_11_x12_1 r_76_11_x12_2 r_76_11_a13 F b1 b2 b3 _ _ _ hc_r_94_12) yk_X9_stickPlace wd_940 ⟨rfl, rfl, by decide, by decide⟩ ⟨Nat.le_refl _, Nat.le_refl _⟩ hX hK hP hD hS hA [17, 18, 20, 21, 13, 14] [0, 1, 2, 3, 4, 5, 6, 7, 8, 9, 10, 11, 12, 15, 16, 19, 22] [0, 1, 2, 3, 4, 5, 6, 7, 8, 9, 10, 11, 12, 21, 22, 13, 14, 17, 18, 15, 19, 20, 16] (va_recv hK hP (ci := 9) (q0 := 17) rfl rfl) rfl rfl (by decide) rfl rfl rfl rfl rfl hl.1 rfl (Nat.le_of_ble_eq_true rfl) dX10_stick_94 (fun H locs hP hD hS => ?_)
              refine lv_iconst (v := (1 : Int32)) hx hb dX10_stick_97 (by decide) ?_
              cases hf
              exact ret_z hx hb hr hlk hK hP hD hS (by decide) dX10_stick_98
            · have hf := of_neg hf c11
              refine lv_iconst (v := (0 : Int32)) hx hb dX10_stick_70 (by decide) ?_
              cases hf
              exact ret_z hx hb hr hlk hK hP hD hS (by decide) dX10_stick_71
        · have hf := of_neg hf c7
          refine lv_iconst (v := (0 : Int32)) hx hb dX10_stick_37 (by decide) ?_
          cases hf
          exact ret_z hx hb hr hlk hK hP hD hS (by decide) dX10_stick_38
theorem yk_X10_stick : ykV yX10_stick RX10 cX10_stick 7 (some .boolean) 3 := ⟨wd_936, wd_937, wd_127, wd_938, rfl, by decide +kernel, by decide +kernel, by decide +kernel⟩
theorem dX10_free_0 : decode cX10_free 0 = .ok (.iload_n 1, 1) := by decide +kernel
theorem dX10_free_1 : decode cX10_free 1 = .ok (.invokestatic 140, 3) := by decide +kernel
theorem dX10_free_4 : decode cX10_free 4 = .ok (.ifCond .eq 21, 3) := by decide +kernel
theorem dX10_free_7 : decode cX10_free 7 = .ok (.aload_n 0, 1) := by decide +kernel
theorem dX10_free_8 : decode cX10_free 8 = .ok (.getfield 29, 3) := by decide +kernel
theorem dX10_free_11 : decode cX10_free 11 = .ok (.invokevirtual 92, 3) := by decide +kernel
theorem dX10_free_14 : decode cX10_free 14 = .ok (.getfield 125, 3) := by decide +kernel
theorem dX10_free_17 : decode cX10_free 17 = .ok (.getfield 195, 3) := by decide +kernel
theorem dX10_free_20 : decode cX10_free 20 = .ok (.iload_n 1, 1) := by decide +kernel
theorem dX10_free_21 : decode cX10_free 21 = .ok (.iaload, 1) := by decide +kernel
theorem dX10_free_22 : decode cX10_free 22 = .ok (.ifCond .ne 5, 3) := by decide +kernel
theorem dX10_free_25 : decode cX10_free 25 = .ok (.iconst (-1), 1) := by decide +kernel
theorem dX10_free_26 : decode cX10_free 26 = .ok (.ireturn, 1) := by decide +kernel
theorem dX10_free_27 : decode cX10_free 27 = .ok (.aload_n 0, 1) := by decide +kernel
theorem dX10_free_28 : decode cX10_free 28 = .ok (.getfield 29, 3) := by decide +kernel
theorem dX10_free_31 : decode cX10_free 31 = .ok (.invokevirtual 147, 3) := by decide +kernel
theorem dX10_free_34 : decode cX10_free 34 = .ok (.astore_n 2, 1) := by decide +kernel
theorem dX10_free_35 : decode cX10_free 35 = .ok (.aload_n 2, 1) := by decide +kernel
theorem dX10_free_36 : decode cX10_free 36 = .ok (.getfield 125, 3) := by decide +kernel
theorem dX10_free_39 : decode cX10_free 39 = .ok (.getfield 195, 3) := by decide +kernel
theorem dX10_free_42 : decode cX10_free 42 = .ok (.iload_n 1, 1) := by decide +kernel
theorem dX10_free_43 : decode cX10_free 43 = .ok (.iaload, 1) := by decide +kernel
theorem dX10_free_44 : decode cX10_free 44 = .ok (.invokestatic 198, 3) := by decide +kernel
theorem dX10_free_47 : decode cX10_free 47 = .ok (.istore_n 3, 1) := by decide +kernel
theorem dX10_free_48 : decode cX10_free 48 = .ok (.aload_n 2, 1) := by decide +kernel
theorem dX10_free_49 : decode cX10_free 49 = .ok (.getfield 125, 3) := by decide +kernel
theorem dX10_free_52 : decode cX10_free 52 = .ok (.getfield 195, 3) := by decide +kernel
theorem dX10_free_55 : decode cX10_free 55 = .ok (.iload_n 1, 1) := by decide +kernel
theorem dX10_free_56 : decode cX10_free 56 = .ok (.iconst 0, 1) := by decide +kernel
theorem dX10_free_57 : decode cX10_free 57 = .ok (.iastore, 1) := by decide +kernel
theorem dX10_free_58 : decode cX10_free 58 = .ok (.iload_n 3, 1) := by decide +kernel
theorem dX10_free_59 : decode cX10_free 59 = .ok (.ireturn, 1) := by decide +kernel
def wW_X10_free (G : GG) (h0 h1 h2 h3 h4 h5 h6 h7 h8 h9 h10 h11 h12 h13 h14 h15 h16 h17 h18 h19 h20 h21 h22 y0_0 y0_1 y0_2 y0_4 y0_5 y0_6 y0_7 y0_8 y0_9 y0_10 : Nat) (x0_11 : Int32) (x0_12 : Int32) (x1_1 : Int32) (x1_2 : Int32) (a2 : Nat → Option Nat) (x3_0 : Int32) (x3_1 : Int32) (x3_2 : Int32) (a4 : Nat → Int32) (a5 : Nat → Int32) (a6 : Nat → Int32) (a8 : Nat → Int32) (a9 : Nat → Int32) (a10 : Nat → Int32) (a11 : Nat → Int32) (a12 : Nat → Int32) (x13_0 : Int32) (x13_1 : Int32) (x13_2 : Int32) (a14 : Nat → Int32) (a15 : Nat → Int32) (a16 : Nat → Int32) (a18 : Nat → Int32) (a19 : Nat → Int32) (a20 : Nat → Int32) (a21 : Nat → Int32) (a22 : Nat → Int32) : va_W := [(h0, .inr (10, [.ref y0_0, .ref y0_1, .ref y0_2, .ref h1, .ref y0_4, .ref y0_5, .ref y0_6, .ref y0_7, .ref y0_8, .ref y0_9, .ref y0_10, .int x0_11, .int x0_12])), (h1, .inr (8, [.ref h2, .int x1_1, .int x1_2])), (h2, .inl (G.2.2.2.2.1, 13, .inr (.inr (.inr (.inr a2))))), (h3, .inr (1, [.int x3_0, .int x3_1, .int x3_2, .ref h4, .ref h5, .ref h6])), (h4, .inl (G.2.1, 32, .inl a4)), (h5, .inl (G.2.1, 256, .inl a5)), (h6, .inl (G.2.1, 256, .inl a6)), (h7, .inr (9, [.ref h8, .ref h9, .ref h10, .ref h11, .ref h12])), (h8, .inl (G.2.1, 16, .inl a8)), (h9, .inl (G.2.1, 16, .inl a9)), (h10, .inl (G.2.1, 16, .inl a10)), (h11, .inl (G.2.1, 16, .inl a11)), (h12, .inl (G.2.1, 8, .inl a12)), (h13, .inr (1, [.int x13_0, .int x13_1, .int x13_2, .ref h14, .ref h15, .ref h16])), (h14, .inl (G.2.1, 32, .inl a14)), (h15, .inl (G.2.1, 256, .inl a15)), (h16, .inl (G.2.1, 256, .inl a16)), (h17, .inr (9, [.ref h18, .ref h19, .ref h20, .ref h21, .ref h22])), (h18, .inl (G.2.1, 16, .inl a18)), (h19, .inl (G.2.1, 16, .inl a19)), (h20, .inl (G.2.1, 16, .inl a20)), (h21, .inl (G.2.1, 16, .inl a21)), (h22, .inl (G.2.1, 8, .inl a22))]
set_option maxHeartbeats 4000000 in
set_option maxRecDepth 100000 in
theorem c_X10_free (l : Launch) (G : GG) (h0 h1 h2 h3 h4 h5 h6 h7 h8 h9 h10 h11 h12 h13 h14 h15 h16 h17 h18 h19 h20 h21 h22 y0_0 y0_1 y0_2 y0_4 y0_5 y0_6 y0_7 y0_8 y0_9 y0_10 g_cur g_nxt : Nat) (sz : Nat) (x0_11 : Int32) (x0_12 : Int32) (x1_1 : Int32) (x1_2 : Int32) (a2 : Nat → Option Nat) (x3_0 : Int32) (x3_1 : Int32) (x3_2 : Int32) (a4 : Nat → Int32) (a5 : Nat → Int32) (a6 : Nat → Int32) (a8 : Nat → Int32) (a9 : Nat → Int32) (a10 : Nat → Int32) (a11 : Nat → Int32) (a12 : Nat → Int32) (x13_0 : Int32) (x13_1 : Int32) (x13_2 : Int32) (a14 : Nat → Int32) (a15 : Nat → Int32) (a16 : Nat → Int32) (a18 : Nat → Int32) (a19 : Nat → Int32) (a20 : Nat → Int32) (a21 : Nat → Int32) (a22 : Nat → Int32) (F : Nat) (b1 : Int32) (hq_cur : (g_cur, h3, h7) ∈ gS G) (hq_nxt : (g_nxt, h13, h17) ∈ gS G) (hall : stAll G a2)  (r0 : Int32) (e_x1_1 : Int32) (e_x1_2 : Int32) (e_a2 : Nat → Option Nat) (e_x13_0 : Int32) (e_x13_1 : Int32) (e_x13_2 : Int32) (e_a14 : Nat → Int32) (e_a15 : Nat → Int32) (e_a16 : Nat → Int32) (e_a18 : Nat → Int32) (e_a19 : Nat → Int32) (e_a20 : Nat → Int32) (e_a21 : Nat → Int32) (e_a22 : Nat → Int32) (hf : p_X10_free F g_cur g_nxt x1_1 x1_2 a2 x3_0 x3_1 x3_2 a4 a5 a6 a8 a9 a10 a11 a12 x13_0 x13_1 x13_2 a14 a15 a16 a18 a19 a20 a21 a22 b1 = some (r0, e_x1_1, e_x1_2, e_a2, e_x13_0, e_x13_1, e_x13_2, e_a14, e_a15, e_a16, e_a18, e_a19, e_a20, e_a21, e_a22)) : Met l yX10_free (.code yX10_free cX10_free 4 (some .int) :: gtbl) ({ frames := 4, cells := 0, slots := 0, locals := 110 } : Room) (PcS G [.ref h0, .int b1] (wW_X10_free G h0 h1 h2 h3 h4 h5 h6 h7 h8 h9 h10 h11 h12 h13 h14 h15 h16 h17 h18 h19 h20 h21 h22 y0_0 y0_1 y0_2 y0_4 y0_5 y0_6 y0_7 y0_8 y0_9 y0_10 x0_11 x0_12 x1_1 x1_2 a2 x3_0 x3_1 x3_2 a4 a5 a6 a8 a9 a10 a11 a12 x13_0 x13_1 x13_2 a14 a15 a16 a18 a19 a20 a21 a22) sz) (QiS G r0 (va_A (wW_X10_free G h0 h1 h2 h3 h4 h5 h6 h7 h8 h9 h10 h11 h12 h13 h14 h15 h16 h17 h18 h19 h20 h21 h22 y0_0 y0_1 y0_2 y0_4 y0_5 y0_6 y0_7 y0_8 y0_9 y0_10 x0_11 x0_12 x1_1 x1_2 a2 x3_0 x3_1 x3_2 a4 a5 a6 a8 a9 a10 a11 a12 x13_0 x13_1 x13_2 a14 a15 a16 a18 a19 a20 a21 a22) sz) (wW_X10_free G h0 h1 h2 h3 h4 h5 h6 h7 h8 h9 h10 h11 h12 h13 h14 h15 h16 h17 h18 h19 h20 h21 h22 y0_0 y0_1 y0_2 y0_4 y0_5 y0_6 y0_7 y0_8 y0_9 y0_10 x0_11 x0_12 e_x1_1 e_x1_2 e_a2 x3_0 x3_1 x3_2 a4 a5 a6 a8 a9 a10 a11 a12 e_x13_0 e_x13_1 e_x13_2 e_a14 e_a15 e_a16 e_a18 e_a19 e_a20 e_a21 e_a22)) 0 0 (va_A (wW_X10_free G h0 h1 h2 h3 h4 h5 h6 h7 h8 h9 h10 h11 h12 h13 h14 h15 h16 h17 h18 h19 h20 h21 h22 y0_0 y0_1 y0_2 y0_4 y0_5 y0_6 y0_7 y0_8 y0_9 y0_10 x0_11 x0_12 x1_1 x1_2 a2 x3_0 x3_1 x3_2 a4 a5 a6 a8 a9 a10 a11 a12 x13_0 x13_1 x13_2 a14 a15 a16 a18 a19 a20 a21 a22) sz) := by
  refine met_start (by decide) (Nat.le_of_ble_eq_true rfl) ?_
  intro p e s m below meth c hC hr hlk hnm hK hP hD hA hS hX ls hl
  obtain ⟨hx, hb, hml, hown, ht0⟩ := hC
  have hown : s.vm.findClass RX10 = some m.cls := hown
  generalize va_A (wW_X10_free G h0 h1 h2 h3 h4 h5 h6 h7 h8 h9 h10 h11 h12 h13 h14 h15 h16 h17 h18 h19 h20 h21 h22 y0_0 y0_1 y0_2 y0_4 y0_5 y0_6 y0_7 y0_8 y0_9 y0_10 x0_11 x0_12 x1_1 x1_2 a2 x3_0 x3_1 x3_2 a4 a5 a6 a8 a9 a10 a11 a12 x13_0 x13_1 x13_2 a14 a15 a16 a18 a19 a20 a21 a22) sz = A at hD hA hS hX ⊢
  have hl : lv_has ls 4 [(0, .ref h0), (1, .int b1)] := hl
  have hf : p_X10_free F g_cur g_nxt x1_1 x1_2 a2 x3_0 x3_1 x3_2 a4 a5 a6 a8 a9 a10 a11 a12 x13_0 x13_1 x13_2 a14 a15 a16 a18 a19 a20 a21 a22 b1 = some (r0, e_x1_1, e_x1_2, e_a2, e_x13_0, e_x13_1, e_x13_2, e_a14, e_a15, e_a16, e_a18, e_a19, e_a20, e_a21, e_a22) := hf
  refine lv_iload_n hx hb dX10_free_0 rfl (lv_at hl 1 rfl) ?_
  obtain ⟨r_1_0, hc_r_1_0, hf⟩ := of_bnd hf
  refine cl_Si (w2 := (wW_X10_free G h0 h1 h2 h3 h4 h5 h6 h7 h8 h9 h10 h11 h12 h13 h14 h15 h16 h17 h18 h19 h20 h21 h22 y0_0 y0_1 y0_2 y0_4 y0_5 y0_6 y0_7 y0_8 y0_9 y0_10 x0_11 x0_12 x1_1 x1_2 a2 x3_0 x3_1 x3_2 a4 a5 a6 a8 a9 a10 a11 a12 x13_0 x13_1 x13_2 a14 a15 a16 a18 a19 a20 a21 a22)) (As := [.int b1]) (rest := []) ⟨hx, hb, hml, hown, ht0⟩ (c_X10_isWord l G _ F b1 _ hc_r_1_0) yk_X10_isWord wd_791 ⟨rfl, rfl, by decide, by decide⟩ ⟨Nat.le_refl _, Nat.le_refl _⟩ hX hK hP hD hS hA [] [0, 1, 2, 3, 4, 5, 6, 7, 8, 9, 10, 11, 12, 13, 14, 15, 16, 17, 18, 19, 20, 21, 22] [0, 1, 2, 3, 4, 5, 6, 7, 8, 9, 10, 11, 12, 13, 14, 15, 16, 17, 18, 19, 20, 21, 22] rfl rfl (by decide) rfl rfl rfl rfl rfl hl.1 rfl (Nat.le_of_ble_eq_true rfl) dX10_free_1 (fun H locs hP hD hS => ?_)
  refine lv_if_eq (tgt := 25) hx hb dX10_free_4 (by decide) (fun c2 => ?_) (fun c2 => ?_)
  · have hf := of_pos hf c2
    refine lv_iconst (v := (-1 : Int32)) hx hb dX10_free_25 (by decide) ?_
    cases hf
    exact ret_i hx hb hr hlk hK hP hD hS dX10_free_26
  · have hf := of_neg hf c2
    refine lv_aload_n hx hb dX10_free_7 rfl (lv_at hl 0 rfl) ?_
    refine va_get (ci := 10) (v := .ref h1) (C := RX10) (T := TX10) (N := 13) hx hb ht0 iX10 hown hK hP 0 rfl rfl 3 (by decide) (ht0 _ wd_543) (fun _ h9 => h9) rfl dX10_free_8 ?_
    obtain ⟨_, hc_r_11_2, hf⟩ := of_bnd hf
    refine cl_Vr (w2 := (wW_X10_free G h0 h1 h2 h3 h4 h5 h6 h7 h8 h9 h10 h11 h12 h13 h14 h15 h16 h17 h18 h19 h20 h21 h22 y0_0 y0_1 y0_2 y0_4 y0_5 y0_6 y0_7 y0_8 y0_9 y0_10 x0_11 x0_12 x1_1 x1_2 a2 x3_0 x3_1 x3_2 a4 a5 a6 a8 a9 a10 a11 a12 x13_0 x13_1 x13_2 a14 a15 a16 a18 a19 a20 a21 a22)) (As := []) (rest := []) ⟨hx, hb, hml, hown, ht0⟩ (c_X8_now l G h1 h2 g_cur h3 h7 _ x1_1 x1_2 a2 F hq_cur hc_r_11_2) yk_X8_now wd_531 ⟨rfl, rfl, by decide, by decide⟩ ⟨Nat.le_refl _, Nat.le_refl _⟩ hX hK hP hD hS hA [1, 2] [0, 3, 4, 5, 6, 7, 8, 9, 10, 11, 12, 13, 14, 15, 16, 17, 18, 19, 20, 21, 22] [0, 21, 22, 1, 2, 3, 4, 5, 6, 7, 8, 9, 10, 11, 12, 13, 14, 15, 16, 17, 18, 19, 20] (va_recv hK hP (ci := 8) (q0 := 1) rfl rfl) rfl rfl (by decide) rfl rfl rfl rfl rfl hl.1 rfl (Nat.le_of_ble_eq_true rfl) dX10_free_11 (fun H locs hP hD hS => ?_)
    refine vk_getf hx hb (hX.2.2 _ hq_cur).2.2 hS hown (ht0 _ wd_344) (fun _ h => h) dX10_free_14 ?_
    refine va_get (ci := 9) (v := .ref h10) (C := RX9) (T := TX9) (N := 5) hx hb ht0 iX9 hown hK hP 7 rfl rfl 2 (by decide) (ht0 _ wd_325) (fun _ h9 => h9) rfl dX10_free_17 ?_
    refine lv_iload_n hx hb dX10_free_20 rfl (lv_at hl 1 rfl) ?_
    obtain ⟨g4, hf⟩ := of_grd hf
    refine va_iald hx hb hK hP 10 0 rfl rfl g4 dX10_free_21 ?_
    refine lv_if_ne (tgt := 27) hx hb dX10_free_22 (by decide) (fun c5 => ?_) (fun c5 => ?_)
    · have hf := of_neg hf c5
      refine lv_aload_n hx hb dX10_free_27 rfl (lv_at hl 0 rfl) ?_
      refine va_get (ci := 10) (v := .ref h1) (C := RX10) (T := TX10) (N := 13) hx hb ht0 iX10 hown hK hP 0 rfl rfl 3 (by decide) (ht0 _ wd_543) (fun _ h9 => h9) rfl dX10_free_28 ?_
      obtain ⟨⟨r_31_5_x0_1, r_31_5_x0_2, r_31_5_a1, r_31_5_x12_0, r_31_5_x12_1, r_31_5_x12_2, r_31_5_a13, r_31_5_a14, r_31_5_a15, r_31_5_a17, r_31_5_a18, r_31_5_a19, r_31_5_a20, r_31_5_a21⟩, hc_r_31_5, hf⟩ := of_bnd hf
      refine cl_Vr (w2 := (wW_X10_free G h0 h1 h2 h3 h4 h5 h6 h7 h8 h9 h10 h11 h12 h13 h14 h15 h16 h17 h18 h19 h20 h21 h22 y0_0 y0_1 y0_2 y0_4 y0_5 y0_6 y0_7 y0_8 y0_9 y0_10 x0_11 x0_12 r_31_5_x0_1 r_31_5_x0_2 r_31_5_a1 x3_0 x3_1 x3_2 a4 a5 a6 a8 a9 a10 a11 a12 r_31_5_x12_0 r_31_5_x12_1 r_31_5_x12_2 r_31_5_a13 r_31_5_a14 r_31_5_a15 r_31_5_a17 r_31_5_a18 r_31_5_a19 r_31_5_a20 r_31_5_a21)) (As := []) (rest := []) ⟨hx, hb, hml, hown, ht0⟩ (c_X8_beginAct l G h1 h2 h3 h4 h5 h6 h7 h8 h9 h10 h11 h12 h13 h14 h15 h16 h17 h18 h19 h20 h21 h22 g_cur g_nxt _ x1_1 x1_2 a2 x3_0 x3_1 x3_2 a4 a5 a6 a8 a9 a10 a11 a12 x13_0 x13_1 x13_2 a14 a15 a16 a18 a19 a20 a21 a22 F hq_cur hq_nxt hall _ _ _ _ _ _ _ _ _ _ _ _ _ _ hc_r_31_5) yk_X8_beginAct wd_798 ⟨rfl, rfl, by decide, by decide⟩ ⟨Nat.le_refl _, Nat.le_refl _⟩ hX hK hP hD hS hA [1, 2, 3, 4, 5, 6, 7, 8, 9, 10, 11, 12, 13, 14, 15, 16, 17, 18, 19, 20, 21, 22] [0] [0, 1, 2, 3, 4, 5, 6, 7, 8, 9, 10, 11, 12, 13, 14, 15, 16, 17, 18, 19, 20, 21, 22] (va_recv hK hP (ci := 8) (q0 := 1) rfl rfl) rfl rfl (by decide) rfl rfl rfl rfl rfl hl.1 rfl (Nat.le_of_ble_eq_true rfl) dX10_free_31 (fun H locs hP hD hS => ?_)
      refine lv_astore_n (lv' := [(2, .ref g_nxt), (0, .ref h0), (1, .int b1)]) hx hb dX10_free_34 rfl hl (by decide) rfl (fun ls hl => ?_)
      refine lv_aload_n hx hb dX10_free_35 rfl (lv_at hl 0 rfl) ?_
      refine vk_getf hx hb (hX.2.2 _ hq_nxt).2.2 hS hown (ht0 _ wd_344) (fun _ h => h) dX10_free_36 ?_
      refine va_get (ci := 9) (v := .ref h20) (C := RX9) (T := TX9) (N := 5) hx hb ht0 iX9 hown hK hP 17 rfl rfl 2 (by decide) (ht0 _ wd_325) (fun _ h9 => h9) rfl dX10_free_39 ?_
      refine lv_iload_n hx hb dX10_free_42 rfl (lv_at hl 2 rfl) ?_
      obtain ⟨g7, hf⟩ := of_grd hf
      refine va_iald hx hb hK hP 20 0 rfl rfl g7 dX10_free_43 ?_
      obtain ⟨r_44_7, hc_r_44_7, hf⟩ := of_bnd hf
      refine cl_Si (w2 := (wW_X10_free G h0 h1 h2 h3 h4 h5 h6 h7 h8 h9 h10 h11 h12 h13 h14 h15 h16 h17 h18 h19 h20 h21 h22 y0_0 y0_1 y0_2 y0_4 y0_5 y0_6 y0_7 y0_8 y0_9 y0_10 x0_11 x0_12 r_31_5_x0_1 r_31_5_x0_2 r_31_5_a1 x3_0 x3_1 x3_2 a4 a5 a6 a8 a9 a10 a11 a12 r_31_5_x12_0 r_31_5_x12_1 r_31_5_x12_2 r_31_5_a13 r_31_5_a14 r_31_5_a15 r_31_5_a17 r_31_5_a18 r_31_5_a19 r_31_5_a20 r_31_5_a21)) (As := [.int (r_31_5_a19 b1.toNatClampNeg)]) (rest := []) ⟨hx, hb, hml, hown, ht0⟩ (c_J6_bitCount_0f7a4 l G _ F (r_31_5_a19 b1.toNatClampNeg) _ hc_r_44_7) yk_J6_bitCount_0f7a4 wd_939 ⟨rfl, rfl, by decide, by decide⟩ ⟨Nat.le_refl _, Nat.le_refl _⟩ hX hK hP hD hS hA [] [0, 1, 2, 3, 4, 5, 6, 7, 8, 9, 10, 11, 12, 13, 14, 15, 16, 17, 18, 19, 20, 21, 22] [0, 1, 2, 3, 4, 5, 6, 7, 8, 9, 10, 11, 12, 13, 14, 15, 16, 17, 18, 19, 20, 21, 22] rfl rfl (by decide) rfl rfl rfl rfl rfl hl.1 rfl (Nat.le_of_ble_eq_true rfl) dX10_free_44 (fun H locs hP hD hS => ?_)
      refine lv_istore_n (lv' := [(3, .int r_44_7), (2, .ref g_nxt), (0, .ref h0), (1, .int b1)]) hx hb dX10_free_47 rfl hl (by decide) rfl (fun ls hl => ?_)
      refine lv_aload_n hx hb dX10_free_48 rfl (lv_at hl 1 rfl) ?_
      refine vk_getf hx hb (hX.2.2 _ hq_nxt).2.2 hS hown (ht0 _ wd_344) (fun _ h => h) dX10_free_49 ?_
      refine va_get (ci := 9) (v := .ref h20) (C := RX9) (T := TX9) (N := 5) hx hb ht0 iX9 hown hK hP 17 rfl rfl 2 (by decide) (ht0 _ wd_325) (fun _ h9 => h9) rfl dX10_free_52 ?_
      refine lv_iload_n hx hb dX10_free_55 rfl (lv_at hl 3 rfl) ?_
      refine lv_iconst (v := (0 : Int32)) hx hb dX10_free_56 (by decide) ?_
      obtain ⟨g9, hf⟩ := of_grd hf
      refine va_iast hx hb hK hP hD hS 20 0 rfl rfl g9 dX10_free_57 (fun H locs hP hD hS => ?_)
      have hP : va_P G.1 vwCl (wW_X10_free G h0 h1 h2 h3 h4 h5 h6 h7 h8 h9 h10 h11 h12 h13 h14 h15 h16 h17 h18 h19 h20 h21 h22 y0_0 y0_1 y0_2 y0_4 y0_5 y0_6 y0_7 y0_8 y0_9 y0_10 x0_11 x0_12 r_31_5_x0_1 r_31_5_x0_2 r_31_5_a1 x3_0 x3_1 x3_2 a4 a5 a6 a8 a9 a10 a11 a12 r_31_5_x12_0 r_31_5_x12_1 r_31_5_x12_2 r_31_5_a13 r_31_5_a14 r_31_5_a15 r_31_5_a17 r_31_5_a18 (upd r_31_5_a19 b1.toNatClampNeg (0 : Int32)) r_31_5_a20 r_31_5_a21) H := hP
      have hD : va_D A (wW_X10_free G h0 h1 h2 h3 h4 h5 h6 h7 h8 h9 h10 h11 h12 h13 h14 h15 h16 h17 h18 h19 h20 h21 h22 y0_0 y0_1 y0_2 y0_4 y0_5 y0_6 y0_7 y0_8 y0_9 y0_10 x0_11 x0_12 r_31_5_x0_1 r_31_5_x0_2 r_31_5_a1 x3_0 x3_1 x3_2 a4 a5 a6 a8 a9 a10 a11 a12 r_31_5_x12_0 r_31_5_x12_1 r_31_5_x12_2 r_31_5_a13 r_31_5_a14 r_31_5_a15 r_31_5_a17 r_31_5_a18 (upd r_31_5_a19 b1.toNatClampNeg (0 : Int32)) r_31_5_a20 r_31_5_a21) := hD
      refine lv_iload_n hx hb dX10_free_58 rfl (lv_at hl 0 rfl) ?_
      cases hf
      exact ret_i hx hb hr hlk hK hP hD hS dX10_free_59
    · have hf := of_pos hf c5
      refine lv_iconst (v := (-1 : Int32)) hx hb dX10_free_25 (by decide) ?_
      cases hf
      exact ret_i hx hb hr hlk hK hP hD hS dX10_free_26
theorem yk_X10_free : ykV yX10_free RX10 cX10_free 4 (some .int) 1 := ⟨wd_945, wd_946, wd_127, wd_947, rfl, by decide +kernel, by decide +kernel, by decide +kernel⟩
theorem dX10_column_0 : decode cX10_column 0 = .ok (.aload_n 0, 1) := by decide +kernel
theorem dX10_column_1 : decode cX10_column 1 = .ok (.getfield 29, 3) := by decide +kernel
theorem dX10_column_4 : decode cX10_column 4 = .ok (.invokevirtual 92, 3) := by decide +kernel
theorem dX10_column_7 : decode cX10_column 7 = .ok (.getfield 96, 3) := by decide +kernel
theorem dX10_column_10 : decode cX10_column 10 = .ok (.astore_n 3, 1) := by decide +kernel
theorem dX10_column_11 : decode cX10_column 11 = .ok (.aload_n 3, 1) := by decide +kernel
theorem dX10_column_12 : decode cX10_column 12 = .ok (.iload_n 1, 1) := by decide +kernel
theorem dX10_column_13 : decode cX10_column 13 = .ok (.invokevirtual 208, 3) := by decide +kernel
theorem dX10_column_16 : decode cX10_column 16 = .ok (.ifCond .eq 20, 3) := by decide +kernel
theorem dX10_column_19 : decode cX10_column 19 = .ok (.aload_n 3, 1) := by decide +kernel
theorem dX10_column_20 : decode cX10_column 20 = .ok (.iload_n 2, 1) := by decide +kernel
theorem dX10_column_21 : decode cX10_column 21 = .ok (.invokevirtual 211, 3) := by decide +kernel
theorem dX10_column_24 : decode cX10_column 24 = .ok (.ifCond .eq 12, 3) := by decide +kernel
theorem dX10_column_27 : decode cX10_column 27 = .ok (.aload_n 3, 1) := by decide +kernel
theorem dX10_column_28 : decode cX10_column 28 = .ok (.iload_n 2, 1) := by decide +kernel
theorem dX10_column_29 : decode cX10_column 29 = .ok (.invokevirtual 214, 3) := by decide +kernel
theorem dX10_column_32 : decode cX10_column 32 = .ok (.iconst (-1), 1) := by decide +kernel
theorem dX10_column_33 : decode cX10_column 33 = .ok (.if_icmp .eq 5, 3) := by decide +kernel
theorem dX10_column_36 : decode cX10_column 36 = .ok (.iconst 0, 1) := by decide +kernel
theorem dX10_column_37 : decode cX10_column 37 = .ok (.ireturn, 1) := by decide +kernel
theorem dX10_column_38 : decode cX10_column 38 = .ok (.aload_n 0, 1) := by decide +kernel
theorem dX10_column_39 : decode cX10_column 39 = .ok (.getfield 29, 3) := by decide +kernel
theorem dX10_column_42 : decode cX10_column 42 = .ok (.invokevirtual 147, 3) := by decide +kernel
theorem dX10_column_45 : decode cX10_column 45 = .ok (.astore 4, 2) := by decide +kernel
theorem dX10_column_47 : decode cX10_column 47 = .ok (.aload 4, 2) := by decide +kernel
theorem dX10_column_49 : decode cX10_column 49 = .ok (.getfield 96, 3) := by decide +kernel
theorem dX10_column_52 : decode cX10_column 52 = .ok (.iload_n 1, 1) := by decide +kernel
theorem dX10_column_53 : decode cX10_column 53 = .ok (.iload_n 2, 1) := by decide +kernel
theorem dX10_column_54 : decode cX10_column 54 = .ok (.invokevirtual 217, 3) := by decide +kernel
theorem dX10_column_57 : decode cX10_column 57 = .ok (.aload 4, 2) := by decide +kernel
theorem dX10_column_59 : decode cX10_column 59 = .ok (.getfield 125, 3) := by decide +kernel
theorem dX10_column_62 : decode cX10_column 62 = .ok (.aload 4, 2) := by decide +kernel
theorem dX10_column_64 : decode cX10_column 64 = .ok (.getfield 96, 3) := by decide +kernel
theorem dX10_column_67 : decode cX10_column 67 = .ok (.invokevirtual 221, 3) := by decide +kernel
theorem dX10_column_70 : decode cX10_column 70 = .ok (.iconst 1, 1) := by decide +kernel
theorem dX10_column_71 : decode cX10_column 71 = .ok (.ireturn, 1) := by decide +kernel
def wW_X10_column (G : GG) (h0 h1 h2 h3 h4 h5 h6 h7 h8 h9 h10 h11 h12 h13 h14 h15 h16 h17 h18 h19 h20 h21 h22 y0_0 y0_1 y0_2 y0_4 y0_5 y0_6 y0_7 y0_8 y0_9 y0_10 : Nat) (x0_11 : Int32) (x0_12 : Int32) (x1_1 : Int32) (x1_2 : Int32) (a2 : Nat → Option Nat) (x3_0 : Int32) (x3_1 : Int32) (x3_2 : Int32) (a4 : Nat → Int32) (a5 : Nat → Int32) (a6 : Nat → Int32) (a8 : Nat → Int32) (a9 : Nat → Int32) (a10 : Nat → Int32) (a11 : Nat → Int32) (a12 : Nat → Int32) (x13_0 : Int32) (x13_1 : Int32) (x13_2 : Int32) (a14 : Nat → Int32) (a15 : Nat → Int32) (a16 : Nat → Int32) (a18 : Nat → Int32) (a19 : Nat → Int32) (a20 : Nat → Int32) (a21 : Nat → Int32) (a22 : Nat → Int32) : va_W := [(h0, .inr (10, [.ref y0_0, .ref y0_1, .ref y0_2, .ref h1, .ref y0_4, .ref y0_5, .ref y0_6, .ref y0_7, .ref y0_8, .ref y0_9, .ref y0_10, .int x0_11, .int x0_12])), (h1, .inr (8, [.ref h2, .int x1_1, .int x1_2])), (h2, .inl (G.2.2.2.2.1, 13, .inr (.inr (.inr (.inr a2))))), (h3, .inr (1, [.int x3_0, .int x3_1, .int x3_2, .ref h4, .ref h5, .ref h6])), (h4, .inl (G.2.1, 32, .inl a4)), (h5, .inl (G.2.1, 256, .inl a5)), (h6, .inl (G.2.1, 256, .inl a6)), (h7, .inr (9, [.ref h8, .ref h9, .ref h10, .ref h11, .ref h12])), (h8, .inl (G.2.1, 16, .inl a8)), (h9, .inl (G.2.1, 16, .inl a9)), (h10, .inl (G.2.1, 16, .inl a10)), (h11, .inl (G.2.1, 16, .inl a11)), (h12, .inl (G.2.1, 8, .inl a12)), (h13, .inr (1, [.int x13_0, .int x13_1, .int x13_2, .ref h14, .ref h15, .ref h16])), (h14, .inl (G.2.1, 32, .inl a14)), (h15, .inl (G.2.1, 256, .inl a15)), (h16, .inl (G.2.1, 256, .inl a16)), (h17, .inr (9, [.ref h18, .ref h19, .ref h20, .ref h21, .ref h22])), (h18, .inl (G.2.1, 16, .inl a18)), (h19, .inl (G.2.1, 16, .inl a19)), (h20, .inl (G.2.1, 16, .inl a20)), (h21, .inl (G.2.1, 16, .inl a21)), (h22, .inl (G.2.1, 8, .inl a22))]
set_option maxHeartbeats 4000000 in
set_option maxRecDepth 100000 in
theorem c_X10_column (l : Launch) (G : GG) (h0 h1 h2 h3 h4 h5 h6 h7 h8 h9 h10 h11 h12 h13 h14 h15 h16 h17 h18 h19 h20 h21 h22 y0_0 y0_1 y0_2 y0_4 y0_5 y0_6 y0_7 y0_8 y0_9 y0_10 g_cur g_nxt : Nat) (sz : Nat) (x0_11 : Int32) (x0_12 : Int32) (x1_1 : Int32) (x1_2 : Int32) (a2 : Nat → Option Nat) (x3_0 : Int32) (x3_1 : Int32) (x3_2 : Int32) (a4 : Nat → Int32) (a5 : Nat → Int32) (a6 : Nat → Int32) (a8 : Nat → Int32) (a9 : Nat → Int32) (a10 : Nat → Int32) (a11 : Nat → Int32) (a12 : Nat → Int32) (x13_0 : Int32) (x13_1 : Int32) (x13_2 : Int32) (a14 : Nat → Int32) (a15 : Nat → Int32) (a16 : Nat → Int32) (a18 : Nat → Int32) (a19 : Nat → Int32) (a20 : Nat → Int32) (a21 : Nat → Int32) (a22 : Nat → Int32) (F : Nat) (b1 : Int32) (b2 : Int32) (hq_cur : (g_cur, h3, h7) ∈ gS G) (hq_nxt : (g_nxt, h13, h17) ∈ gS G) (hall : stAll G a2)  (r0 : Int32) (e_x1_1 : Int32) (e_x1_2 : Int32) (e_a2 : Nat → Option Nat) (e_x13_0 : Int32) (e_x13_1 : Int32) (e_x13_2 : Int32) (e_a14 : Nat → Int32) (e_a15 : Nat → Int32) (e_a16 : Nat → Int32) (e_a18 : Nat → Int32) (e_a19 : Nat → Int32) (e_a20 : Nat → Int32) (e_a21 : Nat → Int32) (e_a22 : Nat → Int32) (hf : p_X10_column F g_cur g_nxt x1_1 x1_2 a2 x3_0 x3_1 x3_2 a4 a5 a6 a8 a9 a10 a11 a12 x13_0 x13_1 x13_2 a14 a15 a16 a18 a19 a20 a21 a22 b1 b2 = some (r0, e_x1_1, e_x1_2, e_a2, e_x13_0, e_x13_1, e_x13_2, e_a14, e_a15, e_a16, e_a18, e_a19, e_a20, e_a21, e_a22)) : Met l yX10_column (.code yX10_column cX10_column 5 (some .boolean) :: gtbl) ({ frames := 5, cells := 0, slots := 0, locals := 113 } : Room) (PcS G [.ref h0, .int b1, .int b2] (wW_X10_column G h0 h1 h2 h3 h4 h5 h6 h7 h8 h9 h10 h11 h12 h13 h14 h15 h16 h17 h18 h19 h20 h21 h22 y0_0 y0_1 y0_2 y0_4 y0_5 y0_6 y0_7 y0_8 y0_9 y0_10 x0_11 x0_12 x1_1 x1_2 a2 x3_0 x3_1 x3_2 a4 a5 a6 a8 a9 a10 a11 a12 x13_0 x13_1 x13_2 a14 a15 a16 a18 a19 a20 a21 a22) sz) (QiS G r0 (va_A (wW_X10_column G h0 h1 h2 h3 h4 h5 h6 h7 h8 h9 h10 h11 h12 h13 h14 h15 h16 h17 h18 h19 h20 h21 h22 y0_0 y0_1 y0_2 y0_4 y0_5 y0_6 y0_7 y0_8 y0_9 y0_10 x0_11 x0_12 x1_1 x1_2 a2 x3_0 x3_1 x3_2 a4 a5 a6 a8 a9 a10 a11 a12 x13_0 x13_1 x13_2 a14 a15 a16 a18 a19 a20 a21 a22) sz) (wW_X10_column G h0 h1 h2 h3 h4 h5 h6 h7 h8 h9 h10 h11 h12 h13 h14 h15 h16 h17 h18 h19 h20 h21 h22 y0_0 y0_1 y0_2 y0_4 y0_5 y0_6 y0_7 y0_8 y0_9 y0_10 x0_11 x0_12 e_x1_1 e_x1_2 e_a2 x3_0 x3_1 x3_2 a4 a5 a6 a8 a9 a10 a11 a12 e_x13_0 e_x13_1 e_x13_2 e_a14 e_a15 e_a16 e_a18 e_a19 e_a20 e_a21 e_a22)) 0 0 (va_A (wW_X10_column G h0 h1 h2 h3 h4 h5 h6 h7 h8 h9 h10 h11 h12 h13 h14 h15 h16 h17 h18 h19 h20 h21 h22 y0_0 y0_1 y0_2 y0_4 y0_5 y0_6 y0_7 y0_8 y0_9 y0_10 x0_11 x0_12 x1_1 x1_2 a2 x3_0 x3_1 x3_2 a4 a5 a6 a8 a9 a10 a11 a12 x13_0 x13_1 x13_2 a14 a15 a16 a18 a19 a20 a21 a22) sz) := by
  refine met_start (by decide) (Nat.le_of_ble_eq_true rfl) ?_
  intro p e s m below meth c hC hr hlk hnm hK hP hD hA hS hX ls hl
  obtain ⟨hx, hb, hml, hown, ht0⟩ := hC
  have hown : s.vm.findClass RX10 = some m.cls := hown
  generalize va_A (wW_X10_column G h0 h1 h2 h3 h4 h5 h6 h7 h8 h9 h10 h11 h12 h13 h14 h15 h16 h17 h18 h19 h20 h21 h22 y0_0 y0_1 y0_2 y0_4 y0_5 y0_6 y0_7 y0_8 y0_9 y0_10 x0_11 x0_12 x1_1 x1_2 a2 x3_0 x3_1 x3_2 a4 a5 a6 a8 a9 a10 a11 a12 x13_0 x13_1 x13_2 a14 a15 a16 a18 a19 a20 a21 a22) sz = A at hD hA hS hX ⊢
  have hl : lv_has ls 5 [(0, .ref h0), (1, .int b1), (2, .int b2)] := hl
  have hf : p_X10_column F g_cur g_nxt x1_1 x1_2 a2 x3_0 x3_1 x3_2 a4 a5 a6 a8 a9 a10 a11 a12 x13_0 x13_1 x13_2 a14 a15 a16 a18 a19 a20 a21 a22 b1 b2 = some (r0, e_x1_1, e_x1_2, e_a2, e_x13_0, e_x13_1, e_x13_2, e_a14, e_a15, e_a16, e_a18, e_a19, e_a20, e_a21, e_a22) := hf
  refine lv_aload_n hx hb dX10_column_0 rfl (lv_at hl 0 rfl) ?_
  refine va_get (ci := 10) (v := .ref h1) (C := RX10) (T := TX10) (N := 13) hx hb ht0 iX10 hown hK hP 0 rfl rfl 3 (by decide) (ht0 _ wd_543) (fun _ h9 => h9) rfl dX10_column_1 ?_
  obtain ⟨_, hc_r_4_0, hf⟩ := of_bnd hf
  refine cl_Vr (w2 := (wW_X10_column G h0 h1 h2 h3 h4 h5 h6 h7 h8 h9 h10 h11 h12 h13 h14 h15 h16 h17 h18 h19 h20 h21 h22 y0_0 y0_1 y0_2 y0_4 y0_5 y0_6 y0_7 y0_8 y0_9 y0_10 x0_11 x0_12 x1_1 x1_2 a2 x3_0 x3_1 x3_2 a4 a5 a6 a8 a9 a10 a11 a12 x13_0 x13_1 x13_2 a14 a15 a16 a18 a19 a20 a21 a22)) (As := []) (rest := []) ⟨hx, hb, hml, hown, ht0⟩ (c_X8_now l G h1 h2 g_cur h3 h7 _ x1_1 x1_2 a2 F hq_cur hc_r_4_0) yk_X8_now wd_531 ⟨rfl, rfl, by decide, by decide⟩ ⟨Nat.le_refl _, Nat.le_refl _⟩ hX hK hP hD hS hA [1, 2] [0, 3, 4, 5, 6, 7, 8, 9, 10, 11, 12, 13, 14, 15, 16, 17, 18, 19, 20, 21, 22] [0, 21, 22, 1, 2, 3, 4, 5, 6, 7, 8, 9, 10, 11, 12, 13, 14, 15, 16, 17, 18, 19, 20] (va_recv hK hP (ci := 8) (q0 := 1) rfl rfl) rfl rfl (by decide) rfl rfl rfl rfl rfl hl.1 rfl (Nat.le_of_ble_eq_true rfl) dX10_column_4 (fun H locs hP hD hS => ?_)
  refine vk_getf hx hb (hX.2.2 _ hq_cur).2.1 hS hown (ht0 _ wd_342) (fun _ h => h) dX10_column_7 ?_
  refine lv_astore_n (lv' := [(3, .ref h3), (0, .ref h0), (1, .int b1), (2, .int b2)]) hx hb dX10_column_10 rfl hl (by decide) rfl (fun ls hl => ?_)
  refine lv_aload_n hx hb dX10_column_11 rfl (lv_at hl 0 rfl) ?_
  refine lv_iload_n hx hb dX10_column_12 rfl (lv_at hl 2 rfl) ?_
  obtain ⟨r_13_1, hc_r_13_1, hf⟩ := of_bnd hf
  refine cl_Vi (w2 := (wW_X10_column G h0 h1 h2 h3 h4 h5 h6 h7 h8 h9 h10 h11 h12 h13 h14 h15 h16 h17 h18 h19 h20 h21 h22 y0_0 y0_1 y0_2 y0_4 y0_5 y0_6 y0_7 y0_8 y0_9 y0_10 x0_11 x0_12 x1_1 x1_2 a2 x3_0 x3_1 x3_2 a4 a5 a6 a8 a9 a10 a11 a12 x13_0 x13_1 x13_2 a14 a15 a16 a18 a19 a20 a21 a22)) (As := [.int b1]) (rest := []) ⟨hx, hb, hml, hown, ht0⟩ (c_X1_isDataPlace l G h3 h4 h5 h6 _ x3_0 x3_1 x3_2 F b1 _ hc_r_13_1) yk_X1_isDataPlace wd_952 ⟨rfl, rfl, by decide, by decide⟩ ⟨Nat.le_refl _, Nat.le_refl _⟩ hX hK hP hD hS hA [3] [0, 1, 2, 4, 5, 6, 7, 8, 9, 10, 11, 12, 13, 14, 15, 16, 17, 18, 19, 20, 21, 22] [0, 1, 2, 22, 3, 4, 5, 6, 7, 8, 9, 10, 11, 12, 13, 14, 15, 16, 17, 18, 19, 20, 21] (va_recv hK hP (ci := 1) (q0 := 3) rfl rfl) rfl rfl (by decide) rfl rfl rfl rfl rfl hl.1 rfl (Nat.le_of_ble_eq_true rfl) dX10_column_13 (fun H locs hP hD hS => ?_)
  refine lv_if_eq (tgt := 36) hx hb dX10_column_16 (by decide) (fun c3 => ?_) (fun c3 => ?_)
  · have hf := of_pos hf c3
    refine lv_iconst (v := (0 : Int32)) hx hb dX10_column_36 (by decide) ?_
    cases hf
    exact ret_z hx hb hr hlk hK hP hD hS (by decide) dX10_column_37
  · have hf := of_neg hf c3
    refine lv_aload_n hx hb dX10_column_19 rfl (lv_at hl 0 rfl) ?_
    refine lv_iload_n hx hb dX10_column_20 rfl (lv_at hl 3 rfl) ?_
    obtain ⟨r_21_3, hc_r_21_3, hf⟩ := of_bnd hf
    refine cl_Vi (w2 := (wW_X10_column G h0 h1 h2 h3 h4 h5 h6 h7 h8 h9 h10 h11 h12 h13 h14 h15 h16 h17 h18 h19 h20 h21 h22 y0_0 y0_1 y0_2 y0_4 y0_5 y0_6 y0_7 y0_8 y0_9 y0_10 x0_11 x0_12 x1_1 x1_2 a2 x3_0 x3_1 x3_2 a4 a5 a6 a8 a9 a10 a11 a12 x13_0 x13_1 x13_2 a14 a15 a16 a18 a19 a20 a21 a22)) (As := [.int b2]) (rest := []) ⟨hx, hb, hml, hown, ht0⟩ (c_X1_isDataColumn l G h3 h4 h5 h6 _ x3_0 x3_1 x3_2 F b2 _ hc_r_21_3) yk_X1_isDataColumn wd_956 ⟨rfl, rfl, by decide, by decide⟩ ⟨Nat.le_refl _, Nat.le_refl _⟩ hX hK hP hD hS hA [3] [0, 1, 2, 4, 5, 6, 7, 8, 9, 10, 11, 12, 13, 14, 15, 16, 17, 18, 19, 20, 21, 22] [0, 1, 2, 22, 3, 4, 5, 6, 7, 8, 9, 10, 11, 12, 13, 14, 15, 16, 17, 18, 19, 20, 21] (va_recv hK hP (ci := 1) (q0 := 3) rfl rfl) rfl rfl (by decide) rfl rfl rfl rfl rfl hl.1 rfl (Nat.le_of_ble_eq_true rfl) dX10_column_21 (fun H locs hP hD hS => ?_)
    refine lv_if_eq (tgt := 36) hx hb dX10_column_24 (by decide) (fun c5 => ?_) (fun c5 => ?_)
    · have hf := of_pos hf c5
      refine lv_iconst (v := (0 : Int32)) hx hb dX10_column_36 (by decide) ?_
      cases hf
      exact ret_z hx hb hr hlk hK hP hD hS (by decide) dX10_column_37
    · have hf := of_neg hf c5
      refine lv_aload_n hx hb dX10_column_27 rfl (lv_at hl 0 rfl) ?_
      refine lv_iload_n hx hb dX10_column_28 rfl (lv_at hl 3 rfl) ?_
      obtain ⟨r_29_5, hc_r_29_5, hf⟩ := of_bnd hf
      refine cl_Vi (w2 := (wW_X10_column G h0 h1 h2 h3 h4 h5 h6 h7 h8 h9 h10 h11 h12 h13 h14 h15 h16 h17 h18 h19 h20 h21 h22 y0_0 y0_1 y0_2 y0_4 y0_5 y0_6 y0_7 y0_8 y0_9 y0_10 x0_11 x0_12 x1_1 x1_2 a2 x3_0 x3_1 x3_2 a4 a5 a6 a8 a9 a10 a11 a12 x13_0 x13_1 x13_2 a14 a15 a16 a18 a19 a20 a21 a22)) (As := [.int b2]) (rest := []) ⟨hx, hb, hml, hown, ht0⟩ (c_X1_placeWith l G h3 h5 h4 h6 _ x3_0 x3_1 x3_2 a5 F b2 _ hc_r_29_5) yk_X1_placeWith wd_957 ⟨rfl, rfl, by decide, by decide⟩ ⟨Nat.le_refl _, Nat.le_refl _⟩ hX hK hP hD hS hA [3, 5] [0, 1, 2, 4, 6, 7, 8, 9, 10, 11, 12, 13, 14, 15, 16, 17, 18, 19, 20, 21, 22] [0, 1, 2, 21, 3, 22, 4, 5, 6, 7, 8, 9, 10, 11, 12, 13, 14, 15, 16, 17, 18, 19, 20] (va_recv hK hP (ci := 1) (q0 := 3) rfl rfl) rfl rfl (by decide) rfl rfl rfl rfl rfl hl.1 rfl (Nat.le_of_ble_eq_true rfl) dX10_column_29 (fun H locs hP hD hS => ?_)
      refine lv_iconst (v := (-1 : Int32)) hx hb dX10_column_32 (by decide) ?_
      refine lv_icmp_eq (tgt := 38) hx hb dX10_column_33 (by decide) (fun c7 => ?_) (fun c7 => ?_)
      · have hf := of_pos hf c7
        refine lv_aload_n hx hb dX10_column_38 rfl (lv_at hl 1 rfl) ?_
        refine va_get (ci := 10) (v := .ref h1) (C := RX10) (T := TX10) (N := 13) hx hb ht0 iX10 hown hK hP 0 rfl rfl 3 (by decide) (ht0 _ wd_543) (fun _ h9 => h9) rfl dX10_column_39 ?_
        obtain ⟨⟨r_42_7_x0_1, r_42_7_x0_2, r_42_7_a1, r_42_7_x12_0, r_42_7_x12_1, r_42_7_x12_2, r_42_7_a13, r_42_7_a14, r_42_7_a15, r_42_7_a17, r_42_7_a18, r_42_7_a19, r_42_7_a20, r_42_7_a21⟩, hc_r_42_7, hf⟩ := of_bnd hf
        refine cl_Vr (w2 := (wW_X10_column G h0 h1 h2 h3 h4 h5 h6 h7 h8 h9 h10 h11 h12 h13 h14 h15 h16 h17 h18 h19 h20 h21 h22 y0_0 y0_1 y0_2 y0_4 y0_5 y0_6 y0_7 y0_8 y0_9 y0_10 x0_11 x0_12 r_42_7_x0_1 r_42_7_x0_2 r_42_7_a1 x3_0 x3_1 x3_2 a4 a5 a6 a8 a9 a10 a11 a12 r_42_7_x12_0 r_42_7_x12_1 r_42_7_x12_2 r_42_7_a13 r_42_7_a14 r_42_7_a15 r_42_7_a17 r_42_7_a18 r_42_7_a19 r_42_7_a20 r_42_7_a21)) (As := []) (rest := []) ⟨hx, hb, hml, hown, ht0⟩ (c_X8_beginAct l G h1 h2 h3 h4 h5 h6 h7 h8 h9 h10 h11 h12 h13 h14 h15 h16 h17 h18 h19 h20 h21 h22 g_cur g_nxt _ x1_1 x1_2 a2 x3_0 x3_1 x3_2 a4 a5 a6 a8 a9 a10 a11 a12 x13_0 x13_1 x13_2 a14 a15 a16 a18 a19 a20 a21 a22 F hq_cur hq_nxt hall _ _ _ _ _ _ _ _ _ _ _ _ _ _ hc_r_42_7) yk_X8_beginAct wd_798 ⟨rfl, rfl, by decide, by decide⟩ ⟨Nat.le_refl _, Nat.le_refl _⟩ hX hK hP hD hS hA [1, 2, 3, 4, 5, 6, 7, 8, 9, 10, 11, 12, 13, 14, 15, 16, 17, 18, 19, 20, 21, 22] [0] [0, 1, 2, 3, 4, 5, 6, 7, 8, 9, 10, 11, 12, 13, 14, 15, 16, 17, 18, 19, 20, 21, 22] (va_recv hK hP (ci := 8) (q0 := 1) rfl rfl) rfl rfl (by decide) rfl rfl rfl rfl rfl hl.1 rfl (Nat.le_of_ble_eq_true rfl) dX10_column_42 (fun H locs hP hD hS => ?_)
        refine lv_astore (lv' := [(4, .ref g_nxt), (3, .ref h3), (0, .ref h0), (1, .int b1), (2, .int b2)]) hx hb dX10_column_45 hl (by decide) rfl (fun ls hl => ?_)
        refine lv_aload hx hb dX10_column_47 (lv_at hl 0 rfl) ?_
        refine vk_getf hx hb (hX.2.2 _ hq_nxt).2.1 hS hown (ht0 _ wd_342) (fun _ h => h) dX10_column_49 ?_
        refine lv_iload_n hx hb dX10_column_52 rfl (lv_at hl 3 rfl) ?_
        refine lv_iload_n hx hb dX10_column_53 rfl (lv_at hl 4 rfl) ?_
        obtain ⟨⟨r_54_8_a1, r_54_8_a2, r_54_8_a3⟩, hc_r_54_8, hf⟩ := of_bnd hf
        refine cl_Vv (w2 := (wW_X10_column G h0 h1 h2 h3 h4 h5 h6 h7 h8 h9 h10 h11 h12 h13 h14 h15 h16 h17 h18 h19 h20 h21 h22 y0_0 y0_1 y0_2 y0_4 y0_5 y0_6 y0_7 y0_8 y0_9 y0_10 x0_11 x0_12 r_42_7_x0_1 r_42_7_x0_2 r_42_7_a1 x3_0 x3_1 x3_2 a4 a5 a6 a8 a9 a10 a11 a12 r_42_7_x12_0 r_42_7_x12_1 r_42_7_x12_2 r_54_8_a1 r_54_8_a2 r_54_8_a3 r_42_7_a17 r_42_7_a18 r_42_7_a19 r_42_7_a20 r_42_7_a21)) (As := [.int b1, .int b2]) (rest := []) ⟨hx, hb, hml, hown, ht0⟩ (c_X1_giveColumn l G h13 h14 h15 h16 _ r_42_7_x12_0 r_42_7_x12_1 r_42_7_x12_2 r_42_7_a13 r_42_7_a14 r_42_7_a15 F b1 b2 _ _ _ hc_r_54_8) yk_X1_giveColumn wd_958 ⟨rfl, rfl, by decide, by decide⟩ ⟨Nat.le_refl _, Nat.le_refl _⟩ hX hK hP hD hS hA [13, 14, 15, 16] [0, 1, 2, 3, 4, 5, 6, 7, 8, 9, 10, 11, 12, 17, 18, 19, 20, 21, 22] [0, 1, 2, 3, 4, 5, 6, 7, 8, 9, 10, 11, 12, 19, 20, 21, 22, 13, 14, 15, 16, 17, 18] (va_recv hK hP (ci := 1) (q0 := 13) rfl rfl) rfl rfl (by decide) rfl rfl rfl rfl rfl hl.1 rfl (Nat.le_of_ble_eq_true rfl) dX10_column_54 (fun H locs hP hD hS => ?_)
        refine lv_aload hx hb dX10_column_57 (lv_at hl 0 rfl) ?_
        refine vk_getf hx hb (hX.2.2 _ hq_nxt).2.2 hS hown (ht0 _ wd_344) (fun _ h => h) dX10_column_59 ?_
        refine lv_aload hx hb dX10_column_62 (lv_at hl 0 rfl) ?_
        refine vk_getf hx hb (hX.2.2 _ hq_nxt).2.1 hS hown (ht0 _ wd_342) (fun _ h => h) dX10_column_64 ?_
        obtain ⟨⟨r_67_9_a1, r_67_9_a2, r_67_9_a4⟩, hc_r_67_9, hf⟩ := of_bnd hf
        refine cl_Vv (w2 := (wW_X10_column G h0 h1 h2 h3 h4 h5 h6 h7 h8 h9 h10 h11 h12 h13 h14 h15 h16 h17 h18 h19 h20 h21 h22 y0_0 y0_1 y0_2 y0_4 y0_5 y0_6 y0_7 y0_8 y0_9 y0_10 x0_11 x0_12 r_42_7_x0_1 r_42_7_x0_2 r_42_7_a1 x3_0 x3_1 x3_2 a4 a5 a6 a8 a9 a10 a11 a12 r_42_7_x12_0 r_42_7_x12_1 r_42_7_x12_2 r_54_8_a1 r_54_8_a2 r_54_8_a3 r_67_9_a1 r_67_9_a2 r_42_7_a19 r_67_9_a4 r_42_7_a21)) (As := [.ref h13]) (rest := []) ⟨hx, hb, hml, hown, ht0⟩ (c_X9_writeAllAnew l G h17 h18 h19 h20 h21 h13 h14 h22 h15 h16 _ r_42_7_a17 r_42_7_a18 r_42_7_a19 r_42_7_a20 r_42_7_x12_0 r_42_7_x12_1 r_42_7_x12_2 r_54_8_a1 F _ _ _ hc_r_67_9) yk_X9_writeAllAnew wd_959 ⟨rfl, rfl, by decide, by decide⟩ ⟨Nat.le_refl _, Nat.le_refl _⟩ hX hK hP hD hS hA [17, 18, 19, 20, 21, 13, 14] [0, 1, 2, 3, 4, 5, 6, 7, 8, 9, 10, 11, 12, 15, 16, 22] [0, 1, 2, 3, 4, 5, 6, 7, 8, 9, 10, 11, 12, 21, 22, 13, 14, 16, 17, 18, 19, 20, 15] (va_recv hK hP (ci := 9) (q0 := 17) rfl rfl) rfl rfl (by decide) rfl rfl rfl rfl rfl hl.1 rfl (Nat.le_of_ble_eq_true rfl) dX10_column_67 (fun H locs hP hD hS => ?_)
        refine lv_iconst (v := (1 : Int32)) hx hb dX10_column_70 (by decide) ?_
        cases hf
        exact ret_z hx hb hr hlk hK hP hD hS (by decide) dX10_column_71
      · have hf := of_neg hf c7
        refine lv_iconst (v := (0 : Int32)) hx hb dX10_column_36 (by decide) ?_
        cases hf
        exact ret_z hx hb hr hlk hK hP hD hS (by decide) dX10_column_37
theorem yk_X10_column : ykV yX10_column RX10 cX10_column 5 (some .boolean) 2 := ⟨wd_949, wd_950, wd_127, wd_951, rfl, by decide +kernel, by decide +kernel, by decide +kernel⟩
theorem dX10_swap_0 : decode cX10_swap 0 = .ok (.aload_n 0, 1) := by decide +kernel
theorem dX10_swap_1 : decode cX10_swap 1 = .ok (.getfield 29, 3) := by decide +kernel
theorem dX10_swap_4 : decode cX10_swap 4 = .ok (.invokevirtual 92, 3) := by decide +kernel
theorem dX10_swap_7 : decode cX10_swap 7 = .ok (.getfield 96, 3) := by decide +kernel
theorem dX10_swap_10 : decode cX10_swap 10 = .ok (.astore_n 3, 1) := by decide +kernel
theorem dX10_swap_11 : decode cX10_swap 11 = .ok (.aload_n 3, 1) := by decide +kernel
theorem dX10_swap_12 : decode cX10_swap 12 = .ok (.iload_n 1, 1) := by decide +kernel
theorem dX10_swap_13 : decode cX10_swap 13 = .ok (.invokevirtual 208, 3) := by decide +kernel
theorem dX10_swap_16 : decode cX10_swap 16 = .ok (.ifCond .eq 16, 3) := by decide +kernel
theorem dX10_swap_19 : decode cX10_swap 19 = .ok (.aload_n 3, 1) := by decide +kernel
theorem dX10_swap_20 : decode cX10_swap 20 = .ok (.iload_n 2, 1) := by decide +kernel
theorem dX10_swap_21 : decode cX10_swap 21 = .ok (.invokevirtual 208, 3) := by decide +kernel
theorem dX10_swap_24 : decode cX10_swap 24 = .ok (.ifCond .eq 8, 3) := by decide +kernel
theorem dX10_swap_27 : decode cX10_swap 27 = .ok (.iload_n 1, 1) := by decide +kernel
theorem dX10_swap_28 : decode cX10_swap 28 = .ok (.iload_n 2, 1) := by decide +kernel
theorem dX10_swap_29 : decode cX10_swap 29 = .ok (.if_icmp .ne 5, 3) := by decide +kernel
theorem dX10_swap_32 : decode cX10_swap 32 = .ok (.iconst 0, 1) := by decide +kernel
theorem dX10_swap_33 : decode cX10_swap 33 = .ok (.ireturn, 1) := by decide +kernel
theorem dX10_swap_34 : decode cX10_swap 34 = .ok (.aload_n 0, 1) := by decide +kernel
theorem dX10_swap_35 : decode cX10_swap 35 = .ok (.getfield 29, 3) := by decide +kernel
theorem dX10_swap_38 : decode cX10_swap 38 = .ok (.invokevirtual 147, 3) := by decide +kernel
theorem dX10_swap_41 : decode cX10_swap 41 = .ok (.astore 4, 2) := by decide +kernel
theorem dX10_swap_43 : decode cX10_swap 43 = .ok (.aload 4, 2) := by decide +kernel
theorem dX10_swap_45 : decode cX10_swap 45 = .ok (.getfield 96, 3) := by decide +kernel
theorem dX10_swap_48 : decode cX10_swap 48 = .ok (.iload_n 1, 1) := by decide +kernel
theorem dX10_swap_49 : decode cX10_swap 49 = .ok (.iload_n 2, 1) := by decide +kernel
theorem dX10_swap_50 : decode cX10_swap 50 = .ok (.invokevirtual 224, 3) := by decide +kernel
theorem dX10_swap_53 : decode cX10_swap 53 = .ok (.aload 4, 2) := by decide +kernel
theorem dX10_swap_55 : decode cX10_swap 55 = .ok (.getfield 125, 3) := by decide +kernel
theorem dX10_swap_58 : decode cX10_swap 58 = .ok (.aload 4, 2) := by decide +kernel
theorem dX10_swap_60 : decode cX10_swap 60 = .ok (.getfield 96, 3) := by decide +kernel
theorem dX10_swap_63 : decode cX10_swap 63 = .ok (.invokevirtual 221, 3) := by decide +kernel
theorem dX10_swap_66 : decode cX10_swap 66 = .ok (.iconst 1, 1) := by decide +kernel
theorem dX10_swap_67 : decode cX10_swap 67 = .ok (.ireturn, 1) := by decide +kernel
def wW_X10_swap (G : GG) (h0 h1 h2 h3 h4 h5 h6 h7 h8 h9 h10 h11 h12 h13 h14 h15 h16 h17 h18 h19 h20 h21 h22 y0_0 y0_1 y0_2 y0_4 y0_5 y0_6 y0_7 y0_8 y0_9 y0_10 : Nat) (x0_11 : Int32) (x0_12 : Int32) (x1_1 : Int32) (x1_2 : Int32) (a2 : Nat → Option Nat) (x3_0 : Int32) (x3_1 : Int32) (x3_2 : Int32) (a4 : Nat → Int32) (a5 : Nat → Int32) (a6 : Nat → Int32) (a8 : Nat → Int32) (a9 : Nat → Int32) (a10 : Nat → Int32) (a11 : Nat → Int32) (a12 : Nat → Int32) (x13_0 : Int32) (x13_1 : Int32) (x13_2 : Int32) (a14 : Nat → Int32) (a15 : Nat → Int32) (a16 : Nat → Int32) (a18 : Nat → Int32) (a19 : Nat → Int32) (a20 : Nat → Int32) (a21 : Nat → Int32) (a22 : Nat → Int32) : va_W := [(h0, .inr (10, [.ref y0_0, .ref y0_1, .ref y0_2, .ref h1, .ref y0_4, .ref y0_5, .ref y0_6, .ref y0_7, .ref y0_8, .ref y0_9, .ref y0_10, .int x0_11, .int x0_12])), (h1, .inr (8, [.ref h2, .int x1_1, .int x1_2])), (h2, .inl (G.2.2.2.2.1, 13, .inr (.inr (.inr (.inr a2))))), (h3, .inr (1, [.int x3_0, .int x3_1, .int x3_2, .ref h4, .ref h5, .ref h6])), (h4, .inl (G.2.1, 32, .inl a4)), (h5, .inl (G.2.1, 256, .inl a5)), (h6, .inl (G.2.1, 256, .inl a6)), (h7, .inr (9, [.ref h8, .ref h9, .ref h10, .ref h11, .ref h12])), (h8, .inl (G.2.1, 16, .inl a8)), (h9, .inl (G.2.1, 16, .inl a9)), (h10, .inl (G.2.1, 16, .inl a10)), (h11, .inl (G.2.1, 16, .inl a11)), (h12, .inl (G.2.1, 8, .inl a12)), (h13, .inr (1, [.int x13_0, .int x13_1, .int x13_2, .ref h14, .ref h15, .ref h16])), (h14, .inl (G.2.1, 32, .inl a14)), (h15, .inl (G.2.1, 256, .inl a15)), (h16, .inl (G.2.1, 256, .inl a16)), (h17, .inr (9, [.ref h18, .ref h19, .ref h20, .ref h21, .ref h22])), (h18, .inl (G.2.1, 16, .inl a18)), (h19, .inl (G.2.1, 16, .inl a19)), (h20, .inl (G.2.1, 16, .inl a20)), (h21, .inl (G.2.1, 16, .inl a21)), (h22, .inl (G.2.1, 8, .inl a22))]
set_option maxHeartbeats 4000000 in
set_option maxRecDepth 100000 in
theorem c_X10_swap (l : Launch) (G : GG) (h0 h1 h2 h3 h4 h5 h6 h7 h8 h9 h10 h11 h12 h13 h14 h15 h16 h17 h18 h19 h20 h21 h22 y0_0 y0_1 y0_2 y0_4 y0_5 y0_6 y0_7 y0_8 y0_9 y0_10 g_cur g_nxt : Nat) (sz : Nat) (x0_11 : Int32) (x0_12 : Int32) (x1_1 : Int32) (x1_2 : Int32) (a2 : Nat → Option Nat) (x3_0 : Int32) (x3_1 : Int32) (x3_2 : Int32) (a4 : Nat → Int32) (a5 : Nat → Int32) (a6 : Nat → Int32) (a8 : Nat → Int32) (a9 : Nat → Int32) (a10 : Nat → Int32) (a11 : Nat → Int32) (a12 : Nat → Int32) (x13_0 : Int32) (x13_1 : Int32) (x13_2 : Int32) (a14 : Nat → Int32) (a15 : Nat → Int32) (a16 : Nat → Int32) (a18 : Nat → Int32) (a19 : Nat → Int32) (a20 : Nat → Int32) (a21 : Nat → Int32) (a22 : Nat → Int32) (F : Nat) (b1 : Int32) (b2 : Int32) (hq_cur : (g_cur, h3, h7) ∈ gS G) (hq_nxt : (g_nxt, h13, h17) ∈ gS G) (hall : stAll G a2)  (r0 : Int32) (e_x1_1 : Int32) (e_x1_2 : Int32) (e_a2 : Nat → Option Nat) (e_x13_0 : Int32) (e_x13_1 : Int32) (e_x13_2 : Int32) (e_a14 : Nat → Int32) (e_a15 : Nat → Int32) (e_a16 : Nat → Int32) (e_a18 : Nat → Int32) (e_a19 : Nat → Int32) (e_a20 : Nat → Int32) (e_a21 : Nat → Int32) (e_a22 : Nat → Int32) (hf : p_X10_swap F g_cur g_nxt x1_1 x1_2 a2 x3_0 x3_1 x3_2 a4 a5 a6 a8 a9 a10 a11 a12 x13_0 x13_1 x13_2 a14 a15 a16 a18 a19 a20 a21 a22 b1 b2 = some (r0, e_x1_1, e_x1_2, e_a2, e_x13_0, e_x13_1, e_x13_2, e_a14, e_a15, e_a16, e_a18, e_a19, e_a20, e_a21, e_a22)) : Met l yX10_swap (.code yX10_swap cX10_swap 5 (some .boolean) :: gtbl) ({ frames := 5, cells := 0, slots := 0, locals := 113 } : Room) (PcS G [.ref h0, .int b1, .int b2] (wW_X10_swap G h0 h1 h2 h3 h4 h5 h6 h7 h8 h9 h10 h11 h12 h13 h14 h15 h16 h17 h18 h19 h20 h21 h22 y0_0 y0_1 y0_2 y0_4 y0_5 y0_6 y0_7 y0_8 y0_9 y0_10 x0_11 x0_12 x1_1 x1_2 a2 x3_0 x3_1 x3_2 a4 a5 a6 a8 a9 a10 a11 a12 x13_0 x13_1 x13_2 a14 a15 a16 a18 a19 a20 a21 a22) sz) (QiS G r0 (va_A (wW_X10_swap G h0 h1 h2 h3 h4 h5 h6 h7 h8 h9 h10 h11 h12 h13 h14 h15 h16 h17 h18 h19 h20 h21 h22 y0_0 y0_1 y0_2 y0_4 y0_5 y0_6 y0_7 y0_8 y0_9 y0_10 x0_11 x0_12 x1_1 x1_2 a2 x3_0 x3_1 x3_2 a4 a5 a6 a8 a9 a10 a11 a12 x13_0 x13_1 x13_2 a14 a15 a16 a18 a19 a20 a21 a22) sz) (wW_X10_swap G h0 h1 h2 h3 h4 h5 h6 h7 h8 h9 h10 h11 h12 h13 h14 h15 h16 h17 h18 h19 h20 h21 h22 y0_0 y0_1 y0_2 y0_4 y0_5 y0_6 y0_7 y0_8 y0_9 y0_10 x0_11 x0_12 e_x1_1 e_x1_2 e_a2 x3_0 x3_1 x3_2 a4 a5 a6 a8 a9 a10 a11 a12 e_x13_0 e_x13_1 e_x13_2 e_a14 e_a15 e_a16 e_a18 e_a19 e_a20 e_a21 e_a22)) 0 0 (va_A (wW_X10_swap G h0 h1 h2 h3 h4 h5 h6 h7 h8 h9 h10 h11 h12 h13 h14 h15 h16 h17 h18 h19 h20 h21 h22 y0_0 y0_1 y0_2 y0_4 y0_5 y0_6 y0_7 y0_8 y0_9 y0_10 x0_11 x0_12 x1_1 x1_2 a2 x3_0 x3_1 x3_2 a4 a5 a6 a8 a9 a10 a11 a12 x13_0 x13_1 x13_2 a14 a15 a16 a18 a19 a20 a21 a22) sz) := by
  refine met_start (by decide) (Nat.le_of_ble_eq_true rfl) ?_
  intro p e s m below meth c hC hr hlk hnm hK hP hD hA hS hX ls hl
  obtain ⟨hx, hb, hml, hown, ht0⟩ := hC
  have hown : s.vm.findClass RX10 = some m.cls := hown
  generalize va_A (wW_X10_swap G h0 h1 h2 h3 h4 h5 h6 h7 h8 h9 h10 h11 h12 h13 h14 h15 h16 h17 h18 h19 h20 h21 h22 y0_0 y0_1 y0_2 y0_4 y0_5 y0_6 y0_7 y0_8 y0_9 y0_10 x0_11 x0_12 x1_1 x1_2 a2 x3_0 x3_1 x3_2 a4 a5 a6 a8 a9 a10 a11 a12 x13_0 x13_1 x13_2 a14 a15 a16 a18 a19 a20 a21 a22) sz = A at hD hA hS hX ⊢
  have hl : lv_has ls 5 [(0, .ref h0), (1, .int b1), (2, .int b2)] := hl
  have hf : p_X10_swap F g_cur g_nxt x1_1 x1_2 a2 x3_0 x3_1 x3_2 a4 a5 a6 a8 a9 a10 a11 a12 x13_0 x13_1 x13_2 a14 a15 a16 a18 a19 a20 a21 a22 b1 b2 = some (r0, e_x1_1, e_x1_2, e_a2, e_x13_0, e_x13_1, e_x13_2, e_a14, e_a15, e_a16, e_a18, e_a19, e_a20, e_a21, e_a22) := hf
  refine lv_aload_n hx hb dX10_swap_0 rfl (lv_at hl 0 rfl) ?_
  refine va_get (ci := 10) (v := .ref h1) (C := RX10) (T := TX10) (N := 13) hx hb ht0 iX10 hown hK hP 0 rfl rfl 3 (by decide) (ht0 _ wd_543) (fun _ h9 => h9) rfl dX10_swap_1 ?_
  obtain ⟨_, hc_r_4_0, hf⟩ := of_bnd hf
  refine cl_Vr (w2 := (wW_X10_swap G h0 h1 h2 h3 h4 h5 h6 h7 h8 h9 h10 h11 h12 h13 h14 h15 h16 h17 h18 h19 h20 h21 h22 y0_0 y0_1 y0_2 y0_4 y0_5 y0_6 y0_7 y0_8 y0_9 y0_10 x0_11 x0_12 x1_1 x1_2 a2 x3_0 x3_1 x3_2 a4 a5 a6 a8 a9 a10 a11 a12 x13_0 x13_1 x13_2 a14 a15 a16 a18 a19 a20 a21 a22)) (As := []) (rest := []) ⟨hx, hb, hml, hown, ht0⟩ (c_X8_now l G h1 h2 g_cur h3 h7 _ x1_1 x1_2 a2 F hq_cur hc_r_4_0) yk_X8_now wd_531 ⟨rfl, rfl, by decide, by decide⟩ ⟨Nat.le_refl _, Nat.le_refl _⟩ hX hK hP hD hS hA [1, 2] [0, 3, 4, 5, 6, 7, 8, 9, 10, 11, 12, 13, 14, 15, 16, 17, 18, 19, 20, 21, 22] [0, 21, 22, 1, 2, 3, 4, 5, 6, 7, 8, 9, 10, 11, 12, 13, 14, 15, 16, 17, 18, 19, 20] (va_recv hK hP (ci := 8) (q0 := 1) rfl rfl) rfl rfl (by decide) rfl rfl rfl rfl rfl hl.1 rfl (Nat.le_of_ble_eq_true rfl) dX10_swap_4 (fun H locs hP hD hS => ?_)
  refine vk_getf hx hb (hX.2.2 _ hq_cur).2.1 hS hown (ht0 _ wd_342) (fun _ h => h) dX10_swap_7 ?_
  refine lv_astore_n (lv' := [(3, .ref h3), (0, .ref h0), (1, .int b1), (2, .int b2)]) hx hb dX10_swap_10 rfl hl (by decide) rfl (fun ls hl => ?_)
  refine lv_aload_n hx hb dX10_swap_11 rfl (lv_at hl 0 rfl) ?_
  refine lv_iload_n hx hb dX10_swap_12 rfl (lv_at hl 2 rfl) ?_
  obtain ⟨r_13_1, hc_r_13_1, hf⟩ := of_bnd hf
  refine cl_Vi (w2 := (wW_X10_swap G h0 h1 h2 h3 h4 h5 h6 h7 h8 h9 h10 h11 h12 h13 h14 h15 h16 h17 h18 h19 h20 h21 h22 y0_0 y0_1 y0_2 y0_4 y0_5 y0_6 y0_7 y0_8 y0_9 y0_10 x0_11 x0_12 x1_1 x1_2 a2 x3_0 x3_1 x3_2 a4 a5 a6 a8 a9 a10 a11 a12 x13_0 x13_1 x13_2 a14 a15 a16 a18 a19 a20 a21 a22)) (As := [.int b1]) (rest := []) ⟨hx, hb, hml, hown, ht0⟩ (c_X1_isDataPlace l G h3 h4 h5 h6 _ x3_0 x3_1 x3_2 F b1 _ hc_r_13_1) yk_X1_isDataPlace wd_952 ⟨rfl, rfl, by decide, by decide⟩ ⟨Nat.le_refl _, Nat.le_refl _⟩ hX hK hP hD hS hA [3] [0, 1, 2, 4, 5, 6, 7, 8, 9, 10, 11, 12, 13, 14, 15, 16, 17, 18, 19, 20, 21, 22] [0, 1, 2, 22, 3, 4, 5, 6, 7, 8, 9, 10, 11, 12, 13, 14, 15, 16, 17, 18, 19, 20, 21] (va_recv hK hP (ci := 1) (q0 := 3) rfl rfl) rfl rfl (by decide) rfl rfl rfl rfl rfl hl.1 rfl (Nat.le_of_ble_eq_true rfl) dX10_swap_13 (fun H locs hP hD hS => ?_)
  refine lv_if_eq (tgt := 32) hx hb dX10_swap_16 (by decide) (fun c3 => ?_) (fun c3 => ?_)
  · have hf := of_pos hf c3
    refine lv_iconst (v := (0 : Int32)) hx hb dX10_swap_32 (by decide) ?_
    cases hf
    exact ret_z hx hb hr hlk hK hP hD hS (by decide) dX10_swap_33
  · have hf := of_neg hf c3
    refine lv_aload_n hx hb dX10_swap_19 rfl (lv_at hl 0 rfl) ?_
    refine lv_iload_n hx hb dX10_swap_20 rfl (lv_at hl 3 rfl) ?_
    obtain ⟨r_21_3, hc_r_21_3, hf⟩ := of_bnd hf
    refine cl_Vi (w2 := (wW_X10_swap G h0 h1 h2 h3 h4 h5 h6 h7 h8 h9 h10 h11 h12 h13 h14 h15 h16 h17 h18 h19 h20 h21 h22 y0_0 y0_1 y0_2 y0_4 y0_5 y0_6 y0_7 y0_8 y0_9 y0_10 x0_11 x0_12 x1_1 x1_2 a2 x3_0 x3_1 x3_2 a4 a5 a6 a8 a9 a10 a11 a12 x13_0 x13_1 x13_2 a14 a15 a16 a18 a19 a20 a21 a22)) (As := [.int b2]) (rest := []) ⟨hx, hb, hml, hown, ht0⟩ (c_X1_isDataPlace l G h3 h4 h5 h6 _ x3_0 x3_1 x3_2 F b2 _ hc_r_21_3) yk_X1_isDataPlace wd_952 ⟨rfl, rfl, by decide, by decide⟩ ⟨Nat.le_refl _, Nat.le_refl _⟩ hX hK hP hD hS hA [3] [0, 1, 2, 4, 5, 6, 7, 8, 9, 10, 11, 12, 13, 14, 15, 16, 17, 18, 19, 20, 21, 22] [0, 1, 2, 22, 3, 4, 5, 6, 7, 8, 9, 10, 11, 12, 13, 14, 15, 16, 17, 18, 19, 20, 21] (va_recv hK hP (ci := 1) (q0 := 3) rfl rfl) rfl rfl (by decide) rfl rfl rfl rfl rfl hl.1 rfl (Nat.le_of_ble_eq_true rfl) dX10_swap_21 (fun H locs hP hD hS => ?_)
    refine lv_if_eq (tgt := 32) hx hb dX10_swap_24 (by decide) (fun c5 => ?_) (fun c5 => ?_)
    · have hf := of_pos hf c5
      refine lv_iconst (v := (0 : Int32)) hx hb dX10_swap_32 (by decide) ?_
      cases hf
      exact ret_z hx hb hr hlk hK hP hD hS (by decide) dX10_swap_33
    · have hf := of_neg hf c5
      refine lv_iload_n hx hb dX10_swap_27 rfl (lv_at hl 2 rfl) ?_
      refine lv_iload_n hx hb dX10_swap_28 rfl (lv_at hl 3 rfl) ?_
      refine lv_icmp_ne (tgt := 34) hx hb dX10_swap_29 (by decide) (fun c6 => ?_) (fun c6 => ?_)
      · have hf := of_neg hf c6
        refine lv_aload_n hx hb dX10_swap_34 rfl (lv_at hl 1 rfl) ?_
        refine va_get (ci := 10) (v := .ref h1) (C := RX10) (T := TX10) (N := 13) hx hb ht0 iX10 hown hK hP 0 rfl rfl 3 (by decide) (ht0 _ wd_543) (fun _ h9 => h9) rfl dX10_swap_35 ?_
        obtain ⟨⟨r_38_6_x0_1, r_38_6_x0_2, r_38_6_a1, r_38_6_x12_0, r_38_6_x12_1, r_38_6_x12_2, r_38_6_a13, r_38_6_a14, r_38_6_a15, r_38_6_a17, r_38_6_a18, r_38_6_a19, r_38_6_a20, r_38_6_a21⟩, hc_r_38_6, hf⟩ := of_bnd hf
        refine cl_Vr (w2 := (wW_X10_swap G h0 h1 h2 h3 h4 h5 h6 h7 h8 h9 h10 h11 h12 h13 h14 h15 h16 h17 h18 h19 h20 h21 h22 y0_0 y0_1 y0_2 y0_4 y0_5 y0_6 y0_7 y0_8 y0_9 y0_10 x0_11 x0_12 r_38_6_x0_1 r_38_6_x0_2 r_38_6_a1 x3_0 x3_1 x3_2 a4 a5 a6 a8 a9 a10 a11 a12 r_38_6_x12_0 r_38_6_x12_1 r_38_6_x12_2 r_38_6_a13 r_38_6_a14 r_38_6_a15 r_38_6_a17 r_38_6_a18 r_38_6_a19 r_38_6_a20 r_38_6_a21)) (As := []) (rest := []) ⟨hx, hb, hml, hown, ht0⟩ (c_X8_beginAct l G h1 h2 h3 h4 h5 h6 h7 h8 h9 h10 h11 h12 h13 h14 h15 h16 h17 h18 h19 h20 h21 h22 g_cur g_nxt _ x1_1 x1_2 a2 x3_0 x3_1 x3_2 a4 a5 a6 a8 a9 a10 a11 a12 x13_0 x13_1 x13_2 a14 a15 a16 a18 a19 a20 a21 a22 F hq_cur hq_nxt hall _ _ _ _ _ _ _ _ _ _ _ _ _ _ hc_r_38_6) yk_X8_beginAct wd_798 ⟨rfl, rfl, by decide, by decide⟩ ⟨Nat.le_refl _, Nat.le_refl _⟩ hX hK hP hD hS hA [1, 2, 3, 4, 5, 6, 7, 8, 9, 10, 11, 12, 13, 14, 15, 16, 17, 18, 19, 20, 21, 22] [0] [0, 1, 2, 3, 4, 5, 6, 7, 8, 9, 10, 11, 12, 13, 14, 15, 16, 17, 18, 19, 20, 21, 22] (va_recv hK hP (ci := 8) (q0 := 1) rfl rfl) rfl rfl (by decide) rfl rfl rfl rfl rfl hl.1 rfl (Nat.le_of_ble_eq_true rfl) dX10_swap_38 (fun H locs hP hD hS => ?_)
        refine lv_astore (lv' := [(4, .ref g_nxt), (3, .ref h3), (0, .ref h0), (1, .int b1), (2, .int b2)]) hx hb dX10_swap_41 hl (by decide) rfl (fun ls hl => ?_)
        refine lv_aload hx hb dX10_swap_43 (lv_at hl 0 rfl) ?_
        refine vk_getf hx hb (hX.2.2 _ hq_nxt).2.1 hS hown (ht0 _ wd_342) (fun _ h => h) dX10_swap_45 ?_
        refine lv_iload_n hx hb dX10_swap_48 rfl (lv_at hl 3 rfl) ?_
        refine lv_iload_n hx hb dX10_swap_49 rfl (lv_at hl 4 rfl) ?_
        obtain ⟨⟨r_50_7_a1, r_50_7_a2, r_50_7_a3⟩, hc_r_50_7, hf⟩ := of_bnd hf
        refine cl_Vv (w2 := (wW_X10_swap G h0 h1 h2 h3 h4 h5 h6 h7 h8 h9 h10 h11 h12 h13 h14 h15 h16 h17 h18 h19 h20 h21 h22 y0_0 y0_1 y0_2 y0_4 y0_5 y0_6 y0_7 y0_8 y0_9 y0_10 x0_11 x0_12 r_38_6_x0_1 r_38_6_x0_2 r_38_6_a1 x3_0 x3_1 x3_2 a4 a5 a6 a8 a9 a10 a11 a12 r_38_6_x12_0 r_38_6_x12_1 r_38_6_x12_2 r_50_7_a1 r_50_7_a2 r_50_7_a3 r_38_6_a17 r_38_6_a18 r_38_6_a19 r_38_6_a20 r_38_6_a21)) (As := [.int b1, .int b2]) (rest := []) ⟨hx, hb, hml, hown, ht0⟩ (c_X1_exchangeColumns l G h13 h14 h15 h16 _ r_38_6_x12_0 r_38_6_x12_1 r_38_6_x12_2 r_38_6_a13 r_38_6_a14 r_38_6_a15 F b1 b2 _ _ _ hc_r_50_7) yk_X1_exchangeColumns wd_967 ⟨rfl, rfl, by decide, by decide⟩ ⟨Nat.le_refl _, Nat.le_refl _⟩ hX hK hP hD hS hA [13, 14, 15, 16] [0, 1, 2, 3, 4, 5, 6, 7, 8, 9, 10, 11, 12, 17, 18, 19, 20, 21, 22] [0, 1, 2, 3, 4, 5, 6, 7, 8, 9, 10, 11, 12, 19, 20, 21, 22, 13, 14, 15, 16, 17, 18] (va_recv hK hP (ci := 1) (q0 := 13) rfl rfl) rfl rfl (by decide) rfl rfl rfl rfl rfl hl.1 rfl (Nat.le_of_ble_eq_true rfl) dX10_swap_50 (fun H locs hP hD hS => ?_)
        refine lv_aload hx hb dX10_swap_53 (lv_at hl 0 rfl) ?_
        refine vk_getf hx hb (hX.2.2 _ hq_nxt).2.2 hS hown (ht0 _ wd_344) (fun _ h => h) dX10_swap_55 ?_
        refine lv_aload hx hb dX10_swap_58 (lv_at hl 0 rfl) ?_
        refine vk_getf hx hb (hX.2.2 _ hq_nxt).2.1 hS hown (ht0 _ wd_342) (fun _ h => h) dX10_swap_60 ?_
        obtain ⟨⟨r_63_8_a1, r_63_8_a2, r_63_8_a4⟩, hc_r_63_8, hf⟩ := of_bnd hf
        refine cl_Vv (w2 := (wW_X10_swap G h0 h1 h2 h3 h4 h5 h6 h7 h8 h9 h10 h11 h12 h13 h14 h15 h16 h17 h18 h19 h20 h21 h22 y0_0 y0_1 y0_2 y0_4 y0_5 y0_6 y0_7 y0_8 y0_9 y0_10 x0_11 x0_12 r_38_6_x0_1 r_38_6_x0_2 r_38_6_a1 x3_0 x3_1 x3_2 a4 a5 a6 a8 a9 a10 a11 a12 r_38_6_x12_0 r_38_6_x12_1 r_38_6_x12_2 r_50_7_a1 r_50_7_a2 r_50_7_a3 r_63_8_a1 r_63_8_a2 r_38_6_a19 r_63_8_a4 r_38_6_a21)) (As := [.ref h13]) (rest := []) ⟨hx, hb, hml, hown, ht0⟩ (c_X9_writeAllAnew l G h17 h18 h19 h20 h21 h13 h14 h22 h15 h16 _ r_38_6_a17 r_38_6_a18 r_38_6_a19 r_38_6_a20 r_38_6_x12_0 r_38_6_x12_1 r_38_6_x12_2 r_50_7_a1 F _ _ _ hc_r_63_8) yk_X9_writeAllAnew wd_959 ⟨rfl, rfl, by decide, by decide⟩ ⟨Nat.le_refl _, Nat.le_refl _⟩ hX hK hP hD hS hA [17, 18, 19, 20, 21, 13, 14] [0, 1, 2, 3, 4, 5, 6, 7, 8, 9, 10, 11, 12, 15, 16, 22] [0, 1, 2, 3, 4, 5, 6, 7, 8, 9, 10, 11, 12, 21, 22, 13, 14, 16, 17, 18, 19, 20, 15] (va_recv hK hP (ci := 9) (q0 := 17) rfl rfl) rfl rfl (by decide) rfl rfl rfl rfl rfl hl.1 rfl (Nat.le_of_ble_eq_true rfl) dX10_swap_63 (fun H locs hP hD hS => ?_)
        refine lv_iconst (v := (1 : Int32)) hx hb dX10_swap_66 (by decide) ?_
        cases hf
        exact ret_z hx hb hr hlk hK hP hD hS (by decide) dX10_swap_67
      · have hf := of_pos hf c6
        refine lv_iconst (v := (0 : Int32)) hx hb dX10_swap_32 (by decide) ?_
        cases hf
        exact ret_z hx hb hr hlk hK hP hD hS (by decide) dX10_swap_33
theorem yk_X10_swap : ykV yX10_swap RX10 cX10_swap 5 (some .boolean) 2 := ⟨wd_964, wd_965, wd_127, wd_966, rfl, by decide +kernel, by decide +kernel, by decide +kernel⟩
theorem dX10_way_0 : decode cX10_way 0 = .ok (.iload_n 1, 1) := by decide +kernel
theorem dX10_way_1 : decode cX10_way 1 = .ok (.ifCond .lt 8, 3) := by decide +kernel
theorem dX10_way_4 : decode cX10_way 4 = .ok (.iload_n 1, 1) := by decide +kernel
theorem dX10_way_5 : decode cX10_way 5 = .ok (.iconst 2, 1) := by decide +kernel
theorem dX10_way_6 : decode cX10_way 6 = .ok (.if_icmp .le 5, 3) := by decide +kernel
theorem dX10_way_9 : decode cX10_way 9 = .ok (.iconst 0, 1) := by decide +kernel
theorem dX10_way_10 : decode cX10_way 10 = .ok (.ireturn, 1) := by decide +kernel
theorem dX10_way_11 : decode cX10_way 11 = .ok (.aload_n 0, 1) := by decide +kernel
theorem dX10_way_12 : decode cX10_way 12 = .ok (.getfield 68, 3) := by decide +kernel
theorem dX10_way_15 : decode cX10_way 15 = .ok (.aload_n 0, 1) := by decide +kernel
theorem dX10_way_16 : decode cX10_way 16 = .ok (.getfield 29, 3) := by decide +kernel
theorem dX10_way_19 : decode cX10_way 19 = .ok (.invokevirtual 92, 3) := by decide +kernel
theorem dX10_way_22 : decode cX10_way 22 = .ok (.getfield 96, 3) := by decide +kernel
theorem dX10_way_25 : decode cX10_way 25 = .ok (.invokevirtual 99, 3) := by decide +kernel
theorem dX10_way_28 : decode cX10_way 28 = .ok (.aload_n 0, 1) := by decide +kernel
theorem dX10_way_29 : decode cX10_way 29 = .ok (.getfield 25, 3) := by decide +kernel
theorem dX10_way_32 : decode cX10_way 32 = .ok (.aload_n 0, 1) := by decide +kernel
theorem dX10_way_33 : decode cX10_way 33 = .ok (.getfield 68, 3) := by decide +kernel
theorem dX10_way_36 : decode cX10_way 36 = .ok (.iload_n 1, 1) := by decide +kernel
theorem dX10_way_37 : decode cX10_way 37 = .ok (.invokevirtual 86, 3) := by decide +kernel
theorem dX10_way_40 : decode cX10_way 40 = .ok (.ifCond .ne 5, 3) := by decide +kernel
theorem dX10_way_43 : decode cX10_way 43 = .ok (.iconst 0, 1) := by decide +kernel
theorem dX10_way_44 : decode cX10_way 44 = .ok (.ireturn, 1) := by decide +kernel
theorem dX10_way_45 : decode cX10_way 45 = .ok (.aload_n 0, 1) := by decide +kernel
theorem dX10_way_46 : decode cX10_way 46 = .ok (.getfield 29, 3) := by decide +kernel
theorem dX10_way_49 : decode cX10_way 49 = .ok (.invokevirtual 147, 3) := by decide +kernel
theorem dX10_way_52 : decode cX10_way 52 = .ok (.astore_n 2, 1) := by decide +kernel
theorem dX10_way_53 : decode cX10_way 53 = .ok (.aload_n 2, 1) := by decide +kernel
theorem dX10_way_54 : decode cX10_way 54 = .ok (.getfield 96, 3) := by decide +kernel
theorem dX10_way_57 : decode cX10_way 57 = .ok (.aload_n 0, 1) := by decide +kernel
theorem dX10_way_58 : decode cX10_way 58 = .ok (.getfield 68, 3) := by decide +kernel
theorem dX10_way_61 : decode cX10_way 61 = .ok (.invokevirtual 227, 3) := by decide +kernel
theorem dX10_way_64 : decode cX10_way 64 = .ok (.ifCond .ne 25, 3) := by decide +kernel
theorem dX10_way_67 : decode cX10_way 67 = .ok (.aload_n 2, 1) := by decide +kernel
theorem dX10_way_68 : decode cX10_way 68 = .ok (.getfield 96, 3) := by decide +kernel
theorem dX10_way_71 : decode cX10_way 71 = .ok (.aload_n 0, 1) := by decide +kernel
theorem dX10_way_72 : decode cX10_way 72 = .ok (.getfield 68, 3) := by decide +kernel
theorem dX10_way_75 : decode cX10_way 75 = .ok (.invokevirtual 99, 3) := by decide +kernel
theorem dX10_way_78 : decode cX10_way 78 = .ok (.aload_n 2, 1) := by decide +kernel
theorem dX10_way_79 : decode cX10_way 79 = .ok (.getfield 125, 3) := by decide +kernel
theorem dX10_way_82 : decode cX10_way 82 = .ok (.aload_n 2, 1) := by decide +kernel
theorem dX10_way_83 : decode cX10_way 83 = .ok (.getfield 96, 3) := by decide +kernel
theorem dX10_way_86 : decode cX10_way 86 = .ok (.invokevirtual 221, 3) := by decide +kernel
theorem dX10_way_89 : decode cX10_way 89 = .ok (.iconst 1, 1) := by decide +kernel
theorem dX10_way_90 : decode cX10_way 90 = .ok (.ireturn, 1) := by decide +kernel
def wW_X10_way (G : GG) (h0 h1 h2 h3 h4 h5 h6 h7 h8 h9 h10 h11 h12 h13 h14 h15 h16 h17 h18 h19 h20 h21 h22 h23 h24 h25 h26 h27 h28 h29 h30 h31 h32 y0_0 y0_1 y0_4 y0_5 y0_6 y0_7 y0_8 y0_10 : Nat) (x0_11 : Int32) (x0_12 : Int32) (x1_1 : Int32) (a2 : Nat → Int32) (a3 : Nat → Int32) (a4 : Nat → Int32) (a5 : Nat → Int32) (a6 : Nat → Int32) (x7_1 : Int32) (x7_2 : Int32) (a8 : Nat → Option Nat) (x9_0 : Int32) (x9_1 : Int32) (x9_2 : Int32) (a10 : Nat → Int32) (a11 : Nat → Int32) (a12 : Nat → Int32) (x13_0 : Int32) (x13_1 : Int32) (x13_2 : Int32) (a14 : Nat → Int32) (a15 : Nat → Int32) (a16 : Nat → Int32) (a18 : Nat → Int32) (a19 : Nat → Int32) (a20 : Nat → Int32) (a21 : Nat → Int32) (a22 : Nat → Int32) (x23_0 : Int32) (x23_1 : Int32) (x23_2 : Int32) (a24 : Nat → Int32) (a25 : Nat → Int32) (a26 : Nat → Int32) (a28 : Nat → Int32) (a29 : Nat → Int32) (a30 : Nat → Int32) (a31 : Nat → Int32) (a32 : Nat → Int32) : va_W := [(h0, .inr (10, [.ref y0_0, .ref y0_1, .ref h1, .ref h7, .ref y0_4, .ref y0_5, .ref y0_6, .ref y0_7, .ref y0_8, .ref h9, .ref y0_10, .int x0_11, .int x0_12])), (h1, .inr (0, [.ref h2, .int x1_1, .ref h3, .ref h4, .ref h5, .ref h6])), (h2, .inl (G.2.1, 256, .inl a2)), (h3, .inl (G.2.2.1, 256, .inl a3)), (h4, .inl (G.2.2.1, 256, .inl a4)), (h5, .inl (G.2.1, 24, .inl a5)), (h6, .inl (G.2.1, 8, .inl a6)), (h7, .inr (8, [.ref h8, .int x7_1, .int x7_2])), (h8, .inl (G.2.2.2.2.1, 13, .inr (.inr (.inr (.inr a8))))), (h9, .inr (1, [.int x9_0, .int x9_1, .int x9_2, .ref h10, .ref h11, .ref h12])), (h10, .inl (G.2.1, 32, .inl a10)), (h11, .inl (G.2.1, 256, .inl a11)), (h12, .inl (G.2.1, 256, .inl a12)), (h13, .inr (1, [.int x13_0, .int x13_1, .int x13_2, .ref h14, .ref h15, .ref h16])), (h14, .inl (G.2.1, 32, .inl a14)), (h15, .inl (G.2.1, 256, .inl a15)), (h16, .inl (G.2.1, 256, .inl a16)), (h17, .inr (9, [.ref h18, .ref h19, .ref h20, .ref h21, .ref h22])), (h18, .inl (G.2.1, 16, .inl a18)), (h19, .inl (G.2.1, 16, .inl a19)), (h20, .inl (G.2.1, 16, .inl a20)), (h21, .inl (G.2.1, 16, .inl a21)), (h22, .inl (G.2.1, 8, .inl a22)), (h23, .inr (1, [.int x23_0, .int x23_1, .int x23_2, .ref h24, .ref h25, .ref h26])), (h24, .inl (G.2.1, 32, .inl a24)), (h25, .inl (G.2.1, 256, .inl a25)), (h26, .inl (G.2.1, 256, .inl a26)), (h27, .inr (9, [.ref h28, .ref h29, .ref h30, .ref h31, .ref h32])), (h28, .inl (G.2.1, 16, .inl a28)), (h29, .inl (G.2.1, 16, .inl a29)), (h30, .inl (G.2.1, 16, .inl a30)), (h31, .inl (G.2.1, 16, .inl a31)), (h32, .inl (G.2.1, 8, .inl a32))]
set_option maxHeartbeats 4000000 in
set_option maxRecDepth 100000 in
theorem c_X10_way (l : Launch) (G : GG) (h0 h1 h2 h3 h4 h5 h6 h7 h8 h9 h10 h11 h12 h13 h14 h15 h16 h17 h18 h19 h20 h21 h22 h23 h24 h25 h26 h27 h28 h29 h30 h31 h32 y0_0 y0_1 y0_4 y0_5 y0_6 y0_7 y0_8 y0_10 g_cur g_nxt : Nat) (sz : Nat) (x0_11 : Int32) (x0_12 : Int32) (x1_1 : Int32) (a2 : Nat → Int32) (a3 : Nat → Int32) (a4 : Nat → Int32) (a5 : Nat → Int32) (a6 : Nat → Int32) (x7_1 : Int32) (x7_2 : Int32) (a8 : Nat → Option Nat) (x9_0 : Int32) (x9_1 : Int32) (x9_2 : Int32) (a10 : Nat → Int32) (a11 : Nat → Int32) (a12 : Nat → Int32) (x13_0 : Int32) (x13_1 : Int32) (x13_2 : Int32) (a14 : Nat → Int32) (a15 : Nat → Int32) (a16 : Nat → Int32) (a18 : Nat → Int32) (a19 : Nat → Int32) (a20 : Nat → Int32) (a21 : Nat → Int32) (a22 : Nat → Int32) (x23_0 : Int32) (x23_1 : Int32) (x23_2 : Int32) (a24 : Nat → Int32) (a25 : Nat → Int32) (a26 : Nat → Int32) (a28 : Nat → Int32) (a29 : Nat → Int32) (a30 : Nat → Int32) (a31 : Nat → Int32) (a32 : Nat → Int32) (F : Nat) (b1 : Int32) (hq_cur : (g_cur, h13, h17) ∈ gS G) (hq_nxt : (g_nxt, h23, h27) ∈ gS G) (hall : stAll G a8)  (r0 : Int32) (e_x1_1 : Int32) (e_a2 : Nat → Int32) (e_a3 : Nat → Int32) (e_a4 : Nat → Int32) (e_a5 : Nat → Int32) (e_a6 : Nat → Int32) (e_x7_1 : Int32) (e_x7_2 : Int32) (e_a8 : Nat → Option Nat) (e_x9_0 : Int32) (e_x9_1 : Int32) (e_x9_2 : Int32) (e_a10 : Nat → Int32) (e_a11 : Nat → Int32) (e_a12 : Nat → Int32) (e_x23_0 : Int32) (e_x23_1 : Int32) (e_x23_2 : Int32) (e_a24 : Nat → Int32) (e_a25 : Nat → Int32) (e_a26 : Nat → Int32) (e_a28 : Nat → Int32) (e_a29 : Nat → Int32) (e_a30 : Nat → Int32) (e_a31 : Nat → Int32) (e_a32 : Nat → Int32) (hf : p_X10_way F g_cur g_nxt x1_1 a2 a3 a4 a5 a6 x7_1 x7_2 a8 x9_0 x9_1 x9_2 a10 a11 a12 x13_0 x13_1 x13_2 a14 a15 a16 a18 a19 a20 a21 a22 x23_0 x23_1 x23_2 a24 a25 a26 a28 a29 a30 a31 a32 b1 = some (r0, e_x1_1, e_a2, e_a3, e_a4, e_a5, e_a6, e_x7_1, e_x7_2, e_a8, e_x9_0, e_x9_1, e_x9_2, e_a10, e_a11, e_a12, e_x23_0, e_x23_1, e_x23_2, e_a24, e_a25, e_a26, e_a28, e_a29, e_a30, e_a31, e_a32)) : Met l yX10_way (.code yX10_way cX10_way 3 (some .boolean) :: gtbl) ({ frames := 5, cells := 0, slots := 0, locals := 115 } : Room) (PcS G [.ref h0, .int b1] (wW_X10_way G h0 h1 h2 h3 h4 h5 h6 h7 h8 h9 h10 h11 h12 h13 h14 h15 h16 h17 h18 h19 h20 h21 h22 h23 h24 h25 h26 h27 h28 h29 h30 h31 h32 y0_0 y0_1 y0_4 y0_5 y0_6 y0_7 y0_8 y0_10 x0_11 x0_12 x1_1 a2 a3 a4 a5 a6 x7_1 x7_2 a8 x9_0 x9_1 x9_2 a10 a11 a12 x13_0 x13_1 x13_2 a14 a15 a16 a18 a19 a20 a21 a22 x23_0 x23_1 x23_2 a24 a25 a26 a28 a29 a30 a31 a32) sz) (QiS G r0 (va_A (wW_X10_way G h0 h1 h2 h3 h4 h5 h6 h7 h8 h9 h10 h11 h12 h13 h14 h15 h16 h17 h18 h19 h20 h21 h22 h23 h24 h25 h26 h27 h28 h29 h30 h31 h32 y0_0 y0_1 y0_4 y0_5 y0_6 y0_7 y0_8 y0_10 x0_11 x0_12 x1_1 a2 a3 a4 a5 a6 x7_1 x7_2 a8 x9_0 x9_1 x9_2 a10 a11 a12 x13_0 x13_1 x13_2 a14 a15 a16 a18 a19 a20 a21 a22 x23_0 x23_1 x23_2 a24 a25 a26 a28 a29 a30 a31 a32) sz) (wW_X10_way G h0 h1 h2 h3 h4 h5 h6 h7 h8 h9 h10 h11 h12 h13 h14 h15 h16 h17 h18 h19 h20 h21 h22 h23 h24 h25 h26 h27 h28 h29 h30 h31 h32 y0_0 y0_1 y0_4 y0_5 y0_6 y0_7 y0_8 y0_10 x0_11 x0_12 e_x1_1 e_a2 e_a3 e_a4 e_a5 e_a6 e_x7_1 e_x7_2 e_a8 e_x9_0 e_x9_1 e_x9_2 e_a10 e_a11 e_a12 x13_0 x13_1 x13_2 a14 a15 a16 a18 a19 a20 a21 a22 e_x23_0 e_x23_1 e_x23_2 e_a24 e_a25 e_a26 e_a28 e_a29 e_a30 e_a31 e_a32)) 0 0 (va_A (wW_X10_way G h0 h1 h2 h3 h4 h5 h6 h7 h8 h9 h10 h11 h12 h13 h14 h15 h16 h17 h18 h19 h20 h21 h22 h23 h24 h25 h26 h27 h28 h29 h30 h31 h32 y0_0 y0_1 y0_4 y0_5 y0_6 y0_7 y0_8 y0_10 x0_11 x0_12 x1_1 a2 a3 a4 a5 a6 x7_1 x7_2 a8 x9_0 x9_1 x9_2 a10 a11 a12 x13_0 x13_1 x13_2 a14 a15 a16 a18 a19 a20 a21 a22 x23_0 x23_1 x23_2 a24 a25 a26 a28 a29 a30 a31 a32) sz) := by
  refine met_start (by decide) (Nat.le_of_ble_eq_true rfl) ?_
  intro p e s m below meth c hC hr hlk hnm hK hP hD hA hS hX ls hl
  obtain ⟨hx, hb, hml, hown, ht0⟩ := hC
  have hown : s.vm.findClass RX10 = some m.cls := hown
  generalize va_A (wW_X10_way G h0 h1 h2 h3 h4 h5 h6 h7 h8 h9 h10 h11 h12 h13 h14 h15 h16 h17 h18 h19 h20 h21 h22 h23 h24 h25 h26 h27 h28 h29 h30 h31 h32 y0_0 y0_1 y0_4 y0_5 y0_6 y0_7 y0_8 y0_10 x0_11 x0_12 x1_1 a2 a3 a4 a5 a6 x7_1 x7_2 a8 x9_0 x9_1 x9_2 a10 a11 a12 x13_0 x13_1 x13_2 a14 a15 a16 a18 a19 a20 a21 a22 x23_0 x23_1 x23_2 a24 a25 a26 a28 a29 a30 a31 a32) sz = A at hD hA hS hX ⊢
  have hl : lv_has ls 3 [(0, .ref h0), (1, .int b1)] := hl
  have hf : p_X10_way F g_cur g_nxt x1_1 a2 a3 a4 a5 a6 x7_1 x7_2 a8 x9_0 x9_1 x9_2 a10 a11 a12 x13_0 x13_1 x13_2 a14 a15 a16 a18 a19 a20 a21 a22 x23_0 x23_1 x23_2 a24 a25 a26 a28 a29 a30 a31 a32 b1 = some (r0, e_x1_1, e_a2, e_a3, e_a4, e_a5, e_a6, e_x7_1, e_x7_2, e_a8, e_x9_0, e_x9_1, e_x9_2, e_a10, e_a11, e_a12, e_x23_0, e_x23_1, e_x23_2, e_a24, e_a25, e_a26, e_a28, e_a29, e_a30, e_a31, e_a32) := hf
  refine lv_iload_n hx hb dX10_way_0 rfl (lv_at hl 1 rfl) ?_
  refine lv_if_lt (tgt := 9) hx hb dX10_way_1 (by decide) (fun c1 => ?_) (fun c1 => ?_)
  · have hf := of_pos hf c1
    refine lv_iconst (v := (0 : Int32)) hx hb dX10_way_9 (by decide) ?_
    cases hf
    exact ret_z hx hb hr hlk hK hP hD hS (by decide) dX10_way_10
  · have hf := of_neg hf c1
    refine lv_iload_n hx hb dX10_way_4 rfl (lv_at hl 1 rfl) ?_
    refine lv_iconst (v := (2 : Int32)) hx hb dX10_way_5 (by decide) ?_
    refine lv_icmp_le (tgt := 11) hx hb dX10_way_6 (by decide) (fun c2 => ?_) (fun c2 => ?_)
    · have hf := of_pos hf c2
      refine lv_aload_n hx hb dX10_way_11 rfl (lv_at hl 0 rfl) ?_
      refine va_get (ci := 10) (v := .ref h9) (C := RX10) (T := TX10) (N := 13) hx hb ht0 iX10 hown hK hP 0 rfl rfl 9 (by decide) (ht0 _ wd_549) (fun _ h9 => h9) rfl dX10_way_12 ?_
      refine lv_aload_n hx hb dX10_way_15 rfl (lv_at hl 0 rfl) ?_
      refine va_get (ci := 10) (v := .ref h7) (C := RX10) (T := TX10) (N := 13) hx hb ht0 iX10 hown hK hP 0 rfl rfl 3 (by decide) (ht0 _ wd_543) (fun _ h9 => h9) rfl dX10_way_16 ?_
      obtain ⟨_, hc_r_19_2, hf⟩ := of_bnd hf
      refine cl_Vr (w2 := (wW_X10_way G h0 h1 h2 h3 h4 h5 h6 h7 h8 h9 h10 h11 h12 h13 h14 h15 h16 h17 h18 h19 h20 h21 h22 h23 h24 h25 h26 h27 h28 h29 h30 h31 h32 y0_0 y0_1 y0_4 y0_5 y0_6 y0_7 y0_8 y0_10 x0_11 x0_12 x1_1 a2 a3 a4 a5 a6 x7_1 x7_2 a8 x9_0 x9_1 x9_2 a10 a11 a12 x13_0 x13_1 x13_2 a14 a15 a16 a18 a19 a20 a21 a22 x23_0 x23_1 x23_2 a24 a25 a26 a28 a29 a30 a31 a32)) (As := []) (rest := [.ref h9]) ⟨hx, hb, hml, hown, ht0⟩ (c_X8_now l G h7 h8 g_cur h13 h17 _ x7_1 x7_2 a8 F hq_cur hc_r_19_2) yk_X8_now wd_531 ⟨rfl, rfl, by decide, by decide⟩ ⟨Nat.le_refl _, Nat.le_refl _⟩ hX hK hP hD hS hA [7, 8] [0, 1, 2, 3, 4, 5, 6, 9, 10, 11, 12, 13, 14, 15, 16, 17, 18, 19, 20, 21, 22, 23, 24, 25, 26, 27, 28, 29, 30, 31, 32] [0, 1, 2, 3, 4, 5, 6, 31, 32, 7, 8, 9, 10, 11, 12, 13, 14, 15, 16, 17, 18, 19, 20, 21, 22, 23, 24, 25, 26, 27, 28, 29, 30] (va_recv hK hP (ci := 8) (q0 := 7) rfl rfl) rfl rfl (by decide) rfl rfl rfl rfl rfl hl.1 rfl (Nat.le_of_ble_eq_true rfl) dX10_way_19 (fun H locs hP hD hS => ?_)
      refine vk_getf hx hb (hX.2.2 _ hq_cur).2.1 hS hown (ht0 _ wd_342) (fun _ h => h) dX10_way_22 ?_
      obtain ⟨⟨r_25_3_x0_0, r_25_3_x0_1, r_25_3_x0_2, r_25_3_a1, r_25_3_a2, r_25_3_a3⟩, hc_r_25_3, hf⟩ := of_bnd hf
      refine cl_Vv (w2 := (wW_X10_way G h0 h1 h2 h3 h4 h5 h6 h7 h8 h9 h10 h11 h12 h13 h14 h15 h16 h17 h18 h19 h20 h21 h22 h23 h24 h25 h26 h27 h28 h29 h30 h31 h32 y0_0 y0_1 y0_4 y0_5 y0_6 y0_7 y0_8 y0_10 x0_11 x0_12 x1_1 a2 a3 a4 a5 a6 x7_1 x7_2 a8 r_25_3_x0_0 r_25_3_x0_1 r_25_3_x0_2 r_25_3_a1 r_25_3_a2 r_25_3_a3 x13_0 x13_1 x13_2 a14 a15 a16 a18 a19 a20 a21 a22 x23_0 x23_1 x23_2 a24 a25 a26 a28 a29 a30 a31 a32)) (As := [.ref h13]) (rest := []) ⟨hx, hb, hml, hown, ht0⟩ (c_X1_copyFrom l G h9 h10 h11 h12 h13 h14 h15 h16 _ x9_0 x9_1 x9_2 a10 a11 a12 x13_0 x13_1 x13_2 a14 a15 a16 F _ _ _ _ _ _ hc_r_25_3) yk_X1_copyFrom wd_535 ⟨rfl, rfl, by decide, by decide⟩ ⟨Nat.le_refl _, Nat.le_refl _⟩ hX hK hP hD hS hA [9, 10, 11, 12, 13, 14, 15, 16] [0, 1, 2, 3, 4, 5, 6, 7, 8, 17, 18, 19, 20, 21, 22, 23, 24, 25, 26, 27, 28, 29, 30, 31, 32] [0, 1, 2, 3, 4, 5, 6, 7, 8, 25, 26, 27, 28, 29, 30, 31, 32, 9, 10, 11, 12, 13, 14, 15, 16, 17, 18, 19, 20, 21, 22, 23, 24] (va_recv hK hP (ci := 1) (q0 := 9) rfl rfl) rfl rfl (by decide) rfl rfl rfl rfl rfl hl.1 rfl (Nat.le_of_ble_eq_true rfl) dX10_way_25 (fun H locs hP hD hS => ?_)
      refine lv_aload_n hx hb dX10_way_28 rfl (lv_at hl 0 rfl) ?_
      refine va_get (ci := 10) (v := .ref h1) (C := RX10) (T := TX10) (N := 13) hx hb ht0 iX10 hown hK hP 0 rfl rfl 2 (by decide) (ht0 _ wd_542) (fun _ h9 => h9) rfl dX10_way_29 ?_
      refine lv_aload_n hx hb dX10_way_32 rfl (lv_at hl 0 rfl) ?_
      refine va_get (ci := 10) (v := .ref h9) (C := RX10) (T := TX10) (N := 13) hx hb ht0 iX10 hown hK hP 0 rfl rfl 9 (by decide) (ht0 _ wd_549) (fun _ h9 => h9) rfl dX10_way_33 ?_
      refine lv_iload_n hx hb dX10_way_36 rfl (lv_at hl 1 rfl) ?_
      obtain ⟨⟨r_37_4, r_37_4_x0_1, r_37_4_a1, r_37_4_a2, r_37_4_a3, r_37_4_a4, r_37_4_a5, r_37_4_a7, r_37_4_a8, r_37_4_a9⟩, hc_r_37_4, hf⟩ := of_bnd hf
      refine cl_Vi (w2 := (wW_X10_way G h0 h1 h2 h3 h4 h5 h6 h7 h8 h9 h10 h11 h12 h13 h14 h15 h16 h17 h18 h19 h20 h21 h22 h23 h24 h25 h26 h27 h28 h29 h30 h31 h32 y0_0 y0_1 y0_4 y0_5 y0_6 y0_7 y0_8 y0_10 x0_11 x0_12 r_37_4_x0_1 r_37_4_a1 r_37_4_a2 r_37_4_a3 r_37_4_a4 r_37_4_a5 x7_1 x7_2 a8 r_25_3_x0_0 r_25_3_x0_1 r_25_3_x0_2 r_37_4_a7 r_37_4_a8 r_37_4_a9 x13_0 x13_1 x13_2 a14 a15 a16 a18 a19 a20 a21 a22 x23_0 x23_1 x23_2 a24 a25 a26 a28 a29 a30 a31 a32)) (As := [.ref h9, .int b1]) (rest := []) ⟨hx, hb, hml, hown, ht0⟩ (c_X0_chooseColumns l G h1 h2 h3 h4 h5 h6 h9 h10 h11 h12 _ x1_1 a2 a3 a4 a5 a6 r_25_3_x0_0 r_25_3_x0_1 r_25_3_x0_2 r_25_3_a1 r_25_3_a2 r_25_3_a3 F b1 _ _ _ _ _ _ _ _ _ _ hc_r_37_4) yk_X0_chooseColumns wd_458 ⟨rfl, rfl, by decide, by decide⟩ ⟨Nat.le_refl _, Nat.le_refl _⟩ hX hK hP hD hS hA [1, 2, 3, 4, 5, 6, 9, 10, 11, 12] [0, 7, 8, 13, 14, 15, 16, 17, 18, 19, 20, 21, 22, 23, 24, 25, 26, 27, 28, 29, 30, 31, 32] [0, 23, 24, 25, 26, 27, 28, 1, 2, 29, 30, 31, 32, 3, 4, 5, 6, 7, 8, 9, 10, 11, 12, 13, 14, 15, 16, 17, 18, 19, 20, 21, 22] (va_recv hK hP (ci := 0) (q0 := 1) rfl rfl) rfl rfl (by decide) rfl rfl rfl rfl rfl hl.1 rfl (Nat.le_of_ble_eq_true rfl) dX10_way_37 (fun H locs hP hD hS => ?_)
      refine lv_if_ne (tgt := 45) hx hb dX10_way_40 (by decide) (fun c6 => ?_) (fun c6 => ?_)
      · have hf := of_neg hf c6
        refine lv_aload_n hx hb dX10_way_45 rfl (lv_at hl 0 rfl) ?_
        refine va_get (ci := 10) (v := .ref h7) (C := RX10) (T := TX10) (N := 13) hx hb ht0 iX10 hown hK hP 0 rfl rfl 3 (by decide) (ht0 _ wd_543) (fun _ h9 => h9) rfl dX10_way_46 ?_
        obtain ⟨⟨r_49_6_x0_1, r_49_6_x0_2, r_49_6_a1, r_49_6_x12_0, r_49_6_x12_1, r_49_6_x12_2, r_49_6_a13, r_49_6_a14, r_49_6_a15, r_49_6_a17, r_49_6_a18, r_49_6_a19, r_49_6_a20, r_49_6_a21⟩, hc_r_49_6, hf⟩ := of_bnd hf
        refine cl_Vr (w2 := (wW_X10_way G h0 h1 h2 h3 h4 h5 h6 h7 h8 h9 h10 h11 h12 h13 h14 h15 h16 h17 h18 h19 h20 h21 h22 h23 h24 h25 h26 h27 h28 h29 h30 h31 h32 y0_0 y0_1 y0_4 y0_5 y0_6 y0_7 y0_8 y0_10 x0_11 x0_12 r_37_4_x0_1 r_37_4_a1 r_37_4_a2 r_37_4_a3 r_37_4_a4 r_37_4_a5 r_49_6_x0_1 r_49_6_x0_2 r_49_6_a1 r_25_3_x0_0 r_25_3_x0_1 r_25_3_x0_2 r_37_4_a7 r_37_4_a8 r_37_4_a9 x13_0 x13_1 x13_2 a14 a15 a16 a18 a19 a20 a21 a22 r_49_6_x12_0 r_49_6_x12_1 r_49_6_x12_2 r_49_6_a13 r_49_6_a14 r_49_6_a15 r_49_6_a17 r_49_6_a18 r_49_6_a19 r_49_6_a20 r_49_6_a21)) (As := []) (rest := []) ⟨hx, hb, hml, hown, ht0⟩ (c_X8_beginAct l G h7 h8 h13 h14 h15 h16 h17 h18 h19 h20 h21 h22 h23 h24 h25 h26 h27 h28 h29 h30 h31 h32 g_cur g_nxt _ x7_1 x7_2 a8 x13_0 x13_1 x13_2 a14 a15 a16 a18 a19 a20 a21 a22 x23_0 x23_1 x23_2 a24 a25 a26 a28 a29 a30 a31 a32 F hq_cur hq_nxt hall _ _ _ _ _ _ _ _ _ _ _ _ _ _ hc_r_49_6) yk_X8_beginAct wd_798 ⟨rfl, rfl, by decide, by decide⟩ ⟨Nat.le_refl _, Nat.le_refl _⟩ hX hK hP hD hS hA [7, 8, 13, 14, 15, 16, 17, 18, 19, 20, 21, 22, 23, 24, 25, 26, 27, 28, 29, 30, 31, 32] [0, 1, 2, 3, 4, 5, 6, 9, 10, 11, 12] [0, 1, 2, 3, 4, 5, 6, 11, 12, 7, 8, 9, 10, 13, 14, 15, 16, 17, 18, 19, 20, 21, 22, 23, 24, 25, 26, 27, 28, 29, 30, 31, 32] (va_recv hK hP (ci := 8) (q0 := 7) rfl rfl) rfl rfl (by decide) rfl rfl rfl rfl rfl hl.1 rfl (Nat.le_of_ble_eq_true rfl) dX10_way_49 (fun H locs hP hD hS => ?_)
        refine lv_astore_n (lv' := [(2, .ref g_nxt), (0, .ref h0), (1, .int b1)]) hx hb dX10_way_52 rfl hl (by decide) rfl (fun ls hl => ?_)
        refine lv_aload_n hx hb dX10_way_53 rfl (lv_at hl 0 rfl) ?_
        refine vk_getf hx hb (hX.2.2 _ hq_nxt).2.1 hS hown (ht0 _ wd_342) (fun _ h => h) dX10_way_54 ?_
        refine lv_aload_n hx hb dX10_way_57 rfl (lv_at hl 1 rfl) ?_
        refine va_get (ci := 10) (v := .ref h9) (C := RX10) (T := TX10) (N := 13) hx hb ht0 iX10 hown hK hP 0 rfl rfl 9 (by decide) (ht0 _ wd_549) (fun _ h9 => h9) rfl dX10_way_58 ?_
        obtain ⟨r_61_7, hc_r_61_7, hf⟩ := of_bnd hf
        refine cl_Vi (w2 := (wW_X10_way G h0 h1 h2 h3 h4 h5 h6 h7 h8 h9 h10 h11 h12 h13 h14 h15 h16 h17 h18 h19 h20 h21 h22 h23 h24 h25 h26 h27 h28 h29 h30 h31 h32 y0_0 y0_1 y0_4 y0_5 y0_6 y0_7 y0_8 y0_10 x0_11 x0_12 r_37_4_x0_1 r_37_4_a1 r_37_4_a2 r_37_4_a3 r_37_4_a4 r_37_4_a5 r_49_6_x0_1 r_49_6_x0_2 r_49_6_a1 r_25_3_x0_0 r_25_3_x0_1 r_25_3_x0_2 r_37_4_a7 r_37_4_a8 r_37_4_a9 x13_0 x13_1 x13_2 a14 a15 a16 a18 a19 a20 a21 a22 r_49_6_x12_0 r_49_6_x12_1 r_49_6_x12_2 r_49_6_a13 r_49_6_a14 r_49_6_a15 r_49_6_a17 r_49_6_a18 r_49_6_a19 r_49_6_a20 r_49_6_a21)) (As := [.ref h9]) (rest := []) ⟨hx, hb, hml, hown, ht0⟩ (c_X1_hasColumnsOf l G h23 h24 h9 h10 h25 h26 h11 h12 _ r_49_6_x12_0 r_49_6_x12_1 r_49_6_x12_2 r_49_6_a13 r_25_3_x0_0 r_25_3_x0_1 r_25_3_x0_2 r_37_4_a7 F _ hc_r_61_7) yk_X1_hasColumnsOf wd_975 ⟨rfl, rfl, by decide, by decide⟩ ⟨Nat.le_refl _, Nat.le_refl _⟩ hX hK hP hD hS hA [23, 24, 9, 10] [0, 1, 2, 3, 4, 5, 6, 7, 8, 11, 12, 13, 14, 15, 16, 17, 18, 19, 20, 21, 22, 25, 26, 27, 28, 29, 30, 31, 32] [0, 1, 2, 3, 4, 5, 6, 7, 8, 31, 32, 9, 10, 11, 12, 13, 14, 15, 16, 17, 18, 19, 20, 29, 30, 21, 22, 23, 24, 25, 26, 27, 28] (va_recv hK hP (ci := 1) (q0 := 23) rfl rfl) rfl rfl (by decide) rfl rfl rfl rfl rfl hl.1 rfl (Nat.le_of_ble_eq_true rfl) dX10_way_61 (fun H locs hP hD hS => ?_)
        refine lv_if_ne (tgt := 89) hx hb dX10_way_64 (by decide) (fun c9 => ?_) (fun c9 => ?_)
        · have hf := of_neg hf c9
          refine lv_iconst (v := (1 : Int32)) hx hb dX10_way_89 (by decide) ?_
          cases hf
          exact ret_z hx hb hr hlk hK hP hD hS (by decide) dX10_way_90
        · have hf := of_pos hf c9
          refine lv_aload_n hx hb dX10_way_67 rfl (lv_at hl 0 rfl) ?_
          refine vk_getf hx hb (hX.2.2 _ hq_nxt).2.1 hS hown (ht0 _ wd_342) (fun _ h => h) dX10_way_68 ?_
          refine lv_aload_n hx hb dX10_way_71 rfl (lv_at hl 1 rfl) ?_
          refine va_get (ci := 10) (v := .ref h9) (C := RX10) (T := TX10) (N := 13) hx hb ht0 iX10 hown hK hP 0 rfl rfl 9 (by decide) (ht0 _ wd_549) (fun _ h9 => h9) rfl dX10_way_72 ?_
          obtain ⟨⟨r_75_9_x0_0, r_75_9_x0_1, r_75_9_x0_2, r_75_9_a1, r_75_9_a2, r_75_9_a3⟩, hc_r_75_9, hf⟩ := of_bnd hf
          refine cl_Vv (w2 := (wW_X10_way G h0 h1 h2 h3 h4 h5 h6 h7 h8 h9 h10 h11 h12 h13 h14 h15 h16 h17 h18 h19 h20 h21 h22 h23 h24 h25 h26 h27 h28 h29 h30 h31 h32 y0_0 y0_1 y0_4 y0_5 y0_6 y0_7 y0_8 y0_10 x0_11 x0_12 r_37_4_x0_1 r_37_4_a1 r_37_4_a2 r_37_4_a3 r_37_4_a4 r_37_4_a5 r_49_6_x0_1 r_49_6_x0_2 r_49_6_a1 r_25_3_x0_0 r_25_3_x0_1 r_25_3_x0_2 r_37_4_a7 r_37_4_a8 r_37_4_a9 x13_0 x13_1 x13_2 a14 a15 a16 a18 a19 a20 a21 a22 r_75_9_x0_0 r_75_9_x0_1 r_75_9_x0_2 r_75_9_a1 r_75_9_a2 r_75_9_a3 r_49_6_a17 r_49_6_a18 r_49_6_a19 r_49_6_a20 r_49_6_a21)) (As := [.ref h9]) (rest := []) ⟨hx, hb, hml, hown, ht0⟩ (c_X1_copyFrom l G h23 h24 h25 h26 h9 h10 h11 h12 _ r_49_6_x12_0 r_49_6_x12_1 r_49_6_x12_2 r_49_6_a13 r_49_6_a14 r_49_6_a15 r_25_3_x0_0 r_25_3_x0_1 r_25_3_x0_2 r_37_4_a7 r_37_4_a8 r_37_4_a9 F _ _ _ _ _ _ hc_r_75_9) yk_X1_copyFrom wd_535 ⟨rfl, rfl, by decide, by decide⟩ ⟨Nat.le_refl _, Nat.le_refl _⟩ hX hK hP hD hS hA [23, 24, 25, 26, 9, 10, 11, 12] [0, 1, 2, 3, 4, 5, 6, 7, 8, 13, 14, 15, 16, 17, 18, 19, 20, 21, 22, 27, 28, 29, 30, 31, 32] [0, 1, 2, 3, 4, 5, 6, 7, 8, 29, 30, 31, 32, 9, 10, 11, 12, 13, 14, 15, 16, 17, 18, 25, 26, 27, 28, 19, 20, 21, 22, 23, 24] (va_recv hK hP (ci := 1) (q0 := 23) rfl rfl) rfl rfl (by decide) rfl rfl rfl rfl rfl hl.1 rfl (Nat.le_of_ble_eq_true rfl) dX10_way_75 (fun H locs hP hD hS => ?_)
          refine lv_aload_n hx hb dX10_way_78 rfl (lv_at hl 0 rfl) ?_
          refine vk_getf hx hb (hX.2.2 _ hq_nxt).2.2 hS hown (ht0 _ wd_344) (fun _ h => h) dX10_way_79 ?_
          refine lv_aload_n hx hb dX10_way_82 rfl (lv_at hl 0 rfl) ?_
          refine vk_getf hx hb (hX.2.2 _ hq_nxt).2.1 hS hown (ht0 _ wd_342) (fun _ h => h) dX10_way_83 ?_
          obtain ⟨⟨r_86_10_a1, r_86_10_a2, r_86_10_a4⟩, hc_r_86_10, hf⟩ := of_bnd hf
          refine cl_Vv (w2 := (wW_X10_way G h0 h1 h2 h3 h4 h5 h6 h7 h8 h9 h10 h11 h12 h13 h14 h15 h16 h17 h18 h19 h20 h21 h22 h23 h24 h25 h26 h27 h28 h29 h30 h31 h32 y0_0 y0_1 y0_4 y0_5 y0_6 y0_7 y0_8 y0_10 x0_11 x0_12 r_37_4_x0_1 r_37_4_a1 r_37_4_a2 r_37_4_a3 r_37_4_a4 r_37_4_a5 r_49_6_x0_1 r_49_6_x0_2 r_49_6_a1 r_25_3_x0_0 r_25_3_x0_1 r_25_3_x0_2 r_37_4_a7 r_37_4_a8 r_37_4_a9 x13_0 x13_1 x13_2 a14 a15 a16 a18 a19 a20 a21 a22 r_75_9_x0_0 r_75_9_x0_1 r_75_9_x0_2 r_75_9_a1 r_75_9_a2 r_75_9_a3 r_86_10_a1 r_86_10_a2 r_49_6_a19 r_86_10_a4 r_49_6_a21)) (As := [.ref h23]) (rest := []) ⟨hx, hb, hml, hown, ht0⟩ (c_X9_writeAllAnew l G h27 h28 h29 h30 h31 h23 h24 h32 h25 h26 _ r_49_6_a17 r_49_6_a18 r_49_6_a19 r_49_6_a20 r_75_9_x0_0 r_75_9_x0_1 r_75_9_x0_2 r_75_9_a1 F _ _ _ hc_r_86_10) yk_X9_writeAllAnew wd_959 ⟨rfl, rfl, by decide, by decide⟩ ⟨Nat.le_refl _, Nat.le_refl _⟩ hX hK hP hD hS hA [27, 28, 29, 30, 31, 23, 24] [0, 1, 2, 3, 4, 5, 6, 7, 8, 9, 10, 11, 12, 13, 14, 15, 16, 17, 18, 19, 20, 21, 22, 25, 26, 32] [0, 1, 2, 3, 4, 5, 6, 7, 8, 9, 10, 11, 12, 13, 14, 15, 16, 17, 18, 19, 20, 21, 22, 31, 32, 23, 24, 26, 27, 28, 29, 30, 25] (va_recv hK hP (ci := 9) (q0 := 27) rfl rfl) rfl rfl (by decide) rfl rfl rfl rfl rfl hl.1 rfl (Nat.le_of_ble_eq_true rfl) dX10_way_86 (fun H locs hP hD hS => ?_)
          refine lv_iconst (v := (1 : Int32)) hx hb dX10_way_89 (by decide) ?_
          cases hf
          exact ret_z hx hb hr hlk hK hP hD hS (by decide) dX10_way_90
      · have hf := of_pos hf c6
        refine lv_iconst (v := (0 : Int32)) hx hb dX10_way_43 (by decide) ?_
        cases hf
        exact ret_z hx hb hr hlk hK hP hD hS (by decide) dX10_way_44
    · have hf := of_neg hf c2
      refine lv_iconst (v := (0 : Int32)) hx hb dX10_way_9 (by decide) ?_
      cases hf
      exact ret_z hx hb hr hlk hK hP hD hS (by decide) dX10_way_10
theorem yk_X10_way : ykV yX10_way RX10 cX10_way 3 (some .boolean) 1 := ⟨wd_972, wd_973, wd_127, wd_974, rfl, by decide +kernel, by decide +kernel, by decide +kernel⟩
theorem dX10_pairs_0 : decode cX10_pairs 0 = .ok (.aload_n 0, 1) := by decide +kernel
theorem dX10_pairs_1 : decode cX10_pairs 1 = .ok (.getfield 29, 3) := by decide +kernel
theorem dX10_pairs_4 : decode cX10_pairs 4 = .ok (.invokevirtual 92, 3) := by decide +kernel
theorem dX10_pairs_7 : decode cX10_pairs 7 = .ok (.getfield 96, 3) := by decide +kernel
theorem dX10_pairs_10 : decode cX10_pairs 10 = .ok (.getfield 231, 3) := by decide +kernel
theorem dX10_pairs_13 : decode cX10_pairs 13 = .ok (.iload_n 1, 1) := by decide +kernel
theorem dX10_pairs_14 : decode cX10_pairs 14 = .ok (.if_icmp .ne 5, 3) := by decide +kernel
theorem dX10_pairs_17 : decode cX10_pairs 17 = .ok (.iconst 0, 1) := by decide +kernel
theorem dX10_pairs_18 : decode cX10_pairs 18 = .ok (.ireturn, 1) := by decide +kernel
theorem dX10_pairs_19 : decode cX10_pairs 19 = .ok (.aload_n 0, 1) := by decide +kernel
theorem dX10_pairs_20 : decode cX10_pairs 20 = .ok (.getfield 29, 3) := by decide +kernel
theorem dX10_pairs_23 : decode cX10_pairs 23 = .ok (.invokevirtual 147, 3) := by decide +kernel
theorem dX10_pairs_26 : decode cX10_pairs 26 = .ok (.getfield 96, 3) := by decide +kernel
theorem dX10_pairs_29 : decode cX10_pairs 29 = .ok (.iload_n 1, 1) := by decide +kernel
theorem dX10_pairs_30 : decode cX10_pairs 30 = .ok (.putfield 231, 3) := by decide +kernel
theorem dX10_pairs_33 : decode cX10_pairs 33 = .ok (.iconst 1, 1) := by decide +kernel
theorem dX10_pairs_34 : decode cX10_pairs 34 = .ok (.ireturn, 1) := by decide +kernel
def wW_X10_pairs (G : GG) (h0 h1 h2 h3 h4 h5 h6 h7 h8 h9 h10 h11 h12 h13 h14 h15 h16 h17 h18 h19 h20 h21 h22 y0_0 y0_1 y0_2 y0_4 y0_5 y0_6 y0_7 y0_8 y0_9 y0_10 : Nat) (x0_11 : Int32) (x0_12 : Int32) (x1_1 : Int32) (x1_2 : Int32) (a2 : Nat → Option Nat) (x3_0 : Int32) (x3_1 : Int32) (x3_2 : Int32) (a4 : Nat → Int32) (a5 : Nat → Int32) (a6 : Nat → Int32) (a8 : Nat → Int32) (a9 : Nat → Int32) (a10 : Nat → Int32) (a11 : Nat → Int32) (a12 : Nat → Int32) (x13_0 : Int32) (x13_1 : Int32) (x13_2 : Int32) (a14 : Nat → Int32) (a15 : Nat → Int32) (a16 : Nat → Int32) (a18 : Nat → Int32) (a19 : Nat → Int32) (a20 : Nat → Int32) (a21 : Nat → Int32) (a22 : Nat → Int32) : va_W := [(h0, .inr (10, [.ref y0_0, .ref y0_1, .ref y0_2, .ref h1, .ref y0_4, .ref y0_5, .ref y0_6, .ref y0_7, .ref y0_8, .ref y0_9, .ref y0_10, .int x0_11, .int x0_12])), (h1, .inr (8, [.ref h2, .int x1_1, .int x1_2])), (h2, .inl (G.2.2.2.2.1, 13, .inr (.inr (.inr (.inr a2))))), (h3, .inr (1, [.int x3_0, .int x3_1, .int x3_2, .ref h4, .ref h5, .ref h6])), (h4, .inl (G.2.1, 32, .inl a4)), (h5, .inl (G.2.1, 256, .inl a5)), (h6, .inl (G.2.1, 256, .inl a6)), (h7, .inr (9, [.ref h8, .ref h9, .ref h10, .ref h11, .ref h12])), (h8, .inl (G.2.1, 16, .inl a8)), (h9, .inl (G.2.1, 16, .inl a9)), (h10, .inl (G.2.1, 16, .inl a10)), (h11, .inl (G.2.1, 16, .inl a11)), (h12, .inl (G.2.1, 8, .inl a12)), (h13, .inr (1, [.int x13_0, .int x13_1, .int x13_2, .ref h14, .ref h15, .ref h16])), (h14, .inl (G.2.1, 32, .inl a14)), (h15, .inl (G.2.1, 256, .inl a15)), (h16, .inl (G.2.1, 256, .inl a16)), (h17, .inr (9, [.ref h18, .ref h19, .ref h20, .ref h21, .ref h22])), (h18, .inl (G.2.1, 16, .inl a18)), (h19, .inl (G.2.1, 16, .inl a19)), (h20, .inl (G.2.1, 16, .inl a20)), (h21, .inl (G.2.1, 16, .inl a21)), (h22, .inl (G.2.1, 8, .inl a22))]
set_option maxHeartbeats 4000000 in
set_option maxRecDepth 100000 in
theorem c_X10_pairs (l : Launch) (G : GG) (h0 h1 h2 h3 h4 h5 h6 h7 h8 h9 h10 h11 h12 h13 h14 h15 h16 h17 h18 h19 h20 h21 h22 y0_0 y0_1 y0_2 y0_4 y0_5 y0_6 y0_7 y0_8 y0_9 y0_10 g_cur g_nxt : Nat) (sz : Nat) (x0_11 : Int32) (x0_12 : Int32) (x1_1 : Int32) (x1_2 : Int32) (a2 : Nat → Option Nat) (x3_0 : Int32) (x3_1 : Int32) (x3_2 : Int32) (a4 : Nat → Int32) (a5 : Nat → Int32) (a6 : Nat → Int32) (a8 : Nat → Int32) (a9 : Nat → Int32) (a10 : Nat → Int32) (a11 : Nat → Int32) (a12 : Nat → Int32) (x13_0 : Int32) (x13_1 : Int32) (x13_2 : Int32) (a14 : Nat → Int32) (a15 : Nat → Int32) (a16 : Nat → Int32) (a18 : Nat → Int32) (a19 : Nat → Int32) (a20 : Nat → Int32) (a21 : Nat → Int32) (a22 : Nat → Int32) (F : Nat) (b1 : Int32) (hq_cur : (g_cur, h3, h7) ∈ gS G) (hq_nxt : (g_nxt, h13, h17) ∈ gS G) (hall : stAll G a2)  (r0 : Int32) (e_x1_1 : Int32) (e_x1_2 : Int32) (e_a2 : Nat → Option Nat) (e_x13_0 : Int32) (e_x13_1 : Int32) (e_x13_2 : Int32) (e_a14 : Nat → Int32) (e_a15 : Nat → Int32) (e_a16 : Nat → Int32) (e_a18 : Nat → Int32) (e_a19 : Nat → Int32) (e_a20 : Nat → Int32) (e_a21 : Nat → Int32) (e_a22 : Nat → Int32) (hf : p_X10_pairs F g_cur g_nxt x1_1 x1_2 a2 x3_0 x3_1 x3_2 a4 a5 a6 a8 a9 a10 a11 a12 x13_0 x13_1 x13_2 a14 a15 a16 a18 a19 a20 a21 a22 b1 = some (r0, e_x1_1, e_x1_2, e_a2, e_x13_0, e_x13_1, e_x13_2, e_a14, e_a15, e_a16, e_a18, e_a19, e_a20, e_a21, e_a22)) : Met l yX10_pairs (.code yX10_pairs cX10_pairs 2 (some .boolean) :: gtbl) ({ frames := 4, cells := 0, slots := 0, locals := 110 } : Room) (PcS G [.ref h0, .int b1] (wW_X10_pairs G h0 h1 h2 h3 h4 h5 h6 h7 h8 h9 h10 h11 h12 h13 h14 h15 h16 h17 h18 h19 h20 h21 h22 y0_0 y0_1 y0_2 y0_4 y0_5 y0_6 y0_7 y0_8 y0_9 y0_10 x0_11 x0_12 x1_1 x1_2 a2 x3_0 x3_1 x3_2 a4 a5 a6 a8 a9 a10 a11 a12 x13_0 x13_1 x13_2 a14 a15 a16 a18 a19 a20 a21 a22) sz) (QiS G r0 (va_A (wW_X10_pairs G h0 h1 h2 h3 h4 h5 h6 h7 h8 h9 h10 h11 h12 h13 h14 h15 h16 h17 h18 h19 h20 h21 h22 y0_0 y0_1 y0_2 y0_4 y0_5 y0_6 y0_7 y0_8 y0_9 y0_10 x0_11 x0_12 x1_1 x1_2 a2 x3_0 x3_1 x3_2 a4 a5 a6 a8 a9 a10 a11 a12 x13_0 x13_1 x13_2 a14 a15 a16 a18 a19 a20 a21 a22) sz) (wW_X10_pairs G h0 h1 h2 h3 h4 h5 h6 h7 h8 h9 h10 h11 h12 h13 h14 h15 h16 h17 h18 h19 h20 h21 h22 y0_0 y0_1 y0_2 y0_4 y0_5 y0_6 y0_7 y0_8 y0_9 y0_10 x0_11 x0_12 e_x1_1 e_x1_2 e_a2 x3_0 x3_1 x3_2 a4 a5 a6 a8 a9 a10 a11 a12 e_x13_0 e_x13_1 e_x13_2 e_a14 e_a15 e_a16 e_a18 e_a19 e_a20 e_a21 e_a22)) 0 0 (va_A (wW_X10_pairs G h0 h1 h2 h3 h4 h5 h6 h7 h8 h9 h10 h11 h12 h13 h14 h15 h16 h17 h18 h19 h20 h21 h22 y0_0 y0_1 y0_2 y0_4 y0_5 y0_6 y0_7 y0_8 y0_9 y0_10 x0_11 x0_12 x1_1 x1_2 a2 x3_0 x3_1 x3_2 a4 a5 a6 a8 a9 a10 a11 a12 x13_0 x13_1 x13_2 a14 a15 a16 a18 a19 a20 a21 a22) sz) := by
  refine met_start (by decide) (Nat.le_of_ble_eq_true rfl) ?_
  intro p e s m below meth c hC hr hlk hnm hK hP hD hA hS hX ls hl
  obtain ⟨hx, hb, hml, hown, ht0⟩ := hC
  have hown : s.vm.findClass RX10 = some m.cls := hown
  generalize va_A (wW_X10_pairs G h0 h1 h2 h3 h4 h5 h6 h7 h8 h9 h10 h11 h12 h13 h14 h15 h16 h17 h18 h19 h20 h21 h22 y0_0 y0_1 y0_2 y0_4 y0_5 y0_6 y0_7 y0_8 y0_9 y0_10 x0_11 x0_12 x1_1 x1_2 a2 x3_0 x3_1 x3_2 a4 a5 a6 a8 a9 a10 a11 a12 x13_0 x13_1 x13_2 a14 a15 a16 a18 a19 a20 a21 a22) sz = A at hD hA hS hX ⊢
  have hl : lv_has ls 2 [(0, .ref h0), (1, .int b1)] := hl
  have hf : p_X10_pairs F g_cur g_nxt x1_1 x1_2 a2 x3_0 x3_1 x3_2 a4 a5 a6 a8 a9 a10 a11 a12 x13_0 x13_1 x13_2 a14 a15 a16 a18 a19 a20 a21 a22 b1 = some (r0, e_x1_1, e_x1_2, e_a2, e_x13_0, e_x13_1, e_x13_2, e_a14, e_a15, e_a16, e_a18, e_a19, e_a20, e_a21, e_a22) := hf
  refine lv_aload_n hx hb dX10_pairs_0 rfl (lv_at hl 0 rfl) ?_
  refine va_get (ci := 10) (v := .ref h1) (C := RX10) (T := TX10) (N := 13) hx hb ht0 iX10 hown hK hP 0 rfl rfl 3 (by decide) (ht0 _ wd_543) (fun _ h9 => h9) rfl dX10_pairs_1 ?_
  obtain ⟨_, hc_r_4_0, hf⟩ := of_bnd hf
  refine cl_Vr (w2 := (wW_X10_pairs G h0 h1 h2 h3 h4 h5 h6 h7 h8 h9 h10 h11 h12 h13 h14 h15 h16 h17 h18 h19 h20 h21 h22 y0_0 y0_1 y0_2 y0_4 y0_5 y0_6 y0_7 y0_8 y0_9 y0_10 x0_11 x0_12 x1_1 x1_2 a2 x3_0 x3_1 x3_2 a4 a5 a6 a8 a9 a10 a11 a12 x13_0 x13_1 x13_2 a14 a15 a16 a18 a19 a20 a21 a22)) (As := []) (rest := []) ⟨hx, hb, hml, hown, ht0⟩ (c_X8_now l G h1 h2 g_cur h3 h7 _ x1_1 x1_2 a2 F hq_cur hc_r_4_0) yk_X8_now wd_531 ⟨rfl, rfl, by decide, by decide⟩ ⟨Nat.le_refl _, Nat.le_refl _⟩ hX hK hP hD hS hA [1, 2] [0, 3, 4, 5, 6, 7, 8, 9, 10, 11, 12, 13, 14, 15, 16, 17, 18, 19, 20, 21, 22] [0, 21, 22, 1, 2, 3, 4, 5, 6, 7, 8, 9, 10, 11, 12, 13, 14, 15, 16, 17, 18, 19, 20] (va_recv hK hP (ci := 8) (q0 := 1) rfl rfl) rfl rfl (by decide) rfl rfl rfl rfl rfl hl.1 rfl (Nat.le_of_ble_eq_true rfl) dX10_pairs_4 (fun H locs hP hD hS => ?_)
  refine vk_getf hx hb (hX.2.2 _ hq_cur).2.1 hS hown (ht0 _ wd_342) (fun _ h => h) dX10_pairs_7 ?_
  refine va_get (ci := 1) (v := .int x3_2) (C := RX1) (T := TX1) (N := 6) hx hb ht0 iX1 hown hK hP 3 rfl rfl 2 (by decide) (ht0 _ wd_225) (fun _ h9 => h9) rfl dX10_pairs_10 ?_
  refine lv_iload_n hx hb dX10_pairs_13 rfl (lv_at hl 1 rfl) ?_
  refine lv_icmp_ne (tgt := 19) hx hb dX10_pairs_14 (by decide) (fun c2 => ?_) (fun c2 => ?_)
  · have hf := of_neg hf c2
    refine lv_aload_n hx hb dX10_pairs_19 rfl (lv_at hl 0 rfl) ?_
    refine va_get (ci := 10) (v := .ref h1) (C := RX10) (T := TX10) (N := 13) hx hb ht0 iX10 hown hK hP 0 rfl rfl 3 (by decide) (ht0 _ wd_543) (fun _ h9 => h9) rfl dX10_pairs_20 ?_
    obtain ⟨⟨r_23_2_x0_1, r_23_2_x0_2, r_23_2_a1, r_23_2_x12_0, r_23_2_x12_1, r_23_2_x12_2, r_23_2_a13, r_23_2_a14, r_23_2_a15, r_23_2_a17, r_23_2_a18, r_23_2_a19, r_23_2_a20, r_23_2_a21⟩, hc_r_23_2, hf⟩ := of_bnd hf
    refine cl_Vr (w2 := (wW_X10_pairs G h0 h1 h2 h3 h4 h5 h6 h7 h8 h9 h10 h11 h12 h13 h14 h15 h16 h17 h18 h19 h20 h21 h22 y0_0 y0_1 y0_2 y0_4 y0_5 y0_6 y0_7 y0_8 y0_9 y0_10 x0_11 x0_12 r_23_2_x0_1 r_23_2_x0_2 r_23_2_a1 x3_0 x3_1 x3_2 a4 a5 a6 a8 a9 a10 a11 a12 r_23_2_x12_0 r_23_2_x12_1 r_23_2_x12_2 r_23_2_a13 r_23_2_a14 r_23_2_a15 r_23_2_a17 r_23_2_a18 r_23_2_a19 r_23_2_a20 r_23_2_a21)) (As := []) (rest := []) ⟨hx, hb, hml, hown, ht0⟩ (c_X8_beginAct l G h1 h2 h3 h4 h5 h6 h7 h8 h9 h10 h11 h12 h13 h14 h15 h16 h17 h18 h19 h20 h21 h22 g_cur g_nxt _ x1_1 x1_2 a2 x3_0 x3_1 x3_2 a4 a5 a6 a8 a9 a10 a11 a12 x13_0 x13_1 x13_2 a14 a15 a16 a18 a19 a20 a21 a22 F hq_cur hq_nxt hall _ _ _ _ _ _ _ _ _ _ _ _ _ _ hc_r_23_2) yk_X8_beginAct wd_798 ⟨rfl, rfl, by decide, by decide⟩ ⟨Nat.le_refl _, Nat.le_refl _⟩ hX hK hP hD hS hA [1, 2, 3, 4, 5, 6, 7, 8, 9, 10, 11, 12, 13, 14, 15, 16, 17, 18, 19, 20, 21, 22] [0] [0, 1, 2, 3, 4, 5, 6, 7, 8, 9, 10, 11, 12, 13, 14, 15, 16, 17, 18, 19, 20, 21, 22] (va_recv hK hP (ci := 8) (q0 := 1) rfl rfl) rfl rfl (by decide) rfl rfl rfl rfl rfl hl.1 rfl (Nat.le_of_ble_eq_true rfl) dX10_pairs_23 (fun H locs hP hD hS => ?_)
    refine vk_getf hx hb (hX.2.2 _ hq_nxt).2.1 hS hown (ht0 _ wd_342) (fun _ h => h) dX10_pairs_26 ?_
    refine lv_iload_n hx hb dX10_pairs_29 rfl (lv_at hl 1 rfl) ?_
    obtain ⟨g4, hf⟩ := of_grd hf
    have g4 := Decidable.not_not.mp g4
    refine va_put (ci := 1) (v := .int b1) (ty := .boolean) (C := RX1) (T := TX1) (N := 6) hx hb ht0 iX1 tyX1 tyX1_ok nmX1 hown hK hP hD hS 13 rfl rfl 2 (by decide) (ht0 _ wd_225) (fun _ h9 => h9) rfl rfl (bz_n g4) (bz_f g4) (Nat.le_of_ble_eq_true rfl) dX10_pairs_30 (fun H locs hP hD hS => ?_)
    have hP : va_P G.1 vwCl (wW_X10_pairs G h0 h1 h2 h3 h4 h5 h6 h7 h8 h9 h10 h11 h12 h13 h14 h15 h16 h17 h18 h19 h20 h21 h22 y0_0 y0_1 y0_2 y0_4 y0_5 y0_6 y0_7 y0_8 y0_9 y0_10 x0_11 x0_12 r_23_2_x0_1 r_23_2_x0_2 r_23_2_a1 x3_0 x3_1 x3_2 a4 a5 a6 a8 a9 a10 a11 a12 r_23_2_x12_0 r_23_2_x12_1 b1 r_23_2_a13 r_23_2_a14 r_23_2_a15 r_23_2_a17 r_23_2_a18 r_23_2_a19 r_23_2_a20 r_23_2_a21) H := hP
    have hD : va_D A (wW_X10_pairs G h0 h1 h2 h3 h4 h5 h6 h7 h8 h9 h10 h11 h12 h13 h14 h15 h16 h17 h18 h19 h20 h21 h22 y0_0 y0_1 y0_2 y0_4 y0_5 y0_6 y0_7 y0_8 y0_9 y0_10 x0_11 x0_12 r_23_2_x0_1 r_23_2_x0_2 r_23_2_a1 x3_0 x3_1 x3_2 a4 a5 a6 a8 a9 a10 a11 a12 r_23_2_x12_0 r_23_2_x12_1 b1 r_23_2_a13 r_23_2_a14 r_23_2_a15 r_23_2_a17 r_23_2_a18 r_23_2_a19 r_23_2_a20 r_23_2_a21) := hD
    refine lv_iconst (v := (1 : Int32)) hx hb dX10_pairs_33 (by decide) ?_
    cases hf
    exact ret_z hx hb hr hlk hK hP hD hS (by decide) dX10_pairs_34
  · have hf := of_pos hf c2
    refine lv_iconst (v := (0 : Int32)) hx hb dX10_pairs_17 (by decide) ?_
    cases hf
    exact ret_z hx hb hr hlk hK hP hD hS (by decide) dX10_pairs_18
theorem yk_X10_pairs : ykV yX10_pairs RX10 cX10_pairs 2 (some .boolean) 1 := ⟨wd_980, wd_981, wd_127, wd_982, rfl, by decide +kernel, by decide +kernel, by decide +kernel⟩
theorem dX10_better_0 : decode cX10_better 0 = .ok (.aload_n 0, 1) := by decide +kernel
theorem dX10_better_1 : decode cX10_better 1 = .ok (.getfield 54, 3) := by decide +kernel
theorem dX10_better_4 : decode cX10_better 4 = .ok (.aload_n 0, 1) := by decide +kernel
theorem dX10_better_5 : decode cX10_better 5 = .ok (.getfield 29, 3) := by decide +kernel
theorem dX10_better_8 : decode cX10_better 8 = .ok (.invokevirtual 92, 3) := by decide +kernel
theorem dX10_better_11 : decode cX10_better 11 = .ok (.getfield 96, 3) := by decide +kernel
theorem dX10_better_14 : decode cX10_better 14 = .ok (.invokevirtual 235, 3) := by decide +kernel
theorem dX10_better_17 : decode cX10_better 17 = .ok (.aload_n 0, 1) := by decide +kernel
theorem dX10_better_18 : decode cX10_better 18 = .ok (.getfield 54, 3) := by decide +kernel
theorem dX10_better_21 : decode cX10_better 21 = .ok (.getfield 238, 3) := by decide +kernel
theorem dX10_better_24 : decode cX10_better 24 = .ok (.iconst (-1), 1) := by decide +kernel
theorem dX10_better_25 : decode cX10_better 25 = .ok (.if_icmp .ne 5, 3) := by decide +kernel
theorem dX10_better_28 : decode cX10_better 28 = .ok (.iconst (-1), 1) := by decide +kernel
theorem dX10_better_29 : decode cX10_better 29 = .ok (.ireturn, 1) := by decide +kernel
theorem dX10_better_30 : decode cX10_better 30 = .ok (.aload_n 0, 1) := by decide +kernel
theorem dX10_better_31 : decode cX10_better 31 = .ok (.getfield 29, 3) := by decide +kernel
theorem dX10_better_34 : decode cX10_better 34 = .ok (.invokevirtual 147, 3) := by decide +kernel
theorem dX10_better_37 : decode cX10_better 37 = .ok (.astore_n 1, 1) := by decide +kernel
theorem dX10_better_38 : decode cX10_better 38 = .ok (.aload_n 1, 1) := by decide +kernel
theorem dX10_better_39 : decode cX10_better 39 = .ok (.getfield 96, 3) := by decide +kernel
theorem dX10_better_42 : decode cX10_better 42 = .ok (.aload_n 0, 1) := by decide +kernel
theorem dX10_better_43 : decode cX10_better 43 = .ok (.getfield 54, 3) := by decide +kernel
theorem dX10_better_46 : decode cX10_better 46 = .ok (.getfield 238, 3) := by decide +kernel
theorem dX10_better_49 : decode cX10_better 49 = .ok (.aload_n 0, 1) := by decide +kernel
theorem dX10_better_50 : decode cX10_better 50 = .ok (.getfield 54, 3) := by decide +kernel
theorem dX10_better_53 : decode cX10_better 53 = .ok (.getfield 241, 3) := by decide +kernel
theorem dX10_better_56 : decode cX10_better 56 = .ok (.invokevirtual 217, 3) := by decide +kernel
theorem dX10_better_59 : decode cX10_better 59 = .ok (.aload_n 1, 1) := by decide +kernel
theorem dX10_better_60 : decode cX10_better 60 = .ok (.getfield 125, 3) := by decide +kernel
theorem dX10_better_63 : decode cX10_better 63 = .ok (.aload_n 1, 1) := by decide +kernel
theorem dX10_better_64 : decode cX10_better 64 = .ok (.getfield 96, 3) := by decide +kernel
theorem dX10_better_67 : decode cX10_better 67 = .ok (.invokevirtual 221, 3) := by decide +kernel
theorem dX10_better_70 : decode cX10_better 70 = .ok (.aload_n 0, 1) := by decide +kernel
theorem dX10_better_71 : decode cX10_better 71 = .ok (.getfield 54, 3) := by decide +kernel
theorem dX10_better_74 : decode cX10_better 74 = .ok (.getfield 244, 3) := by decide +kernel
theorem dX10_better_77 : decode cX10_better 77 = .ok (.ireturn, 1) := by decide +kernel
def wW_X10_better (G : GG) (h0 h1 h2 h3 h4 h5 h6 h7 h8 h9 h10 h11 h12 h13 h14 h15 h16 h17 h18 h19 h20 h21 h22 h23 h24 h25 y0_0 y0_1 y0_2 y0_4 y0_5 y0_6 y0_8 y0_9 y0_10 y3_2 y3_3 : Nat) (x0_11 : Int32) (x0_12 : Int32) (x1_1 : Int32) (x1_2 : Int32) (a2 : Nat → Option Nat) (x3_4 : Int32) (x3_5 : Int32) (x3_6 : Int32) (a4 : Nat → Int32) (a5 : Nat → Int32) (x6_0 : Int32) (x6_1 : Int32) (x6_2 : Int32) (a7 : Nat → Int32) (a8 : Nat → Int32) (a9 : Nat → Int32) (a11 : Nat → Int32) (a12 : Nat → Int32) (a13 : Nat → Int32) (a14 : Nat → Int32) (a15 : Nat → Int32) (x16_0 : Int32) (x16_1 : Int32) (x16_2 : Int32) (a17 : Nat → Int32) (a18 : Nat → Int32) (a19 : Nat → Int32) (a21 : Nat → Int32) (a22 : Nat → Int32) (a23 : Nat → Int32) (a24 : Nat → Int32) (a25 : Nat → Int32) : va_W := [(h0, .inr (10, [.ref y0_0, .ref y0_1, .ref y0_2, .ref h1, .ref y0_4, .ref y0_5, .ref y0_6, .ref h3, .ref y0_8, .ref y0_9, .ref y0_10, .int x0_11, .int x0_12])), (h1, .inr (8, [.ref h2, .int x1_1, .int x1_2])), (h2, .inl (G.2.2.2.2.1, 13, .inr (.inr (.inr (.inr a2))))), (h3, .inr (4, [.ref h4, .ref h5, .ref y3_2, .ref y3_3, .int x3_4, .int x3_5, .int x3_6])), (h4, .inl (G.2.1, 256, .inl a4)), (h5, .inl (G.2.1, 256, .inl a5)), (h6, .inr (1, [.int x6_0, .int x6_1, .int x6_2, .ref h7, .ref h8, .ref h9])), (h7, .inl (G.2.1, 32, .inl a7)), (h8, .inl (G.2.1, 256, .inl a8)), (h9, .inl (G.2.1, 256, .inl a9)), (h10, .inr (9, [.ref h11, .ref h12, .ref h13, .ref h14, .ref h15])), (h11, .inl (G.2.1, 16, .inl a11)), (h12, .inl (G.2.1, 16, .inl a12)), (h13, .inl (G.2.1, 16, .inl a13)), (h14, .inl (G.2.1, 16, .inl a14)), (h15, .inl (G.2.1, 8, .inl a15)), (h16, .inr (1, [.int x16_0, .int x16_1, .int x16_2, .ref h17, .ref h18, .ref h19])), (h17, .inl (G.2.1, 32, .inl a17)), (h18, .inl (G.2.1, 256, .inl a18)), (h19, .inl (G.2.1, 256, .inl a19)), (h20, .inr (9, [.ref h21, .ref h22, .ref h23, .ref h24, .ref h25])), (h21, .inl (G.2.1, 16, .inl a21)), (h22, .inl (G.2.1, 16, .inl a22)), (h23, .inl (G.2.1, 16, .inl a23)), (h24, .inl (G.2.1, 16, .inl a24)), (h25, .inl (G.2.1, 8, .inl a25))]
set_option maxHeartbeats 4000000 in
set_option maxRecDepth 100000 in
theorem c_X10_better (l : Launch) (G : GG) (h0 h1 h2 h3 h4 h5 h6 h7 h8 h9 h10 h11 h12 h13 h14 h15 h16 h17 h18 h19 h20 h21 h22 h23 h24 h25 y0_0 y0_1 y0_2 y0_4 y0_5 y0_6 y0_8 y0_9 y0_10 y3_2 y3_3 g_cur g_nxt : Nat) (sz : Nat) (x0_11 : Int32) (x0_12 : Int32) (x1_1 : Int32) (x1_2 : Int32) (a2 : Nat → Option Nat) (x3_4 : Int32) (x3_5 : Int32) (x3_6 : Int32) (a4 : Nat → Int32) (a5 : Nat → Int32) (x6_0 : Int32) (x6_1 : Int32) (x6_2 : Int32) (a7 : Nat → Int32) (a8 : Nat → Int32) (a9 : Nat → Int32) (a11 : Nat → Int32) (a12 : Nat → Int32) (a13 : Nat → Int32) (a14 : Nat → Int32) (a15 : Nat → Int32) (x16_0 : Int32) (x16_1 : Int32) (x16_2 : Int32) (a17 : Nat → Int32) (a18 : Nat → Int32) (a19 : Nat → Int32) (a21 : Nat → Int32) (a22 : Nat → Int32) (a23 : Nat → Int32) (a24 : Nat → Int32) (a25 : Nat → Int32) (F : Nat)  (hq_cur : (g_cur, h6, h10) ∈ gS G) (hq_nxt : (g_nxt, h16, h20) ∈ gS G) (hall : stAll G a2)  (r0 : Int32) (e_x1_1 : Int32) (e_x1_2 : Int32) (e_a2 : Nat → Option Nat) (e_x3_4 : Int32) (e_x3_5 : Int32) (e_x3_6 : Int32) (e_a4 : Nat → Int32) (e_a5 : Nat → Int32) (e_x16_0 : Int32) (e_x16_1 : Int32) (e_x16_2 : Int32) (e_a17 : Nat → Int32) (e_a18 : Nat → Int32) (e_a19 : Nat → Int32) (e_a21 : Nat → Int32) (e_a22 : Nat → Int32) (e_a23 : Nat → Int32) (e_a24 : Nat → Int32) (e_a25 : Nat → Int32) (hf : p_X10_better F g_cur g_nxt x1_1 x1_2 a2 x3_4 x3_5 x3_6 a4 a5 x6_0 x6_1 x6_2 a7 a8 a9 a11 a12 a13 a14 a15 x16_0 x16_1 x16_2 a17 a18 a19 a21 a22 a23 a24 a25  = some (r0, e_x1_1, e_x1_2, e_a2, e_x3_4, e_x3_5, e_x3_6, e_a4, e_a5, e_x16_0, e_x16_1, e_x16_2, e_a17, e_a18, e_a19, e_a21, e_a22, e_a23, e_a24, e_a25)) : Met l yX10_better (.code yX10_better cX10_better 2 (some .int) :: gtbl) ({ frames := 5, cells := 0, slots := 0, locals := 113 } : Room) (PcS G [.ref h0] (wW_X10_better G h0 h1 h2 h3 h4 h5 h6 h7 h8 h9 h10 h11 h12 h13 h14 h15 h16 h17 h18 h19 h20 h21 h22 h23 h24 h25 y0_0 y0_1 y0_2 y0_4 y0_5 y0_6 y0_8 y0_9 y0_10 y3_2 y3_3 x0_11 x0_12 x1_1 x1_2 a2 x3_4 x3_5 x3_6 a4 a5 x6_0 x6_1 x6_2 a7 a8 a9 a11 a12 a13 a14 a15 x16_0 x16_1 x16_2 a17 a18 a19 a21 a22 a23 a24 a25) sz) (QiS G r0 (va_A (wW_X10_better G h0 h1 h2 h3 h4 h5 h6 h7 h8 h9 h10 h11 h12 h13 h14 h15 h16 h17 h18 h19 h20 h21 h22 h23 h24 h25 y0_0 y0_1 y0_2 y0_4 y0_5 y0_6 y0_8 y0_9 y0_10 y3_2 y3_3 x0_11 x0_12 x1_1 x1_2 a2 x3_4 x3_5 x3_6 a4 a5 x6_0 x6_1 x6_2 a7 a8 a9 a11 a12 a13 a14 a15 x16_0 x16_1 x16_2 a17 a18 a19 a21 a22 a23 a24 a25) sz) (wW_X10_better G h0 h1 h2 h3 h4 h5 h6 h7 h8 h9 h10 h11 h12 h13 h14 h15 h16 h17 h18 h19 h20 h21 h22 h23 h24 h25 y0_0 y0_1 y0_2 y0_4 y0_5 y0_6 y0_8 y0_9 y0_10 y3_2 y3_3 x0_11 x0_12 e_x1_1 e_x1_2 e_a2 e_x3_4 e_x3_5 e_x3_6 e_a4 e_a5 x6_0 x6_1 x6_2 a7 a8 a9 a11 a12 a13 a14 a15 e_x16_0 e_x16_1 e_x16_2 e_a17 e_a18 e_a19 e_a21 e_a22 e_a23 e_a24 e_a25)) 0 0 (va_A (wW_X10_better G h0 h1 h2 h3 h4 h5 h6 h7 h8 h9 h10 h11 h12 h13 h14 h15 h16 h17 h18 h19 h20 h21 h22 h23 h24 h25 y0_0 y0_1 y0_2 y0_4 y0_5 y0_6 y0_8 y0_9 y0_10 y3_2 y3_3 x0_11 x0_12 x1_1 x1_2 a2 x3_4 x3_5 x3_6 a4 a5 x6_0 x6_1 x6_2 a7 a8 a9 a11 a12 a13 a14 a15 x16_0 x16_1 x16_2 a17 a18 a19 a21 a22 a23 a24 a25) sz) := by
  refine met_start (by decide) (Nat.le_of_ble_eq_true rfl) ?_
  intro p e s m below meth c hC hr hlk hnm hK hP hD hA hS hX ls hl
  obtain ⟨hx, hb, hml, hown, ht0⟩ := hC
  have hown : s.vm.findClass RX10 = some m.cls := hown
  generalize va_A (wW_X10_better G h0 h1 h2 h3 h4 h5 h6 h7 h8 h9 h10 h11 h12 h13 h14 h15 h16 h17 h18 h19 h20 h21 h22 h23 h24 h25 y0_0 y0_1 y0_2 y0_4 y0_5 y0_6 y0_8 y0_9 y0_10 y3_2 y3_3 x0_11 x0_12 x1_1 x1_2 a2 x3_4 x3_5 x3_6 a4 a5 x6_0 x6_1 x6_2 a7 a8 a9 a11 a12 a13 a14 a15 x16_0 x16_1 x16_2 a17 a18 a19 a21 a22 a23 a24 a25) sz = A at hD hA hS hX ⊢
  have hl : lv_has ls 2 [(0, .ref h0)] := hl
  have hf : p_X10_better F g_cur g_nxt x1_1 x1_2 a2 x3_4 x3_5 x3_6 a4 a5 x6_0 x6_1 x6_2 a7 a8 a9 a11 a12 a13 a14 a15 x16_0 x16_1 x16_2 a17 a18 a19 a21 a22 a23 a24 a25  = some (r0, e_x1_1, e_x1_2, e_a2, e_x3_4, e_x3_5, e_x3_6, e_a4, e_a5, e_x16_0, e_x16_1, e_x16_2, e_a17, e_a18, e_a19, e_a21, e_a22, e_a23, e_a24, e_a25) := hf
  refine lv_aload_n hx hb dX10_better_0 rfl (lv_at hl 0 rfl) ?_
  refine va_get (ci := 10) (v := .ref h3) (C := RX10) (T := TX10) (N := 13) hx hb ht0 iX10 hown hK hP 0 rfl rfl 7 (by decide) (ht0 _ wd_547) (fun _ h9 => h9) rfl dX10_better_1 ?_
  refine lv_aload_n hx hb dX10_better_4 rfl (lv_at hl 0 rfl) ?_
  refine va_get (ci := 10) (v := .ref h1) (C := RX10) (T := TX10) (N := 13) hx hb ht0 iX10 hown hK hP 0 rfl rfl 3 (by decide) (ht0 _ wd_543) (fun _ h9 => h9) rfl dX10_better_5 ?_
  obtain ⟨_, hc_r_8_0, hf⟩ := of_bnd hf
  refine cl_Vr (w2 := (wW_X10_better G h0 h1 h2 h3 h4 h5 h6 h7 h8 h9 h10 h11 h12 h13 h14 h15 h16 h17 h18 h19 h20 h21 h22 h23 h24 h25 y0_0 y0_1 y0_2 y0_4 y0_5 y0_6 y0_8 y0_9 y0_10 y3_2 y3_3 x0_11 x0_12 x1_1 x1_2 a2 x3_4 x3_5 x3_6 a4 a5 x6_0 x6_1 x6_2 a7 a8 a9 a11 a12 a13 a14 a15 x16_0 x16_1 x16_2 a17 a18 a19 a21 a22 a23 a24 a25)) (As := []) (rest := [.ref h3]) ⟨hx, hb, hml, hown, ht0⟩ (c_X8_now l G h1 h2 g_cur h6 h10 _ x1_1 x1_2 a2 F hq_cur hc_r_8_0) yk_X8_now wd_531 ⟨rfl, rfl, by decide, by decide⟩ ⟨Nat.le_refl _, Nat.le_refl _⟩ hX hK hP hD hS hA [1, 2] [0, 3, 4, 5, 6, 7, 8, 9, 10, 11, 12, 13, 14, 15, 16, 17, 18, 19, 20, 21, 22, 23, 24, 25] [0, 24, 25, 1, 2, 3, 4, 5, 6, 7, 8, 9, 10, 11, 12, 13, 14, 15, 16, 17, 18, 19, 20, 21, 22, 23] (va_recv hK hP (ci := 8) (q0 := 1) rfl rfl) rfl rfl (by decide) rfl rfl rfl rfl rfl hl.1 rfl (Nat.le_of_ble_eq_true rfl) dX10_better_8 (fun H locs hP hD hS => ?_)
  refine vk_getf hx hb (hX.2.2 _ hq_cur).2.1 hS hown (ht0 _ wd_342) (fun _ h => h) dX10_better_11 ?_
  obtain ⟨⟨r_14_1_x0_4, r_14_1_x0_5, r_14_1_x0_6, r_14_1_a1, r_14_1_a2⟩, hc_r_14_1, hf⟩ := of_bnd hf
  refine cl_Vv (w2 := (wW_X10_better G h0 h1 h2 h3 h4 h5 h6 h7 h8 h9 h10 h11 h12 h13 h14 h15 h16 h17 h18 h19 h20 h21 h22 h23 h24 h25 y0_0 y0_1 y0_2 y0_4 y0_5 y0_6 y0_8 y0_9 y0_10 y3_2 y3_3 x0_11 x0_12 x1_1 x1_2 a2 r_14_1_x0_4 r_14_1_x0_5 r_14_1_x0_6 r_14_1_a1 r_14_1_a2 x6_0 x6_1 x6_2 a7 a8 a9 a11 a12 a13 a14 a15 x16_0 x16_1 x16_2 a17 a18 a19 a21 a22 a23 a24 a25)) (As := [.ref h6]) (rest := []) ⟨hx, hb, hml, hown, ht0⟩ (c_X4_seekChange l G h3 h4 h5 h6 h7 h8 y3_2 y3_3 h9 _ x3_4 x3_5 x3_6 a4 a5 x6_0 x6_1 x6_2 a7 a8 F _ _ _ _ _ hc_r_14_1) yk_X4_seekChange wd_987 ⟨rfl, rfl, by decide, by decide⟩ ⟨Nat.le_refl _, Nat.le_refl _⟩ hX hK hP hD hS hA [3, 4, 5, 6, 7, 8] [0, 1, 2, 9, 10, 11, 12, 13, 14, 15, 16, 17, 18, 19, 20, 21, 22, 23, 24, 25] [0, 1, 2, 20, 21, 22, 23, 24, 25, 3, 4, 5, 6, 7, 8, 9, 10, 11, 12, 13, 14, 15, 16, 17, 18, 19] (va_recv hK hP (ci := 4) (q0 := 3) rfl rfl) rfl rfl (by decide) rfl rfl rfl rfl rfl hl.1 rfl (Nat.le_of_ble_eq_true rfl) dX10_better_14 (fun H locs hP hD hS => ?_)
  refine lv_aload_n hx hb dX10_better_17 rfl (lv_at hl 0 rfl) ?_
  refine va_get (ci := 10) (v := .ref h3) (C := RX10) (T := TX10) (N := 13) hx hb ht0 iX10 hown hK hP 0 rfl rfl 7 (by decide) (ht0 _ wd_547) (fun _ h9 => h9) rfl dX10_better_18 ?_
  refine va_get (ci := 4) (v := .int r_14_1_x0_4) (C := RX4) (T := TX4) (N := 7) hx hb ht0 iX4 hown hK hP 3 rfl rfl 4 (by decide) (ht0 _ wd_400) (fun _ h9 => h9) rfl dX10_better_21 ?_
  refine lv_iconst (v := (-1 : Int32)) hx hb dX10_better_24 (by decide) ?_
  refine lv_icmp_ne (tgt := 30) hx hb dX10_better_25 (by decide) (fun c3 => ?_) (fun c3 => ?_)
  · have hf := of_neg hf c3
    refine lv_aload_n hx hb dX10_better_30 rfl (lv_at hl 0 rfl) ?_
    refine va_get (ci := 10) (v := .ref h1) (C := RX10) (T := TX10) (N := 13) hx hb ht0 iX10 hown hK hP 0 rfl rfl 3 (by decide) (ht0 _ wd_543) (fun _ h9 => h9) rfl dX10_better_31 ?_
    obtain ⟨⟨r_34_3_x0_1, r_34_3_x0_2, r_34_3_a1, r_34_3_x12_0, r_34_3_x12_1, r_34_3_x12_2, r_34_3_a13, r_34_3_a14, r_34_3_a15, r_34_3_a17, r_34_3_a18, r_34_3_a19, r_34_3_a20, r_34_3_a21⟩, hc_r_34_3, hf⟩ := of_bnd hf
    refine cl_Vr (w2 := (wW_X10_better G h0 h1 h2 h3 h4 h5 h6 h7 h8 h9 h10 h11 h12 h13 h14 h15 h16 h17 h18 h19 h20 h21 h22 h23 h24 h25 y0_0 y0_1 y0_2 y0_4 y0_5 y0_6 y0_8 y0_9 y0_10 y3_2 y3_3 x0_11 x0_12 r_34_3_x0_1 r_34_3_x0_2 r_34_3_a1 r_14_1_x0_4 r_14_1_x0_5 r_14_1_x0_6 r_14_1_a1 r_14_1_a2 x6_0 x6_1 x6_2 a7 a8 a9 a11 a12 a13 a14 a15 r_34_3_x12_0 r_34_3_x12_1 r_34_3_x12_2 r_34_3_a13 r_34_3_a14 r_34_3_a15 r_34_3_a17 r_34_3_a18 r_34_3_a19 r_34_3_a20 r_34_3_a21)) (As := []) (rest := []) ⟨hx, hb, hml, hown, ht0⟩ (c_X8_beginAct l G h1 h2 h6 h7 h8 h9 h10 h11 h12 h13 h14 h15 h16 h17 h18 h19 h20 h21 h22 h23 h24 h25 g_cur g_nxt _ x1_1 x1_2 a2 x6_0 x6_1 x6_2 a7 a8 a9 a11 a12 a13 a14 a15 x16_0 x16_1 x16_2 a17 a18 a19 a21 a22 a23 a24 a25 F hq_cur hq_nxt hall _ _ _ _ _ _ _ _ _ _ _ _ _ _ hc_r_34_3) yk_X8_beginAct wd_798 ⟨rfl, rfl, by decide, by decide⟩ ⟨Nat.le_refl _, Nat.le_refl _⟩ hX hK hP hD hS hA [1, 2, 6, 7, 8, 9, 10, 11, 12, 13, 14, 15, 16, 17, 18, 19, 20, 21, 22, 23, 24, 25] [0, 3, 4, 5] [0, 4, 5, 1, 2, 3, 6, 7, 8, 9, 10, 11, 12, 13, 14, 15, 16, 17, 18, 19, 20, 21, 22, 23, 24, 25] (va_recv hK hP (ci := 8) (q0 := 1) rfl rfl) rfl rfl (by decide) rfl rfl rfl rfl rfl hl.1 rfl (Nat.le_of_ble_eq_true rfl) dX10_better_34 (fun H locs hP hD hS => ?_)
    refine lv_astore_n (lv' := [(1, .ref g_nxt), (0, .ref h0)]) hx hb dX10_better_37 rfl hl (by decide) rfl (fun ls hl => ?_)
    refine lv_aload_n hx hb dX10_better_38 rfl (lv_at hl 0 rfl) ?_
    refine vk_getf hx hb (hX.2.2 _ hq_nxt).2.1 hS hown (ht0 _ wd_342) (fun _ h => h) dX10_better_39 ?_
    refine lv_aload_n hx hb dX10_better_42 rfl (lv_at hl 1 rfl) ?_
    refine va_get (ci := 10) (v := .ref h3) (C := RX10) (T := TX10) (N := 13) hx hb ht0 iX10 hown hK hP 0 rfl rfl 7 (by decide) (ht0 _ wd_547) (fun _ h9 => h9) rfl dX10_better_43 ?_
    refine va_get (ci := 4) (v := .int r_14_1_x0_4) (C := RX4) (T := TX4) (N := 7) hx hb ht0 iX4 hown hK hP 3 rfl rfl 4 (by decide) (ht0 _ wd_400) (fun _ h9 => h9) rfl dX10_better_46 ?_
    refine lv_aload_n hx hb dX10_better_49 rfl (lv_at hl 1 rfl) ?_
    refine va_get (ci := 10) (v := .ref h3) (C := RX10) (T := TX10) (N := 13) hx hb ht0 iX10 hown hK hP 0 rfl rfl 7 (by decide) (ht0 _ wd_547) (fun _ h9 => h9) rfl dX10_better_50 ?_
    refine va_get (ci := 4) (v := .int r_14_1_x0_5) (C := RX4) (T := TX4) (N := 7) hx hb ht0 iX4 hown hK hP 3 rfl rfl 5 (by decide) (ht0 _ wd_402) (fun _ h9 => h9) rfl dX10_better_53 ?_
    obtain ⟨⟨r_56_4_a1, r_56_4_a2, r_56_4_a3⟩, hc_r_56_4, hf⟩ := of_bnd hf
    refine cl_Vv (w2 := (wW_X10_better G h0 h1 h2 h3 h4 h5 h6 h7 h8 h9 h10 h11 h12 h13 h14 h15 h16 h17 h18 h19 h20 h21 h22 h23 h24 h25 y0_0 y0_1 y0_2 y0_4 y0_5 y0_6 y0_8 y0_9 y0_10 y3_2 y3_3 x0_11 x0_12 r_34_3_x0_1 r_34_3_x0_2 r_34_3_a1 r_14_1_x0_4 r_14_1_x0_5 r_14_1_x0_6 r_14_1_a1 r_14_1_a2 x6_0 x6_1 x6_2 a7 a8 a9 a11 a12 a13 a14 a15 r_34_3_x12_0 r_34_3_x12_1 r_34_3_x12_2 r_56_4_a1 r_56_4_a2 r_56_4_a3 r_34_3_a17 r_34_3_a18 r_34_3_a19 r_34_3_a20 r_34_3_a21)) (As := [.int r_14_1_x0_4, .int r_14_1_x0_5]) (rest := []) ⟨hx, hb, hml, hown, ht0⟩ (c_X1_giveColumn l G h16 h17 h18 h19 _ r_34_3_x12_0 r_34_3_x12_1 r_34_3_x12_2 r_34_3_a13 r_34_3_a14 r_34_3_a15 F r_14_1_x0_4 r_14_1_x0_5 _ _ _ hc_r_56_4) yk_X1_giveColumn wd_958 ⟨rfl, rfl, by decide, by decide⟩ ⟨Nat.le_refl _, Nat.le_refl _⟩ hX hK hP hD hS hA [16, 17, 18, 19] [0, 1, 2, 3, 4, 5, 6, 7, 8, 9, 10, 11, 12, 13, 14, 15, 20, 21, 22, 23, 24, 25] [0, 1, 2, 3, 4, 5, 6, 7, 8, 9, 10, 11, 12, 13, 14, 15, 22, 23, 24, 25, 16, 17, 18, 19, 20, 21] (va_recv hK hP (ci := 1) (q0 := 16) rfl rfl) rfl rfl (by decide) rfl rfl rfl rfl rfl hl.1 rfl (Nat.le_of_ble_eq_true rfl) dX10_better_56 (fun H locs hP hD hS => ?_)
    refine lv_aload_n hx hb dX10_better_59 rfl (lv_at hl 0 rfl) ?_
    refine vk_getf hx hb (hX.2.2 _ hq_nxt).2.2 hS hown (ht0 _ wd_344) (fun _ h => h) dX10_better_60 ?_
    refine lv_aload_n hx hb dX10_better_63 rfl (lv_at hl 0 rfl) ?_
    refine vk_getf hx hb (hX.2.2 _ hq_nxt).2.1 hS hown (ht0 _ wd_342) (fun _ h => h) dX10_better_64 ?_
    obtain ⟨⟨r_67_5_a1, r_67_5_a2, r_67_5_a4⟩, hc_r_67_5, hf⟩ := of_bnd hf
    refine cl_Vv (w2 := (wW_X10_better G h0 h1 h2 h3 h4 h5 h6 h7 h8 h9 h10 h11 h12 h13 h14 h15 h16 h17 h18 h19 h20 h21 h22 h23 h24 h25 y0_0 y0_1 y0_2 y0_4 y0_5 y0_6 y0_8 y0_9 y0_10 y3_2 y3_3 x0_11 x0_12 r_34_3_x0_1 r_34_3_x0_2 r_34_3_a1 r_14_1_x0_4 r_14_1_x0_5 r_14_1_x0_6 r_14_1_a1 r_14_1_a2 x6_0 x6_1 x6_2 a7 a8 a9 a11 a12 a13 a14 a15 r_34_3_x12_0 r_34_3_x12_1 r_34_3_x12_2 r_56_4_a1 r_56_4_a2 r_56_4_a3 r_67_5_a1 r_67_5_a2 r_34_3_a19 r_67_5_a4 r_34_3_a21)) (As := [.ref h16]) (rest := []) ⟨hx, hb, hml, hown, ht0⟩ (c_X9_writeAllAnew l G h20 h21 h22 h23 h24 h16 h17 h25 h18 h19 _ r_34_3_a17 r_34_3_a18 r_34_3_a19 r_34_3_a20 r_34_3_x12_0 r_34_3_x12_1 r_34_3_x12_2 r_56_4_a1 F _ _ _ hc_r_67_5) yk_X9_writeAllAnew wd_959 ⟨rfl, rfl, by decide, by decide⟩ ⟨Nat.le_refl _, Nat.le_refl _⟩ hX hK hP hD hS hA [20, 21, 22, 23, 24, 16, 17] [0, 1, 2, 3, 4, 5, 6, 7, 8, 9, 10, 11, 12, 13, 14, 15, 18, 19, 25] [0, 1, 2, 3, 4, 5, 6, 7, 8, 9, 10, 11, 12, 13, 14, 15, 24, 25, 16, 17, 19, 20, 21, 22, 23, 18] (va_recv hK hP (ci := 9) (q0 := 20) rfl rfl) rfl rfl (by decide) rfl rfl rfl rfl rfl hl.1 rfl (Nat.le_of_ble_eq_true rfl) dX10_better_67 (fun H locs hP hD hS => ?_)
    refine lv_aload_n hx hb dX10_better_70 rfl (lv_at hl 1 rfl) ?_
    refine va_get (ci := 10) (v := .ref h3) (C := RX10) (T := TX10) (N := 13) hx hb ht0 iX10 hown hK hP 0 rfl rfl 7 (by decide) (ht0 _ wd_547) (fun _ h9 => h9) rfl dX10_better_71 ?_
    refine va_get (ci := 4) (v := .int r_14_1_x0_6) (C := RX4) (T := TX4) (N := 7) hx hb ht0 iX4 hown hK hP 3 rfl rfl 6 (by decide) (ht0 _ wd_404) (fun _ h9 => h9) rfl dX10_better_74 ?_
    cases hf
    exact ret_i hx hb hr hlk hK hP hD hS dX10_better_77
  · have hf := of_pos hf c3
    refine lv_iconst (v := (-1 : Int32)) hx hb dX10_better_28 (by decide) ?_
    cases hf
    exact ret_i hx hb hr hlk hK hP hD hS dX10_better_29
theorem yk_X10_better : ykV yX10_better RX10 cX10_better 2 (some .int) 0 := ⟨wd_984, wd_985, wd_127, wd_986, rfl, by decide +kernel, by decide +kernel, by decide +kernel⟩
theorem dX10_undo_0 : decode cX10_undo 0 = .ok (.aload_n 0, 1) := by decide +kernel
theorem dX10_undo_1 : decode cX10_undo 1 = .ok (.getfield 29, 3) := by decide +kernel
theorem dX10_undo_4 : decode cX10_undo 4 = .ok (.invokevirtual 247, 3) := by decide +kernel
theorem dX10_undo_7 : decode cX10_undo 7 = .ok (.ireturn, 1) := by decide +kernel
def wW_X10_undo (G : GG) (h0 h1 y0_0 y0_1 y0_2 y0_4 y0_5 y0_6 y0_7 y0_8 y0_9 y0_10 y1_0 : Nat) (x0_11 : Int32) (x0_12 : Int32) (x1_1 : Int32) (x1_2 : Int32) : va_W := [(h0, .inr (10, [.ref y0_0, .ref y0_1, .ref y0_2, .ref h1, .ref y0_4, .ref y0_5, .ref y0_6, .ref y0_7, .ref y0_8, .ref y0_9, .ref y0_10, .int x0_11, .int x0_12])), (h1, .inr (8, [.ref y1_0, .int x1_1, .int x1_2]))]
set_option maxHeartbeats 4000000 in
set_option maxRecDepth 100000 in
theorem c_X10_undo (l : Launch) (G : GG) (h0 h1 y0_0 y0_1 y0_2 y0_4 y0_5 y0_6 y0_7 y0_8 y0_9 y0_10 y1_0 : Nat) (sz : Nat) (x0_11 : Int32) (x0_12 : Int32) (x1_1 : Int32) (x1_2 : Int32) (F : Nat)   (r0 : Int32) (e_x1_1 : Int32) (hf : p_X10_undo F x1_1  = some (r0, e_x1_1)) : Met l yX10_undo (.code yX10_undo cX10_undo 1 (some .boolean) :: gtbl) ({ frames := 1, cells := 0, slots := 0, locals := 20 } : Room) (PcS G [.ref h0] (wW_X10_undo G h0 h1 y0_0 y0_1 y0_2 y0_4 y0_5 y0_6 y0_7 y0_8 y0_9 y0_10 y1_0 x0_11 x0_12 x1_1 x1_2) sz) (QiS G r0 (va_A (wW_X10_undo G h0 h1 y0_0 y0_1 y0_2 y0_4 y0_5 y0_6 y0_7 y0_8 y0_9 y0_10 y1_0 x0_11 x0_12 x1_1 x1_2) sz) (wW_X10_undo G h0 h1 y0_0 y0_1 y0_2 y0_4 y0_5 y0_6 y0_7 y0_8 y0_9 y0_10 y1_0 x0_11 x0_12 e_x1_1 x1_2)) 0 0 (va_A (wW_X10_undo G h0 h1 y0_0 y0_1 y0_2 y0_4 y0_5 y0_6 y0_7 y0_8 y0_9 y0_10 y1_0 x0_11 x0_12 x1_1 x1_2) sz) := by
  refine met_start (by decide) (Nat.le_of_ble_eq_true rfl) ?_
  intro p e s m below meth c hC hr hlk hnm hK hP hD hA hS hX ls hl
  obtain ⟨hx, hb, hml, hown, ht0⟩ := hC
  have hown : s.vm.findClass RX10 = some m.cls := hown
  generalize va_A (wW_X10_undo G h0 h1 y0_0 y0_1 y0_2 y0_4 y0_5 y0_6 y0_7 y0_8 y0_9 y0_10 y1_0 x0_11 x0_12 x1_1 x1_2) sz = A at hD hA hS hX ⊢
  have hl : lv_has ls 1 [(0, .ref h0)] := hl
  have hf : p_X10_undo F x1_1  = some (r0, e_x1_1) := hf
  refine lv_aload_n hx hb dX10_undo_0 rfl (lv_at hl 0 rfl) ?_
  refine va_get (ci := 10) (v := .ref h1) (C := RX10) (T := TX10) (N := 13) hx hb ht0 iX10 hown hK hP 0 rfl rfl 3 (by decide) (ht0 _ wd_543) (fun _ h9 => h9) rfl dX10_undo_1 ?_
  obtain ⟨⟨r_4_0, r_4_0_x0_1⟩, hc_r_4_0, hf⟩ := of_bnd hf
  refine cl_Vi (w2 := (wW_X10_undo G h0 h1 y0_0 y0_1 y0_2 y0_4 y0_5 y0_6 y0_7 y0_8 y0_9 y0_10 y1_0 x0_11 x0_12 r_4_0_x0_1 x1_2)) (As := []) (rest := []) ⟨hx, hb, hml, hown, ht0⟩ (c_X8_stepBack l G h1 y1_0 _ x1_1 x1_2 F _ _ hc_r_4_0) yk_X8_stepBack wd_1019 ⟨rfl, rfl, by decide, by decide⟩ ⟨Nat.le_refl _, Nat.le_refl _⟩ hX hK hP hD hS hA [1] [0] [0, 1] (va_recv hK hP (ci := 8) (q0 := 1) rfl rfl) rfl rfl (by decide) rfl rfl rfl rfl rfl hl.1 rfl (Nat.le_of_ble_eq_true rfl) dX10_undo_4 (fun H locs hP hD hS => ?_)
  obtain ⟨g2, hf⟩ := of_grd hf
  have g2 := Decidable.not_not.mp g2
  cases hf
  exact ret_z hx hb hr hlk hK hP hD hS g2 dX10_undo_7
theorem yk_X10_undo : ykV yX10_undo RX10 cX10_undo 1 (some .boolean) 0 := ⟨wd_1016, wd_1017, wd_127, wd_1018, rfl, by decide +kernel, by decide +kernel, by decide +kernel⟩
theorem dX10_redo_0 : decode cX10_redo 0 = .ok (.aload_n 0, 1) := by decide +kernel
theorem dX10_redo_1 : decode cX10_redo 1 = .ok (.getfield 29, 3) := by decide +kernel
theorem dX10_redo_4 : decode cX10_redo 4 = .ok (.invokevirtual 250, 3) := by decide +kernel
theorem dX10_redo_7 : decode cX10_redo 7 = .ok (.ireturn, 1) := by decide +kernel
def wW_X10_redo (G : GG) (h0 h1 y0_0 y0_1 y0_2 y0_4 y0_5 y0_6 y0_7 y0_8 y0_9 y0_10 y1_0 : Nat) (x0_11 : Int32) (x0_12 : Int32) (x1_1 : Int32) (x1_2 : Int32) : va_W := [(h0, .inr (10, [.ref y0_0, .ref y0_1, .ref y0_2, .ref h1, .ref y0_4, .ref y0_5, .ref y0_6, .ref y0_7, .ref y0_8, .ref y0_9, .ref y0_10, .int x0_11, .int x0_12])), (h1, .inr (8, [.ref y1_0, .int x1_1, .int x1_2]))]
set_option maxHeartbeats 4000000 in
set_option maxRecDepth 100000 in
theorem c_X10_redo (l : Launch) (G : GG) (h0 h1 y0_0 y0_1 y0_2 y0_4 y0_5 y0_6 y0_7 y0_8 y0_9 y0_10 y1_0 : Nat) (sz : Nat) (x0_11 : Int32) (x0_12 : Int32) (x1_1 : Int32) (x1_2 : Int32) (F : Nat)   (r0 : Int32) (e_x1_1 : Int32) (hf : p_X10_redo F x1_1 x1_2  = some (r0, e_x1_1)) : Met l yX10_redo (.code yX10_redo cX10_redo 1 (some .boolean) :: gtbl) ({ frames := 1, cells := 0, slots := 0, locals := 20 } : Room) (PcS G [.ref h0] (wW_X10_redo G h0 h1 y0_0 y0_1 y0_2 y0_4 y0_5 y0_6 y0_7 y0_8 y0_9 y0_10 y1_0 x0_11 x0_12 x1_1 x1_2) sz) (QiS G r0 (va_A (wW_X10_redo G h0 h1 y0_0 y0_1 y0_2 y0_4 y0_5 y0_6 y0_7 y0_8 y0_9 y0_10 y1_0 x0_11 x0_12 x1_1 x1_2) sz) (wW_X10_redo G h0 h1 y0_0 y0_1 y0_2 y0_4 y0_5 y0_6 y0_7 y0_8 y0_9 y0_10 y1_0 x0_11 x0_12 e_x1_1 x1_2)) 0 0 (va_A (wW_X10_redo G h0 h1 y0_0 y0_1 y0_2 y0_4 y0_5 y0_6 y0_7 y0_8 y0_9 y0_10 y1_0 x0_11 x0_12 x1_1 x1_2) sz) := by
  refine met_start (by decide) (Nat.le_of_ble_eq_true rfl) ?_
  intro p e s m below meth c hC hr hlk hnm hK hP hD hA hS hX ls hl
  obtain ⟨hx, hb, hml, hown, ht0⟩ := hC
  have hown : s.vm.findClass RX10 = some m.cls := hown
  generalize va_A (wW_X10_redo G h0 h1 y0_0 y0_1 y0_2 y0_4 y0_5 y0_6 y0_7 y0_8 y0_9 y0_10 y1_0 x0_11 x0_12 x1_1 x1_2) sz = A at hD hA hS hX ⊢
  have hl : lv_has ls 1 [(0, .ref h0)] := hl
  have hf : p_X10_redo F x1_1 x1_2  = some (r0, e_x1_1) := hf
  refine lv_aload_n hx hb dX10_redo_0 rfl (lv_at hl 0 rfl) ?_
  refine va_get (ci := 10) (v := .ref h1) (C := RX10) (T := TX10) (N := 13) hx hb ht0 iX10 hown hK hP 0 rfl rfl 3 (by decide) (ht0 _ wd_543) (fun _ h9 => h9) rfl dX10_redo_1 ?_
  obtain ⟨⟨r_4_0, r_4_0_x0_1⟩, hc_r_4_0, hf⟩ := of_bnd hf
  refine cl_Vi (w2 := (wW_X10_redo G h0 h1 y0_0 y0_1 y0_2 y0_4 y0_5 y0_6 y0_7 y0_8 y0_9 y0_10 y1_0 x0_11 x0_12 r_4_0_x0_1 x1_2)) (As := []) (rest := []) ⟨hx, hb, hml, hown, ht0⟩ (c_X8_stepOn l G h1 y1_0 _ x1_1 x1_2 F _ _ hc_r_4_0) yk_X8_stepOn wd_1027 ⟨rfl, rfl, by decide, by decide⟩ ⟨Nat.le_refl _, Nat.le_refl _⟩ hX hK hP hD hS hA [1] [0] [0, 1] (va_recv hK hP (ci := 8) (q0 := 1) rfl rfl) rfl rfl (by decide) rfl rfl rfl rfl rfl hl.1 rfl (Nat.le_of_ble_eq_true rfl) dX10_redo_4 (fun H locs hP hD hS => ?_)
  obtain ⟨g2, hf⟩ := of_grd hf
  have g2 := Decidable.not_not.mp g2
  cases hf
  exact ret_z hx hb hr hlk hK hP hD hS g2 dX10_redo_7
theorem yk_X10_redo : ykV yX10_redo RX10 cX10_redo 1 (some .boolean) 0 := ⟨wd_1024, wd_1025, wd_127, wd_1026, rfl, by decide +kernel, by decide +kernel, by decide +kernel⟩
theorem dX10_columnOf_0 : decode cX10_columnOf 0 = .ok (.aload_n 0, 1) := by decide +kernel
theorem dX10_columnOf_1 : decode cX10_columnOf 1 = .ok (.getfield 29, 3) := by decide +kernel
theorem dX10_columnOf_4 : decode cX10_columnOf 4 = .ok (.invokevirtual 92, 3) := by decide +kernel
theorem dX10_columnOf_7 : decode cX10_columnOf 7 = .ok (.getfield 96, 3) := by decide +kernel
theorem dX10_columnOf_10 : decode cX10_columnOf 10 = .ok (.astore_n 2, 1) := by decide +kernel
theorem dX10_columnOf_11 : decode cX10_columnOf 11 = .ok (.aload_n 2, 1) := by decide +kernel
theorem dX10_columnOf_12 : decode cX10_columnOf 12 = .ok (.iload_n 1, 1) := by decide +kernel
theorem dX10_columnOf_13 : decode cX10_columnOf 13 = .ok (.invokevirtual 176, 3) := by decide +kernel
theorem dX10_columnOf_16 : decode cX10_columnOf 16 = .ok (.ifCond .eq 12, 3) := by decide +kernel
theorem dX10_columnOf_19 : decode cX10_columnOf 19 = .ok (.aload_n 2, 1) := by decide +kernel
theorem dX10_columnOf_20 : decode cX10_columnOf 20 = .ok (.getfield 253, 3) := by decide +kernel
theorem dX10_columnOf_23 : decode cX10_columnOf 23 = .ok (.iload_n 1, 1) := by decide +kernel
theorem dX10_columnOf_24 : decode cX10_columnOf 24 = .ok (.iaload, 1) := by decide +kernel
theorem dX10_columnOf_25 : decode cX10_columnOf 25 = .ok (.goto 4, 3) := by decide +kernel
theorem dX10_columnOf_28 : decode cX10_columnOf 28 = .ok (.iconst (-1), 1) := by decide +kernel
theorem dX10_columnOf_29 : decode cX10_columnOf 29 = .ok (.ireturn, 1) := by decide +kernel
def wW_X10_columnOf (G : GG) (h0 h1 h2 h3 h4 y0_0 y0_1 y0_2 y0_4 y0_5 y0_6 y0_7 y0_8 y0_9 y0_10 y3_4 y3_5 : Nat) (x0_11 : Int32) (x0_12 : Int32) (x1_1 : Int32) (x1_2 : Int32) (a2 : Nat → Option Nat) (x3_0 : Int32) (x3_1 : Int32) (x3_2 : Int32) (a4 : Nat → Int32) : va_W := [(h0, .inr (10, [.ref y0_0, .ref y0_1, .ref y0_2, .ref h1, .ref y0_4, .ref y0_5, .ref y0_6, .ref y0_7, .ref y0_8, .ref y0_9, .ref y0_10, .int x0_11, .int x0_12])), (h1, .inr (8, [.ref h2, .int x1_1, .int x1_2])), (h2, .inl (G.2.2.2.2.1, 13, .inr (.inr (.inr (.inr a2))))), (h3, .inr (1, [.int x3_0, .int x3_1, .int x3_2, .ref h4, .ref y3_4, .ref y3_5])), (h4, .inl (G.2.1, 32, .inl a4))]
set_option maxHeartbeats 4000000 in
set_option maxRecDepth 100000 in
theorem c_X10_columnOf (l : Launch) (G : GG) (h0 h1 h2 h3 h4 y0_0 y0_1 y0_2 y0_4 y0_5 y0_6 y0_7 y0_8 y0_9 y0_10 y3_4 y3_5 g_cur y_cur_words : Nat) (sz : Nat) (x0_11 : Int32) (x0_12 : Int32) (x1_1 : Int32) (x1_2 : Int32) (a2 : Nat → Option Nat) (x3_0 : Int32) (x3_1 : Int32) (x3_2 : Int32) (a4 : Nat → Int32) (F : Nat) (b1 : Int32) (hq_cur : (g_cur, h3, y_cur_words) ∈ gS G)  (r0 : Int32) (hf : p_X10_columnOf F g_cur x1_1 a2 x3_0 x3_1 a4 b1 = some r0) : Met l yX10_columnOf (.code yX10_columnOf cX10_columnOf 3 (some .int) :: gtbl) ({ frames := 2, cells := 0, slots := 0, locals := 41 } : Room) (PcS G [.ref h0, .int b1] (wW_X10_columnOf G h0 h1 h2 h3 h4 y0_0 y0_1 y0_2 y0_4 y0_5 y0_6 y0_7 y0_8 y0_9 y0_10 y3_4 y3_5 x0_11 x0_12 x1_1 x1_2 a2 x3_0 x3_1 x3_2 a4) sz) (QiS G r0 (va_A (wW_X10_columnOf G h0 h1 h2 h3 h4 y0_0 y0_1 y0_2 y0_4 y0_5 y0_6 y0_7 y0_8 y0_9 y0_10 y3_4 y3_5 x0_11 x0_12 x1_1 x1_2 a2 x3_0 x3_1 x3_2 a4) sz) (wW_X10_columnOf G h0 h1 h2 h3 h4 y0_0 y0_1 y0_2 y0_4 y0_5 y0_6 y0_7 y0_8 y0_9 y0_10 y3_4 y3_5 x0_11 x0_12 x1_1 x1_2 a2 x3_0 x3_1 x3_2 a4)) 0 0 (va_A (wW_X10_columnOf G h0 h1 h2 h3 h4 y0_0 y0_1 y0_2 y0_4 y0_5 y0_6 y0_7 y0_8 y0_9 y0_10 y3_4 y3_5 x0_11 x0_12 x1_1 x1_2 a2 x3_0 x3_1 x3_2 a4) sz) := by
  refine met_start (by decide) (Nat.le_of_ble_eq_true rfl) ?_
  intro p e s m below meth c hC hr hlk hnm hK hP hD hA hS hX ls hl
  obtain ⟨hx, hb, hml, hown, ht0⟩ := hC
  have hown : s.vm.findClass RX10 = some m.cls := hown
  generalize va_A (wW_X10_columnOf G h0 h1 h2 h3 h4 y0_0 y0_1 y0_2 y0_4 y0_5 y0_6 y0_7 y0_8 y0_9 y0_10 y3_4 y3_5 x0_11 x0_12 x1_1 x1_2 a2 x3_0 x3_1 x3_2 a4) sz = A at hD hA hS hX ⊢
  have hl : lv_has ls 3 [(0, .ref h0), (1, .int b1)] := hl
  have hf : p_X10_columnOf F g_cur x1_1 a2 x3_0 x3_1 a4 b1 = some r0 := hf
  refine lv_aload_n hx hb dX10_columnOf_0 rfl (lv_at hl 0 rfl) ?_
  refine va_get (ci := 10) (v := .ref h1) (C := RX10) (T := TX10) (N := 13) hx hb ht0 iX10 hown hK hP 0 rfl rfl 3 (by decide) (ht0 _ wd_543) (fun _ h9 => h9) rfl dX10_columnOf_1 ?_
  obtain ⟨_, hc_r_4_0, hf⟩ := of_bnd hf
  refine cl_Vr (w2 := (wW_X10_columnOf G h0 h1 h2 h3 h4 y0_0 y0_1 y0_2 y0_4 y0_5 y0_6 y0_7 y0_8 y0_9 y0_10 y3_4 y3_5 x0_11 x0_12 x1_1 x1_2 a2 x3_0 x3_1 x3_2 a4)) (As := []) (rest := []) ⟨hx, hb, hml, hown, ht0⟩ (c_X8_now l G h1 h2 g_cur h3 y_cur_words _ x1_1 x1_2 a2 F hq_cur hc_r_4_0) yk_X8_now wd_531 ⟨rfl, rfl, by decide, by decide⟩ ⟨Nat.le_refl _, Nat.le_refl _⟩ hX hK hP hD hS hA [1, 2] [0, 3, 4] [0, 3, 4, 1, 2] (va_recv hK hP (ci := 8) (q0 := 1) rfl rfl) rfl rfl (by decide) rfl rfl rfl rfl rfl hl.1 rfl (Nat.le_of_ble_eq_true rfl) dX10_columnOf_4 (fun H locs hP hD hS => ?_)
  refine vk_getf hx hb (hX.2.2 _ hq_cur).2.1 hS hown (ht0 _ wd_342) (fun _ h => h) dX10_columnOf_7 ?_
  refine lv_astore_n (lv' := [(2, .ref h3), (0, .ref h0), (1, .int b1)]) hx hb dX10_columnOf_10 rfl hl (by decide) rfl (fun ls hl => ?_)
  refine lv_aload_n hx hb dX10_columnOf_11 rfl (lv_at hl 0 rfl) ?_
  refine lv_iload_n hx hb dX10_columnOf_12 rfl (lv_at hl 2 rfl) ?_
  obtain ⟨r_13_1, hc_r_13_1, hf⟩ := of_bnd hf
  refine cl_Vi (w2 := (wW_X10_columnOf G h0 h1 h2 h3 h4 y0_0 y0_1 y0_2 y0_4 y0_5 y0_6 y0_7 y0_8 y0_9 y0_10 y3_4 y3_5 x0_11 x0_12 x1_1 x1_2 a2 x3_0 x3_1 x3_2 a4)) (As := [.int b1]) (rest := []) ⟨hx, hb, hml, hown, ht0⟩ (c_X1_isPlace l G h3 h4 y3_4 y3_5 _ x3_0 x3_1 x3_2 F b1 _ hc_r_13_1) yk_X1_isPlace wd_898 ⟨rfl, rfl, by decide, by decide⟩ ⟨Nat.le_refl _, Nat.le_refl _⟩ hX hK hP hD hS hA [3] [0, 1, 2, 4] [0, 1, 2, 4, 3] (va_recv hK hP (ci := 1) (q0 := 3) rfl rfl) rfl rfl (by decide) rfl rfl rfl rfl rfl hl.1 rfl (Nat.le_of_ble_eq_true rfl) dX10_columnOf_13 (fun H locs hP hD hS => ?_)
  refine lv_if_eq (tgt := 28) hx hb dX10_columnOf_16 (by decide) (fun c3 => ?_) (fun c3 => ?_)
  · have hf := of_pos hf c3
    refine lv_iconst (v := (-1 : Int32)) hx hb dX10_columnOf_28 (by decide) ?_
    cases hf
    exact ret_i hx hb hr hlk hK hP hD hS dX10_columnOf_29
  · have hf := of_neg hf c3
    refine lv_aload_n hx hb dX10_columnOf_19 rfl (lv_at hl 0 rfl) ?_
    refine va_get (ci := 1) (v := .ref h4) (C := RX1) (T := TX1) (N := 6) hx hb ht0 iX1 hown hK hP 3 rfl rfl 3 (by decide) (ht0 _ wd_231) (fun _ h9 => h9) rfl dX10_columnOf_20 ?_
    refine lv_iload_n hx hb dX10_columnOf_23 rfl (lv_at hl 2 rfl) ?_
    obtain ⟨g4, hf⟩ := of_grd hf
    refine va_iald hx hb hK hP 4 0 rfl rfl g4 dX10_columnOf_24 ?_
    refine lv_goto (tgt := 29) hx hb dX10_columnOf_25 (by decide) ?_
    cases hf
    exact ret_i hx hb hr hlk hK hP hD hS dX10_columnOf_29
theorem yk_X10_columnOf : ykV yX10_columnOf RX10 cX10_columnOf 3 (some .int) 1 := ⟨wd_1032, wd_1033, wd_127, wd_1034, rfl, by decide +kernel, by decide +kernel, by decide +kernel⟩
theorem dX10_row_0 : decode cX10_row 0 = .ok (.aload_n 0, 1) := by decide +kernel
theorem dX10_row_1 : decode cX10_row 1 = .ok (.getfield 29, 3) := by decide +kernel
theorem dX10_row_4 : decode cX10_row 4 = .ok (.invokevirtual 92, 3) := by decide +kernel
theorem dX10_row_7 : decode cX10_row 7 = .ok (.getfield 96, 3) := by decide +kernel
theorem dX10_row_10 : decode cX10_row 10 = .ok (.astore_n 3, 1) := by decide +kernel
theorem dX10_row_11 : decode cX10_row 11 = .ok (.iload_n 1, 1) := by decide +kernel
theorem dX10_row_12 : decode cX10_row 12 = .ok (.ifCond .lt 11, 3) := by decide +kernel
theorem dX10_row_15 : decode cX10_row 15 = .ok (.iload_n 1, 1) := by decide +kernel
theorem dX10_row_16 : decode cX10_row 16 = .ok (.aload_n 3, 1) := by decide +kernel
theorem dX10_row_17 : decode cX10_row 17 = .ok (.getfield 256, 3) := by decide +kernel
theorem dX10_row_20 : decode cX10_row 20 = .ok (.if_icmp .lt 5, 3) := by decide +kernel
theorem dX10_row_23 : decode cX10_row 23 = .ok (.iconst (-1), 1) := by decide +kernel
theorem dX10_row_24 : decode cX10_row 24 = .ok (.ireturn, 1) := by decide +kernel
theorem dX10_row_25 : decode cX10_row 25 = .ok (.iload_n 2, 1) := by decide +kernel
theorem dX10_row_26 : decode cX10_row 26 = .ok (.lookupswitch 41 #[(0, 26), (1, 32)], 26) := by decide +kernel
theorem dX10_row_52 : decode cX10_row 52 = .ok (.aload_n 3, 1) := by decide +kernel
theorem dX10_row_53 : decode cX10_row 53 = .ok (.iload_n 1, 1) := by decide +kernel
theorem dX10_row_54 : decode cX10_row 54 = .ok (.invokevirtual 259, 3) := by decide +kernel
theorem dX10_row_57 : decode cX10_row 57 = .ok (.ireturn, 1) := by decide +kernel
theorem dX10_row_58 : decode cX10_row 58 = .ok (.aload_n 3, 1) := by decide +kernel
theorem dX10_row_59 : decode cX10_row 59 = .ok (.iload_n 1, 1) := by decide +kernel
theorem dX10_row_60 : decode cX10_row 60 = .ok (.invokevirtual 259, 3) := by decide +kernel
theorem dX10_row_63 : decode cX10_row 63 = .ok (.invokestatic 262, 3) := by decide +kernel
theorem dX10_row_66 : decode cX10_row 66 = .ok (.ireturn, 1) := by decide +kernel
theorem dX10_row_67 : decode cX10_row 67 = .ok (.iconst (-1), 1) := by decide +kernel
theorem dX10_row_68 : decode cX10_row 68 = .ok (.ireturn, 1) := by decide +kernel
def wW_X10_row (G : GG) (h0 h1 h2 h3 h4 y0_0 y0_1 y0_2 y0_4 y0_5 y0_6 y0_7 y0_8 y0_9 y0_10 y3_4 y3_5 : Nat) (x0_11 : Int32) (x0_12 : Int32) (x1_1 : Int32) (x1_2 : Int32) (a2 : Nat → Option Nat) (x3_0 : Int32) (x3_1 : Int32) (x3_2 : Int32) (a4 : Nat → Int32) : va_W := [(h0, .inr (10, [.ref y0_0, .ref y0_1, .ref y0_2, .ref h1, .ref y0_4, .ref y0_5, .ref y0_6, .ref y0_7, .ref y0_8, .ref y0_9, .ref y0_10, .int x0_11, .int x0_12])), (h1, .inr (8, [.ref h2, .int x1_1, .int x1_2])), (h2, .inl (G.2.2.2.2.1, 13, .inr (.inr (.inr (.inr a2))))), (h3, .inr (1, [.int x3_0, .int x3_1, .int x3_2, .ref h4, .ref y3_4, .ref y3_5])), (h4, .inl (G.2.1, 32, .inl a4))]
set_option maxHeartbeats 4000000 in
set_option maxRecDepth 100000 in
theorem c_X10_row (l : Launch) (G : GG) (h0 h1 h2 h3 h4 y0_0 y0_1 y0_2 y0_4 y0_5 y0_6 y0_7 y0_8 y0_9 y0_10 y3_4 y3_5 g_cur y_cur_words : Nat) (sz : Nat) (x0_11 : Int32) (x0_12 : Int32) (x1_1 : Int32) (x1_2 : Int32) (a2 : Nat → Option Nat) (x3_0 : Int32) (x3_1 : Int32) (x3_2 : Int32) (a4 : Nat → Int32) (F : Nat) (b1 : Int32) (b2 : Int32) (hq_cur : (g_cur, h3, y_cur_words) ∈ gS G)  (r0 : Int32) (hf : p_X10_row F g_cur x1_1 a2 x3_0 x3_1 a4 b1 b2 = some r0) : Met l yX10_row (.code yX10_row cX10_row 4 (some .int) :: gtbl) ({ frames := 1, cells := 0, slots := 0, locals := 23 } : Room) (PcS G [.ref h0, .int b1, .int b2] (wW_X10_row G h0 h1 h2 h3 h4 y0_0 y0_1 y0_2 y0_4 y0_5 y0_6 y0_7 y0_8 y0_9 y0_10 y3_4 y3_5 x0_11 x0_12 x1_1 x1_2 a2 x3_0 x3_1 x3_2 a4) sz) (QiS G r0 (va_A (wW_X10_row G h0 h1 h2 h3 h4 y0_0 y0_1 y0_2 y0_4 y0_5 y0_6 y0_7 y0_8 y0_9 y0_10 y3_4 y3_5 x0_11 x0_12 x1_1 x1_2 a2 x3_0 x3_1 x3_2 a4) sz) (wW_X10_row G h0 h1 h2 h3 h4 y0_0 y0_1 y0_2 y0_4 y0_5 y0_6 y0_7 y0_8 y0_9 y0_10 y3_4 y3_5 x0_11 x0_12 x1_1 x1_2 a2 x3_0 x3_1 x3_2 a4)) 0 0 (va_A (wW_X10_row G h0 h1 h2 h3 h4 y0_0 y0_1 y0_2 y0_4 y0_5 y0_6 y0_7 y0_8 y0_9 y0_10 y3_4 y3_5 x0_11 x0_12 x1_1 x1_2 a2 x3_0 x3_1 x3_2 a4) sz) := by
  refine met_start (by decide) (Nat.le_of_ble_eq_true rfl) ?_
  intro p e s m below meth c hC hr hlk hnm hK hP hD hA hS hX ls hl
  obtain ⟨hx, hb, hml, hown, ht0⟩ := hC
  have hown : s.vm.findClass RX10 = some m.cls := hown
  generalize va_A (wW_X10_row G h0 h1 h2 h3 h4 y0_0 y0_1 y0_2 y0_4 y0_5 y0_6 y0_7 y0_8 y0_9 y0_10 y3_4 y3_5 x0_11 x0_12 x1_1 x1_2 a2 x3_0 x3_1 x3_2 a4) sz = A at hD hA hS hX ⊢
  have hl : lv_has ls 4 [(0, .ref h0), (1, .int b1), (2, .int b2)] := hl
  have hf : p_X10_row F g_cur x1_1 a2 x3_0 x3_1 a4 b1 b2 = some r0 := hf
  refine lv_aload_n hx hb dX10_row_0 rfl (lv_at hl 0 rfl) ?_
  refine va_get (ci := 10) (v := .ref h1) (C := RX10) (T := TX10) (N := 13) hx hb ht0 iX10 hown hK hP 0 rfl rfl 3 (by decide) (ht0 _ wd_543) (fun _ h9 => h9) rfl dX10_row_1 ?_
  obtain ⟨_, hc_r_4_0, hf⟩ := of_bnd hf
  refine cl_Vr (w2 := (wW_X10_row G h0 h1 h2 h3 h4 y0_0 y0_1 y0_2 y0_4 y0_5 y0_6 y0_7 y0_8 y0_9 y0_10 y3_4 y3_5 x0_11 x0_12 x1_1 x1_2 a2 x3_0 x3_1 x3_2 a4)) (As := []) (rest := []) ⟨hx, hb, hml, hown, ht0⟩ (c_X8_now l G h1 h2 g_cur h3 y_cur_words _ x1_1 x1_2 a2 F hq_cur hc_r_4_0) yk_X8_now wd_531 ⟨rfl, rfl, by decide, by decide⟩ ⟨Nat.le_refl _, Nat.le_refl _⟩ hX hK hP hD hS hA [1, 2] [0, 3, 4] [0, 3, 4, 1, 2] (va_recv hK hP (ci := 8) (q0 := 1) rfl rfl) rfl rfl (by decide) rfl rfl rfl rfl rfl hl.1 rfl (Nat.le_of_ble_eq_true rfl) dX10_row_4 (fun H locs hP hD hS => ?_)
  refine vk_getf hx hb (hX.2.2 _ hq_cur).2.1 hS hown (ht0 _ wd_342) (fun _ h => h) dX10_row_7 ?_
  refine lv_astore_n (lv' := [(3, .ref h3), (0, .ref h0), (1, .int b1), (2, .int b2)]) hx hb dX10_row_10 rfl hl (by decide) rfl (fun ls hl => ?_)
  refine lv_iload_n hx hb dX10_row_11 rfl (lv_at hl 2 rfl) ?_
  refine lv_if_lt (tgt := 23) hx hb dX10_row_12 (by decide) (fun c2 => ?_) (fun c2 => ?_)
  · have hf := of_pos hf c2
    refine lv_iconst (v := (-1 : Int32)) hx hb dX10_row_23 (by decide) ?_
    cases hf
    exact ret_i hx hb hr hlk hK hP hD hS dX10_row_24
  · have hf := of_neg hf c2
    refine lv_iload_n hx hb dX10_row_15 rfl (lv_at hl 2 rfl) ?_
    refine lv_aload_n hx hb dX10_row_16 rfl (lv_at hl 0 rfl) ?_
    refine va_get (ci := 1) (v := .int x3_1) (C := RX1) (T := TX1) (N := 6) hx hb ht0 iX1 hown hK hP 3 rfl rfl 1 (by decide) (ht0 _ wd_220) (fun _ h9 => h9) rfl dX10_row_17 ?_
    refine lv_icmp_lt (tgt := 25) hx hb dX10_row_20 (by decide) (fun c3 => ?_) (fun c3 => ?_)
    · have hf := of_pos hf c3
      refine lv_iload_n hx hb dX10_row_25 rfl (lv_at hl 3 rfl) ?_
      by_cases c4 : b2 = (0 : Int32)
      · have hf := of_pos hf c4
        refine lv_lookup (off := 26) (tgt := 52) hx hb dX10_row_26 (by decide) (by rw [c4]; rfl) (by decide) ?_
        refine lv_aload_n hx hb dX10_row_52 rfl (lv_at hl 0 rfl) ?_
        refine lv_iload_n hx hb dX10_row_53 rfl (lv_at hl 2 rfl) ?_
        obtain ⟨r_54_4, hc_r_54_4, hf⟩ := of_bnd hf
        refine cl_Vi (w2 := (wW_X10_row G h0 h1 h2 h3 h4 y0_0 y0_1 y0_2 y0_4 y0_5 y0_6 y0_7 y0_8 y0_9 y0_10 y3_4 y3_5 x0_11 x0_12 x1_1 x1_2 a2 x3_0 x3_1 x3_2 a4)) (As := [.int b1]) (rest := []) ⟨hx, hb, hml, hown, ht0⟩ (c_X1_wiresOf l G h3 h4 y3_4 y3_5 _ x3_0 x3_1 x3_2 a4 F b1 _ hc_r_54_4) yk_X1_wiresOf wd_1039 ⟨rfl, rfl, by decide, by decide⟩ ⟨Nat.le_refl _, Nat.le_refl _⟩ hX hK hP hD hS hA [3, 4] [0, 1, 2] [0, 1, 2, 3, 4] (va_recv hK hP (ci := 1) (q0 := 3) rfl rfl) rfl rfl (by decide) rfl rfl rfl rfl rfl hl.1 rfl (Nat.le_of_ble_eq_true rfl) dX10_row_54 (fun H locs hP hD hS => ?_)
        cases hf
        exact ret_i hx hb hr hlk hK hP hD hS dX10_row_57
      have hf := of_neg hf c4
      by_cases c6 : b2 = (1 : Int32)
      · have hf := of_pos hf c6
        refine lv_lookup (off := 32) (tgt := 58) hx hb dX10_row_26 (by decide) (by rw [c6]; rfl) (by decide) ?_
        refine lv_aload_n hx hb dX10_row_58 rfl (lv_at hl 0 rfl) ?_
        refine lv_iload_n hx hb dX10_row_59 rfl (lv_at hl 2 rfl) ?_
        obtain ⟨r_60_6, hc_r_60_6, hf⟩ := of_bnd hf
        refine cl_Vi (w2 := (wW_X10_row G h0 h1 h2 h3 h4 y0_0 y0_1 y0_2 y0_4 y0_5 y0_6 y0_7 y0_8 y0_9 y0_10 y3_4 y3_5 x0_11 x0_12 x1_1 x1_2 a2 x3_0 x3_1 x3_2 a4)) (As := [.int b1]) (rest := []) ⟨hx, hb, hml, hown, ht0⟩ (c_X1_wiresOf l G h3 h4 y3_4 y3_5 _ x3_0 x3_1 x3_2 a4 F b1 _ hc_r_60_6) yk_X1_wiresOf wd_1039 ⟨rfl, rfl, by decide, by decide⟩ ⟨Nat.le_refl _, Nat.le_refl _⟩ hX hK hP hD hS hA [3, 4] [0, 1, 2] [0, 1, 2, 3, 4] (va_recv hK hP (ci := 1) (q0 := 3) rfl rfl) rfl rfl (by decide) rfl rfl rfl rfl rfl hl.1 rfl (Nat.le_of_ble_eq_true rfl) dX10_row_60 (fun H locs hP hD hS => ?_)
        obtain ⟨r_63_7, hc_r_63_7, hf⟩ := of_bnd hf
        refine cl_Si (w2 := (wW_X10_row G h0 h1 h2 h3 h4 y0_0 y0_1 y0_2 y0_4 y0_5 y0_6 y0_7 y0_8 y0_9 y0_10 y3_4 y3_5 x0_11 x0_12 x1_1 x1_2 a2 x3_0 x3_1 x3_2 a4)) (As := [.int r_60_6]) (rest := []) ⟨hx, hb, hml, hown, ht0⟩ (c_X10_depthOfGates l G _ F r_60_6 _ hc_r_63_7) yk_X10_depthOfGates wd_1043 ⟨rfl, rfl, by decide, by decide⟩ ⟨Nat.le_refl _, Nat.le_refl _⟩ hX hK hP hD hS hA [] [0, 1, 2, 3, 4] [0, 1, 2, 3, 4] rfl rfl (by decide) rfl rfl rfl rfl rfl hl.1 rfl (Nat.le_of_ble_eq_true rfl) dX10_row_63 (fun H locs hP hD hS => ?_)
        cases hf
        exact ret_i hx hb hr hlk hK hP hD hS dX10_row_66
      have hf := of_neg hf c6
      refine lv_lookup (off := 41) (tgt := 67) hx hb dX10_row_26 (by decide) (by show Op.lookupswitch.offset [(0, 26), (1, 32)] _ _ = _; rw [lv_osw (a := 0) c4 rfl]; rw [lv_osw (a := 1) c6 rfl]; rfl) (by decide) ?_
      refine lv_iconst (v := (-1 : Int32)) hx hb dX10_row_67 (by decide) ?_
      cases hf
      exact ret_i hx hb hr hlk hK hP hD hS dX10_row_68
    · have hf := of_neg hf c3
      refine lv_iconst (v := (-1 : Int32)) hx hb dX10_row_23 (by decide) ?_
      cases hf
      exact ret_i hx hb hr hlk hK hP hD hS dX10_row_24
theorem yk_X10_row : ykV yX10_row RX10 cX10_row 4 (some .int) 2 := ⟨wd_1036, wd_1037, wd_127, wd_1038, rfl, by decide +kernel, by decide +kernel, by decide +kernel⟩
