theorem dX3_reset_0 : decode cX3_reset 0 = .ok (.aload_n 0, 1) := by decide +kernel
theorem dX3_reset_1 : decode cX3_reset 1 = .ok (.getfield 28, 3) := by decide +kernel
theorem dX3_reset_4 : decode cX3_reset 4 = .ok (.invokevirtual 82, 3) := by decide +kernel
theorem dX3_reset_7 : decode cX3_reset 7 = .ok (.aload_n 0, 1) := by decide +kernel
theorem dX3_reset_8 : decode cX3_reset 8 = .ok (.getfield 32, 3) := by decide +kernel
theorem dX3_reset_11 : decode cX3_reset 11 = .ok (.iconst 0, 1) := by decide +kernel
theorem dX3_reset_12 : decode cX3_reset 12 = .ok (.invokestatic 85, 3) := by decide +kernel
theorem dX3_reset_15 : decode cX3_reset 15 = .ok (.aload_n 0, 1) := by decide +kernel
theorem dX3_reset_16 : decode cX3_reset 16 = .ok (.iconst 0, 1) := by decide +kernel
theorem dX3_reset_17 : decode cX3_reset 17 = .ok (.putfield 39, 3) := by decide +kernel
theorem dX3_reset_20 : decode cX3_reset 20 = .ok (.aload_n 0, 1) := by decide +kernel
theorem dX3_reset_21 : decode cX3_reset 21 = .ok (.iconst (-1), 1) := by decide +kernel
theorem dX3_reset_22 : decode cX3_reset 22 = .ok (.putfield 91, 3) := by decide +kernel
theorem dX3_reset_25 : decode cX3_reset 25 = .ok (.aload_n 0, 1) := by decide +kernel
theorem dX3_reset_26 : decode cX3_reset 26 = .ok (.iconst 0, 1) := by decide +kernel
theorem dX3_reset_27 : decode cX3_reset 27 = .ok (.putfield 94, 3) := by decide +kernel
theorem dX3_reset_30 : decode cX3_reset 30 = .ok (.aload_n 0, 1) := by decide +kernel
theorem dX3_reset_31 : decode cX3_reset 31 = .ok (.iconst 0, 1) := by decide +kernel
theorem dX3_reset_32 : decode cX3_reset 32 = .ok (.putfield 68, 3) := by decide +kernel
theorem dX3_reset_35 : decode cX3_reset 35 = .ok (.aload_n 0, 1) := by decide +kernel
theorem dX3_reset_36 : decode cX3_reset 36 = .ok (.iconst 0, 1) := by decide +kernel
theorem dX3_reset_37 : decode cX3_reset 37 = .ok (.putfield 50, 3) := by decide +kernel
theorem dX3_reset_40 : decode cX3_reset 40 = .ok (.aload_n 0, 1) := by decide +kernel
theorem dX3_reset_41 : decode cX3_reset 41 = .ok (.iconst 0, 1) := by decide +kernel
theorem dX3_reset_42 : decode cX3_reset 42 = .ok (.putfield 97, 3) := by decide +kernel
theorem dX3_reset_45 : decode cX3_reset 45 = .ok (.aload_n 0, 1) := by decide +kernel
theorem dX3_reset_46 : decode cX3_reset 46 = .ok (.iconst 0, 1) := by decide +kernel
theorem dX3_reset_47 : decode cX3_reset 47 = .ok (.putfield 57, 3) := by decide +kernel
theorem dX3_reset_50 : decode cX3_reset 50 = .ok (.return_, 1) := by decide +kernel
def wW_X3_reset (G : GG) (h0 h1 h2 y0_0 y0_1 y1_3 y1_4 y1_5 : Nat) (x0_4 : Int32) (x0_5 : Int32) (x0_6 : Int32) (x0_7 : Int32) (x0_8 : Int32) (x0_9 : Int32) (x0_10 : Int32) (x0_11 : Int32) (x0_12 : Int32) (x0_13 : Int32) (x0_14 : Int32) (x1_0 : Int32) (x1_1 : Int32) (x1_2 : Int32) (a2 : Nat → Int32) : va_W := [(h0, .inr (3, [.ref y0_0, .ref y0_1, .ref h1, .ref h2, .int x0_4, .int x0_5, .int x0_6, .int x0_7, .int x0_8, .int x0_9, .int x0_10, .int x0_11, .int x0_12, .int x0_13, .int x0_14])), (h1, .inr (1, [.int x1_0, .int x1_1, .int x1_2, .ref y1_3, .ref y1_4, .ref y1_5])), (h2, .inl (G.2.1, 16, .inl a2))]
set_option maxHeartbeats 4000000 in
set_option maxRecDepth 100000 in
theorem c_X3_reset (l : Launch) (G : GG) (h0 h1 h2 y0_0 y0_1 y1_3 y1_4 y1_5 : Nat) (sz : Nat) (x0_4 : Int32) (x0_5 : Int32) (x0_6 : Int32) (x0_7 : Int32) (x0_8 : Int32) (x0_9 : Int32) (x0_10 : Int32) (x0_11 : Int32) (x0_12 : Int32) (x0_13 : Int32) (x0_14 : Int32) (x1_0 : Int32) (x1_1 : Int32) (x1_2 : Int32) (a2 : Nat → Int32) (F : Nat)   (e_x0_4 : Int32) (e_x0_5 : Int32) (e_x0_6 : Int32) (e_x0_10 : Int32) (e_x0_11 : Int32) (e_x0_12 : Int32) (e_x0_13 : Int32) (e_x1_0 : Int32) (e_x1_1 : Int32) (e_x1_2 : Int32) (e_a2 : Nat → Int32) (hf : p_X3_reset F x0_4 x0_5 x0_6 x0_10 x0_11 x0_12 x0_13 x1_0 x1_1 x1_2 a2  = some (e_x0_4, e_x0_5, e_x0_6, e_x0_10, e_x0_11, e_x0_12, e_x0_13, e_x1_0, e_x1_1, e_x1_2, e_a2)) : Met l yX3_reset (.code yX3_reset cX3_reset 1 none :: gtbl) ({ frames := 1, cells := 0, slots := 0, locals := 23 } : Room) (PcS G [.ref h0] (wW_X3_reset G h0 h1 h2 y0_0 y0_1 y1_3 y1_4 y1_5 x0_4 x0_5 x0_6 x0_7 x0_8 x0_9 x0_10 x0_11 x0_12 x0_13 x0_14 x1_0 x1_1 x1_2 a2) sz) (QvS G (va_A (wW_X3_reset G h0 h1 h2 y0_0 y0_1 y1_3 y1_4 y1_5 x0_4 x0_5 x0_6 x0_7 x0_8 x0_9 x0_10 x0_11 x0_12 x0_13 x0_14 x1_0 x1_1 x1_2 a2) sz) (wW_X3_reset G h0 h1 h2 y0_0 y0_1 y1_3 y1_4 y1_5 e_x0_4 e_x0_5 e_x0_6 x0_7 x0_8 x0_9 e_x0_10 e_x0_11 e_x0_12 e_x0_13 x0_14 e_x1_0 e_x1_1 e_x1_2 e_a2)) 0 0 (va_A (wW_X3_reset G h0 h1 h2 y0_0 y0_1 y1_3 y1_4 y1_5 x0_4 x0_5 x0_6 x0_7 x0_8 x0_9 x0_10 x0_11 x0_12 x0_13 x0_14 x1_0 x1_1 x1_2 a2) sz) := by
  refine met_start (by decide) (Nat.le_of_ble_eq_true rfl) ?_
  intro p e s m below meth c hC hr hlk hnm hK hP hD hA hS hX ls hl
  obtain ⟨hx, hb, hml, hown, ht0⟩ := hC
  have hown : s.vm.findClass RX3 = some m.cls := hown
  generalize va_A (wW_X3_reset G h0 h1 h2 y0_0 y0_1 y1_3 y1_4 y1_5 x0_4 x0_5 x0_6 x0_7 x0_8 x0_9 x0_10 x0_11 x0_12 x0_13 x0_14 x1_0 x1_1 x1_2 a2) sz = A at hD hA hS hX ⊢
  have hl : lv_has ls 1 [(0, .ref h0)] := hl
  have hf : p_X3_reset F x0_4 x0_5 x0_6 x0_10 x0_11 x0_12 x0_13 x1_0 x1_1 x1_2 a2  = some (e_x0_4, e_x0_5, e_x0_6, e_x0_10, e_x0_11, e_x0_12, e_x0_13, e_x1_0, e_x1_1, e_x1_2, e_a2) := hf
  refine lv_aload_n hx hb dX3_reset_0 rfl (lv_at hl 0 rfl) ?_
  refine va_get (ci := 3) (v := .ref h1) (C := RX3) (T := TX3) (N := 15) hx hb ht0 iX3 hown hK hP 0 rfl rfl 2 (by decide) (ht0 _ wd_251) (fun _ h9 => h9) rfl dX3_reset_1 ?_
  obtain ⟨⟨r_4_0_x0_0, r_4_0_x0_1, r_4_0_x0_2⟩, hc_r_4_0, hf⟩ := of_bnd hf
  refine cl_Vv (w2 := (wW_X3_reset G h0 h1 h2 y0_0 y0_1 y1_3 y1_4 y1_5 x0_4 x0_5 x0_6 x0_7 x0_8 x0_9 x0_10 x0_11 x0_12 x0_13 x0_14 r_4_0_x0_0 r_4_0_x0_1 r_4_0_x0_2 a2)) (As := []) (rest := []) ⟨hx, hb, hml, hown, ht0⟩ (c_X1_resetSize l G h1 y1_3 y1_4 y1_5 _ x1_0 x1_1 x1_2 F _ _ _ hc_r_4_0) yk_X1_resetSize wd_608 ⟨rfl, rfl, by decide, by decide⟩ ⟨Nat.le_refl _, Nat.le_refl _⟩ hX hK hP hD hS hA [1] [0, 2] [0, 2, 1] (va_recv hK hP (ci := 1) (q0 := 1) rfl rfl) rfl rfl (by decide) rfl rfl rfl rfl rfl hl.1 rfl (Nat.le_of_ble_eq_true rfl) dX3_reset_4 (fun H locs hP hD hS => ?_)
  refine lv_aload_n hx hb dX3_reset_7 rfl (lv_at hl 0 rfl) ?_
  refine va_get (ci := 3) (v := .ref h2) (C := RX3) (T := TX3) (N := 15) hx hb ht0 iX3 hown hK hP 0 rfl rfl 3 (by decide) (ht0 _ wd_253) (fun _ h9 => h9) rfl dX3_reset_8 ?_
  refine lv_iconst (v := (0 : Int32)) hx hb dX3_reset_11 (by decide) ?_
  obtain ⟨r_12_1_a0, hc_r_12_1, hf⟩ := of_bnd hf
  refine cl_Sv (w2 := (wW_X3_reset G h0 h1 h2 y0_0 y0_1 y1_3 y1_4 y1_5 x0_4 x0_5 x0_6 x0_7 x0_8 x0_9 x0_10 x0_11 x0_12 x0_13 x0_14 r_4_0_x0_0 r_4_0_x0_1 r_4_0_x0_2 r_12_1_a0)) (As := [.ref h2, .int (0 : Int32)]) (rest := []) ⟨hx, hb, hml, hown, ht0⟩ (c_J7_fill_53178 l G 16 h2 _ a2 F (0 : Int32) _ hc_r_12_1) yk_J7_fill_53178 wd_612 ⟨rfl, rfl, by decide, by decide⟩ ⟨Nat.le_refl _, Nat.le_refl _⟩ hX hK hP hD hS hA [2] [0, 1] [0, 1, 2] rfl rfl (by decide) rfl rfl rfl rfl rfl hl.1 rfl (Nat.le_of_ble_eq_true rfl) dX3_reset_12 (fun H locs hP hD hS => ?_)
  refine lv_aload_n hx hb dX3_reset_15 rfl (lv_at hl 0 rfl) ?_
  refine lv_iconst (v := (0 : Int32)) hx hb dX3_reset_16 (by decide) ?_
  refine va_put (ci := 3) (v := .int (0 : Int32)) (ty := .int) (C := RX3) (T := TX3) (N := 15) hx hb ht0 iX3 tyX3 tyX3_ok nmX3 hown hK hP hD hS 0 rfl rfl 4 (by decide) (ht0 _ wd_255) (fun _ h9 => h9) rfl rfl rfl rfl (Nat.le_of_ble_eq_true rfl) dX3_reset_17 (fun H locs hP hD hS => ?_)
  have hP : va_P G.1 vwCl (wW_X3_reset G h0 h1 h2 y0_0 y0_1 y1_3 y1_4 y1_5 (0 : Int32) x0_5 x0_6 x0_7 x0_8 x0_9 x0_10 x0_11 x0_12 x0_13 x0_14 r_4_0_x0_0 r_4_0_x0_1 r_4_0_x0_2 r_12_1_a0) H := hP
  have hD : va_D A (wW_X3_reset G h0 h1 h2 y0_0 y0_1 y1_3 y1_4 y1_5 (0 : Int32) x0_5 x0_6 x0_7 x0_8 x0_9 x0_10 x0_11 x0_12 x0_13 x0_14 r_4_0_x0_0 r_4_0_x0_1 r_4_0_x0_2 r_12_1_a0) := hD
  refine lv_aload_n hx hb dX3_reset_20 rfl (lv_at hl 0 rfl) ?_
  refine lv_iconst (v := (-1 : Int32)) hx hb dX3_reset_21 (by decide) ?_
  refine va_put (ci := 3) (v := .int (-1 : Int32)) (ty := .int) (C := RX3) (T := TX3) (N := 15) hx hb ht0 iX3 tyX3 tyX3_ok nmX3 hown hK hP hD hS 0 rfl rfl 5 (by decide) (ht0 _ wd_257) (fun _ h9 => h9) rfl rfl rfl rfl (Nat.le_of_ble_eq_true rfl) dX3_reset_22 (fun H locs hP hD hS => ?_)
  have hP : va_P G.1 vwCl (wW_X3_reset G h0 h1 h2 y0_0 y0_1 y1_3 y1_4 y1_5 (0 : Int32) (-1 : Int32) x0_6 x0_7 x0_8 x0_9 x0_10 x0_11 x0_12 x0_13 x0_14 r_4_0_x0_0 r_4_0_x0_1 r_4_0_x0_2 r_12_1_a0) H := hP
  have hD : va_D A (wW_X3_reset G h0 h1 h2 y0_0 y0_1 y1_3 y1_4 y1_5 (0 : Int32) (-1 : Int32) x0_6 x0_7 x0_8 x0_9 x0_10 x0_11 x0_12 x0_13 x0_14 r_4_0_x0_0 r_4_0_x0_1 r_4_0_x0_2 r_12_1_a0) := hD
  refine lv_aload_n hx hb dX3_reset_25 rfl (lv_at hl 0 rfl) ?_
  refine lv_iconst (v := (0 : Int32)) hx hb dX3_reset_26 (by decide) ?_
  refine va_put (ci := 3) (v := .int (0 : Int32)) (ty := .int) (C := RX3) (T := TX3) (N := 15) hx hb ht0 iX3 tyX3 tyX3_ok nmX3 hown hK hP hD hS 0 rfl rfl 6 (by decide) (ht0 _ wd_259) (fun _ h9 => h9) rfl rfl rfl rfl (Nat.le_of_ble_eq_true rfl) dX3_reset_27 (fun H locs hP hD hS => ?_)
  have hP : va_P G.1 vwCl (wW_X3_reset G h0 h1 h2 y0_0 y0_1 y1_3 y1_4 y1_5 (0 : Int32) (-1 : Int32) (0 : Int32) x0_7 x0_8 x0_9 x0_10 x0_11 x0_12 x0_13 x0_14 r_4_0_x0_0 r_4_0_x0_1 r_4_0_x0_2 r_12_1_a0) H := hP
  have hD : va_D A (wW_X3_reset G h0 h1 h2 y0_0 y0_1 y1_3 y1_4 y1_5 (0 : Int32) (-1 : Int32) (0 : Int32) x0_7 x0_8 x0_9 x0_10 x0_11 x0_12 x0_13 x0_14 r_4_0_x0_0 r_4_0_x0_1 r_4_0_x0_2 r_12_1_a0) := hD
  refine lv_aload_n hx hb dX3_reset_30 rfl (lv_at hl 0 rfl) ?_
  refine lv_iconst (v := (0 : Int32)) hx hb dX3_reset_31 (by decide) ?_
  refine va_put (ci := 3) (v := .int (0 : Int32)) (ty := .int) (C := RX3) (T := TX3) (N := 15) hx hb ht0 iX3 tyX3 tyX3_ok nmX3 hown hK hP hD hS 0 rfl rfl 10 (by decide) (ht0 _ wd_263) (fun _ h9 => h9) rfl rfl rfl rfl (Nat.le_of_ble_eq_true rfl) dX3_reset_32 (fun H locs hP hD hS => ?_)
  have hP : va_P G.1 vwCl (wW_X3_reset G h0 h1 h2 y0_0 y0_1 y1_3 y1_4 y1_5 (0 : Int32) (-1 : Int32) (0 : Int32) x0_7 x0_8 x0_9 (0 : Int32) x0_11 x0_12 x0_13 x0_14 r_4_0_x0_0 r_4_0_x0_1 r_4_0_x0_2 r_12_1_a0) H := hP
  have hD : va_D A (wW_X3_reset G h0 h1 h2 y0_0 y0_1 y1_3 y1_4 y1_5 (0 : Int32) (-1 : Int32) (0 : Int32) x0_7 x0_8 x0_9 (0 : Int32) x0_11 x0_12 x0_13 x0_14 r_4_0_x0_0 r_4_0_x0_1 r_4_0_x0_2 r_12_1_a0) := hD
  refine lv_aload_n hx hb dX3_reset_35 rfl (lv_at hl 0 rfl) ?_
  refine lv_iconst (v := (0 : Int32)) hx hb dX3_reset_36 (by decide) ?_
  refine va_put (ci := 3) (v := .int (0 : Int32)) (ty := .int) (C := RX3) (T := TX3) (N := 15) hx hb ht0 iX3 tyX3 tyX3_ok nmX3 hown hK hP hD hS 0 rfl rfl 11 (by decide) (ht0 _ wd_264) (fun _ h9 => h9) rfl rfl rfl rfl (Nat.le_of_ble_eq_true rfl) dX3_reset_37 (fun H locs hP hD hS => ?_)
  have hP : va_P G.1 vwCl (wW_X3_reset G h0 h1 h2 y0_0 y0_1 y1_3 y1_4 y1_5 (0 : Int32) (-1 : Int32) (0 : Int32) x0_7 x0_8 x0_9 (0 : Int32) (0 : Int32) x0_12 x0_13 x0_14 r_4_0_x0_0 r_4_0_x0_1 r_4_0_x0_2 r_12_1_a0) H := hP
  have hD : va_D A (wW_X3_reset G h0 h1 h2 y0_0 y0_1 y1_3 y1_4 y1_5 (0 : Int32) (-1 : Int32) (0 : Int32) x0_7 x0_8 x0_9 (0 : Int32) (0 : Int32) x0_12 x0_13 x0_14 r_4_0_x0_0 r_4_0_x0_1 r_4_0_x0_2 r_12_1_a0) := hD
  refine lv_aload_n hx hb dX3_reset_40 rfl (lv_at hl 0 rfl) ?_
  refine lv_iconst (v := (0 : Int32)) hx hb dX3_reset_41 (by decide) ?_
  refine va_put (ci := 3) (v := .int (0 : Int32)) (ty := .int) (C := RX3) (T := TX3) (N := 15) hx hb ht0 iX3 tyX3 tyX3_ok nmX3 hown hK hP hD hS 0 rfl rfl 12 (by decide) (ht0 _ wd_265) (fun _ h9 => h9) rfl rfl rfl rfl (Nat.le_of_ble_eq_true rfl) dX3_reset_42 (fun H locs hP hD hS => ?_)
  have hP : va_P G.1 vwCl (wW_X3_reset G h0 h1 h2 y0_0 y0_1 y1_3 y1_4 y1_5 (0 : Int32) (-1 : Int32) (0 : Int32) x0_7 x0_8 x0_9 (0 : Int32) (0 : Int32) (0 : Int32) x0_13 x0_14 r_4_0_x0_0 r_4_0_x0_1 r_4_0_x0_2 r_12_1_a0) H := hP
  have hD : va_D A (wW_X3_reset G h0 h1 h2 y0_0 y0_1 y1_3 y1_4 y1_5 (0 : Int32) (-1 : Int32) (0 : Int32) x0_7 x0_8 x0_9 (0 : Int32) (0 : Int32) (0 : Int32) x0_13 x0_14 r_4_0_x0_0 r_4_0_x0_1 r_4_0_x0_2 r_12_1_a0) := hD
  refine lv_aload_n hx hb dX3_reset_45 rfl (lv_at hl 0 rfl) ?_
  refine lv_iconst (v := (0 : Int32)) hx hb dX3_reset_46 (by decide) ?_
  refine va_put (ci := 3) (v := .int (0 : Int32)) (ty := .boolean) (C := RX3) (T := TX3) (N := 15) hx hb ht0 iX3 tyX3 tyX3_ok nmX3 hown hK hP hD hS 0 rfl rfl 13 (by decide) (ht0 _ wd_266) (fun _ h9 => h9) rfl rfl rfl rfl (Nat.le_of_ble_eq_true rfl) dX3_reset_47 (fun H locs hP hD hS => ?_)
  have hP : va_P G.1 vwCl (wW_X3_reset G h0 h1 h2 y0_0 y0_1 y1_3 y1_4 y1_5 (0 : Int32) (-1 : Int32) (0 : Int32) x0_7 x0_8 x0_9 (0 : Int32) (0 : Int32) (0 : Int32) (0 : Int32) x0_14 r_4_0_x0_0 r_4_0_x0_1 r_4_0_x0_2 r_12_1_a0) H := hP
  have hD : va_D A (wW_X3_reset G h0 h1 h2 y0_0 y0_1 y1_3 y1_4 y1_5 (0 : Int32) (-1 : Int32) (0 : Int32) x0_7 x0_8 x0_9 (0 : Int32) (0 : Int32) (0 : Int32) (0 : Int32) x0_14 r_4_0_x0_0 r_4_0_x0_1 r_4_0_x0_2 r_12_1_a0) := hD
  cases hf
  exact ret_v hx hb hr hlk hK hP hD hS dX3_reset_50
theorem yk_X3_reset : ykV yX3_reset RX3 cX3_reset 1 none 0 := ⟨wd_606, wd_10, wd_128, wd_607, rfl, by decide +kernel, by decide +kernel, by decide +kernel⟩
theorem dX3_isBlank_0 : decode cX3_isBlank 0 = .ok (.iload_n 0, 1) := by decide +kernel
theorem dX3_isBlank_1 : decode cX3_isBlank 1 = .ok (.bipush 32, 2) := by decide +kernel
theorem dX3_isBlank_3 : decode cX3_isBlank 3 = .ok (.if_icmp .eq 9, 3) := by decide +kernel
theorem dX3_isBlank_6 : decode cX3_isBlank 6 = .ok (.iload_n 0, 1) := by decide +kernel
theorem dX3_isBlank_7 : decode cX3_isBlank 7 = .ok (.bipush 10, 2) := by decide +kernel
theorem dX3_isBlank_9 : decode cX3_isBlank 9 = .ok (.if_icmp .ne 7, 3) := by decide +kernel
theorem dX3_isBlank_12 : decode cX3_isBlank 12 = .ok (.iconst 1, 1) := by decide +kernel
theorem dX3_isBlank_13 : decode cX3_isBlank 13 = .ok (.goto 4, 3) := by decide +kernel
theorem dX3_isBlank_16 : decode cX3_isBlank 16 = .ok (.iconst 0, 1) := by decide +kernel
theorem dX3_isBlank_17 : decode cX3_isBlank 17 = .ok (.ireturn, 1) := by decide +kernel
set_option maxHeartbeats 4000000 in
set_option maxRecDepth 100000 in
theorem c_X3_isBlank (l : Launch) (G : GG) (sz : Nat)  (F : Nat) (b0 : Int32)  (r0 : Int32) (hf : p_X3_isBlank F b0 = some r0) : Met l yX3_isBlank (.code yX3_isBlank cX3_isBlank 1 (some .boolean) :: gtbl) ({ frames := 0, cells := 0, slots := 0, locals := 0 } : Room) (PcS G [.int b0] [] sz) (QiS G r0 (va_A [] sz) []) 0 0 (va_A [] sz) := by
  refine met_start (by decide) (Nat.le_of_ble_eq_true rfl) ?_
  intro p e s m below meth c hC hr hlk hnm hK hP hD hA hS hX ls hl
  obtain ⟨hx, hb, hml, hown, ht0⟩ := hC
  have hown : s.vm.findClass RX3 = some m.cls := hown
  generalize va_A [] sz = A at hD hA hS hX ⊢
  have hl : lv_has ls 1 [(0, .int b0)] := hl
  have hf : p_X3_isBlank F b0 = some r0 := hf
  refine lv_iload_n hx hb dX3_isBlank_0 rfl (lv_at hl 0 rfl) ?_
  refine lv_bipush (v := (32 : Int32)) hx hb dX3_isBlank_1 (by decide) ?_
  refine lv_icmp_eq (tgt := 12) hx hb dX3_isBlank_3 (by decide) (fun c1 => ?_) (fun c1 => ?_)
  · have hf := of_pos hf c1
    refine lv_iconst (v := (1 : Int32)) hx hb dX3_isBlank_12 (by decide) ?_
    refine lv_goto (tgt := 17) hx hb dX3_isBlank_13 (by decide) ?_
    cases hf
    exact ret_z hx hb hr hlk hK hP hD hS (by decide) dX3_isBlank_17
  · have hf := of_neg hf c1
    refine lv_iload_n hx hb dX3_isBlank_6 rfl (lv_at hl 0 rfl) ?_
    refine lv_bipush (v := (10 : Int32)) hx hb dX3_isBlank_7 (by decide) ?_
    refine lv_icmp_ne (tgt := 16) hx hb dX3_isBlank_9 (by decide) (fun c2 => ?_) (fun c2 => ?_)
    · have hf := of_neg hf c2
      refine lv_iconst (v := (0 : Int32)) hx hb dX3_isBlank_16 (by decide) ?_
      cases hf
      exact ret_z hx hb hr hlk hK hP hD hS (by decide) dX3_isBlank_17
    · have hf := of_pos hf c2
      refine lv_iconst (v := (1 : Int32)) hx hb dX3_isBlank_12 (by decide) ?_
      refine lv_goto (tgt := 17) hx hb dX3_isBlank_13 (by decide) ?_
      cases hf
      exact ret_z hx hb hr hlk hK hP hD hS (by decide) dX3_isBlank_17
theorem yk_X3_isBlank : ykS yX3_isBlank cX3_isBlank 1 (some .boolean) 1 := ⟨wd_622, wd_128, wd_623, by decide +kernel, by decide +kernel, by decide +kernel⟩
theorem dX3_isLetter_0 : decode cX3_isLetter 0 = .ok (.iload_n 0, 1) := by decide +kernel
theorem dX3_isLetter_1 : decode cX3_isLetter 1 = .ok (.bipush 97, 2) := by decide +kernel
theorem dX3_isLetter_3 : decode cX3_isLetter 3 = .ok (.if_icmp .lt 13, 3) := by decide +kernel
theorem dX3_isLetter_6 : decode cX3_isLetter 6 = .ok (.iload_n 0, 1) := by decide +kernel
theorem dX3_isLetter_7 : decode cX3_isLetter 7 = .ok (.bipush 122, 2) := by decide +kernel
theorem dX3_isLetter_9 : decode cX3_isLetter 9 = .ok (.if_icmp .gt 7, 3) := by decide +kernel
theorem dX3_isLetter_12 : decode cX3_isLetter 12 = .ok (.iconst 1, 1) := by decide +kernel
theorem dX3_isLetter_13 : decode cX3_isLetter 13 = .ok (.goto 4, 3) := by decide +kernel
theorem dX3_isLetter_16 : decode cX3_isLetter 16 = .ok (.iconst 0, 1) := by decide +kernel
theorem dX3_isLetter_17 : decode cX3_isLetter 17 = .ok (.ireturn, 1) := by decide +kernel
set_option maxHeartbeats 4000000 in
set_option maxRecDepth 100000 in
theorem c_X3_isLetter (l : Launch) (G : GG) (sz : Nat)  (F : Nat) (b0 : Int32)  (r0 : Int32) (hf : p_X3_isLetter F b0 = some r0) : Met l yX3_isLetter (.code yX3_isLetter cX3_isLetter 1 (some .boolean) :: gtbl) ({ frames := 0, cells := 0, slots := 0, locals := 0 } : Room) (PcS G [.int b0] [] sz) (QiS G r0 (va_A [] sz) []) 0 0 (va_A [] sz) := by
  refine met_start (by decide) (Nat.le_of_ble_eq_true rfl) ?_
  intro p e s m below meth c hC hr hlk hnm hK hP hD hA hS hX ls hl
  obtain ⟨hx, hb, hml, hown, ht0⟩ := hC
  have hown : s.vm.findClass RX3 = some m.cls := hown
  generalize va_A [] sz = A at hD hA hS hX ⊢
  have hl : lv_has ls 1 [(0, .int b0)] := hl
  have hf : p_X3_isLetter F b0 = some r0 := hf
  refine lv_iload_n hx hb dX3_isLetter_0 rfl (lv_at hl 0 rfl) ?_
  refine lv_bipush (v := (97 : Int32)) hx hb dX3_isLetter_1 (by decide) ?_
  refine lv_icmp_lt (tgt := 16) hx hb dX3_isLetter_3 (by decide) (fun c1 => ?_) (fun c1 => ?_)
  · have hf := of_pos hf c1
    refine lv_iconst (v := (0 : Int32)) hx hb dX3_isLetter_16 (by decide) ?_
    cases hf
    exact ret_z hx hb hr hlk hK hP hD hS (by decide) dX3_isLetter_17
  · have hf := of_neg hf c1
    refine lv_iload_n hx hb dX3_isLetter_6 rfl (lv_at hl 0 rfl) ?_
    refine lv_bipush (v := (122 : Int32)) hx hb dX3_isLetter_7 (by decide) ?_
    refine lv_icmp_gt (tgt := 16) hx hb dX3_isLetter_9 (by decide) (fun c2 => ?_) (fun c2 => ?_)
    · have hf := of_pos hf c2
      refine lv_iconst (v := (0 : Int32)) hx hb dX3_isLetter_16 (by decide) ?_
      cases hf
      exact ret_z hx hb hr hlk hK hP hD hS (by decide) dX3_isLetter_17
    · have hf := of_neg hf c2
      refine lv_iconst (v := (1 : Int32)) hx hb dX3_isLetter_12 (by decide) ?_
      refine lv_goto (tgt := 17) hx hb dX3_isLetter_13 (by decide) ?_
      cases hf
      exact ret_z hx hb hr hlk hK hP hD hS (by decide) dX3_isLetter_17
theorem yk_X3_isLetter : ykS yX3_isLetter cX3_isLetter 1 (some .boolean) 1 := ⟨wd_625, wd_128, wd_626, by decide +kernel, by decide +kernel, by decide +kernel⟩
theorem dX3_isDigit_0 : decode cX3_isDigit 0 = .ok (.iload_n 0, 1) := by decide +kernel
theorem dX3_isDigit_1 : decode cX3_isDigit 1 = .ok (.bipush 48, 2) := by decide +kernel
theorem dX3_isDigit_3 : decode cX3_isDigit 3 = .ok (.if_icmp .lt 13, 3) := by decide +kernel
theorem dX3_isDigit_6 : decode cX3_isDigit 6 = .ok (.iload_n 0, 1) := by decide +kernel
theorem dX3_isDigit_7 : decode cX3_isDigit 7 = .ok (.bipush 57, 2) := by decide +kernel
theorem dX3_isDigit_9 : decode cX3_isDigit 9 = .ok (.if_icmp .gt 7, 3) := by decide +kernel
theorem dX3_isDigit_12 : decode cX3_isDigit 12 = .ok (.iconst 1, 1) := by decide +kernel
theorem dX3_isDigit_13 : decode cX3_isDigit 13 = .ok (.goto 4, 3) := by decide +kernel
theorem dX3_isDigit_16 : decode cX3_isDigit 16 = .ok (.iconst 0, 1) := by decide +kernel
theorem dX3_isDigit_17 : decode cX3_isDigit 17 = .ok (.ireturn, 1) := by decide +kernel
set_option maxHeartbeats 4000000 in
set_option maxRecDepth 100000 in
theorem c_X3_isDigit (l : Launch) (G : GG) (sz : Nat)  (F : Nat) (b0 : Int32)  (r0 : Int32) (hf : p_X3_isDigit F b0 = some r0) : Met l yX3_isDigit (.code yX3_isDigit cX3_isDigit 1 (some .boolean) :: gtbl) ({ frames := 0, cells := 0, slots := 0, locals := 0 } : Room) (PcS G [.int b0] [] sz) (QiS G r0 (va_A [] sz) []) 0 0 (va_A [] sz) := by
  refine met_start (by decide) (Nat.le_of_ble_eq_true rfl) ?_
  intro p e s m below meth c hC hr hlk hnm hK hP hD hA hS hX ls hl
  obtain ⟨hx, hb, hml, hown, ht0⟩ := hC
  have hown : s.vm.findClass RX3 = some m.cls := hown
  generalize va_A [] sz = A at hD hA hS hX ⊢
  have hl : lv_has ls 1 [(0, .int b0)] := hl
  have hf : p_X3_isDigit F b0 = some r0 := hf
  refine lv_iload_n hx hb dX3_isDigit_0 rfl (lv_at hl 0 rfl) ?_
  refine lv_bipush (v := (48 : Int32)) hx hb dX3_isDigit_1 (by decide) ?_
  refine lv_icmp_lt (tgt := 16) hx hb dX3_isDigit_3 (by decide) (fun c1 => ?_) (fun c1 => ?_)
  · have hf := of_pos hf c1
    refine lv_iconst (v := (0 : Int32)) hx hb dX3_isDigit_16 (by decide) ?_
    cases hf
    exact ret_z hx hb hr hlk hK hP hD hS (by decide) dX3_isDigit_17
  · have hf := of_neg hf c1
    refine lv_iload_n hx hb dX3_isDigit_6 rfl (lv_at hl 0 rfl) ?_
    refine lv_bipush (v := (57 : Int32)) hx hb dX3_isDigit_7 (by decide) ?_
    refine lv_icmp_gt (tgt := 16) hx hb dX3_isDigit_9 (by decide) (fun c2 => ?_) (fun c2 => ?_)
    · have hf := of_pos hf c2
      refine lv_iconst (v := (0 : Int32)) hx hb dX3_isDigit_16 (by decide) ?_
      cases hf
      exact ret_z hx hb hr hlk hK hP hD hS (by decide) dX3_isDigit_17
    · have hf := of_neg hf c2
      refine lv_iconst (v := (1 : Int32)) hx hb dX3_isDigit_12 (by decide) ?_
      refine lv_goto (tgt := 17) hx hb dX3_isDigit_13 (by decide) ?_
      cases hf
      exact ret_z hx hb hr hlk hK hP hD hS (by decide) dX3_isDigit_17
theorem yk_X3_isDigit : ykS yX3_isDigit cX3_isDigit 1 (some .boolean) 1 := ⟨wd_628, wd_128, wd_629, by decide +kernel, by decide +kernel, by decide +kernel⟩
theorem dX3_takeDigits_0 : decode cX3_takeDigits 0 = .ok (.aload_n 0, 1) := by decide +kernel
theorem dX3_takeDigits_1 : decode cX3_takeDigits 1 = .ok (.iconst 0, 1) := by decide +kernel
theorem dX3_takeDigits_2 : decode cX3_takeDigits 2 = .ok (.putfield 123, 3) := by decide +kernel
theorem dX3_takeDigits_5 : decode cX3_takeDigits 5 = .ok (.aload_n 0, 1) := by decide +kernel
theorem dX3_takeDigits_6 : decode cX3_takeDigits 6 = .ok (.getfield 94, 3) := by decide +kernel
theorem dX3_takeDigits_9 : decode cX3_takeDigits 9 = .ok (.aload_n 0, 1) := by decide +kernel
theorem dX3_takeDigits_10 : decode cX3_takeDigits 10 = .ok (.getfield 12, 3) := by decide +kernel
theorem dX3_takeDigits_13 : decode cX3_takeDigits 13 = .ok (.getfield 100, 3) := by decide +kernel
theorem dX3_takeDigits_16 : decode cX3_takeDigits 16 = .ok (.if_icmp .ge 64, 3) := by decide +kernel
theorem dX3_takeDigits_19 : decode cX3_takeDigits 19 = .ok (.aload_n 0, 1) := by decide +kernel
theorem dX3_takeDigits_20 : decode cX3_takeDigits 20 = .ok (.getfield 12, 3) := by decide +kernel
theorem dX3_takeDigits_23 : decode cX3_takeDigits 23 = .ok (.aload_n 0, 1) := by decide +kernel
theorem dX3_takeDigits_24 : decode cX3_takeDigits 24 = .ok (.getfield 94, 3) := by decide +kernel
theorem dX3_takeDigits_27 : decode cX3_takeDigits 27 = .ok (.invokevirtual 103, 3) := by decide +kernel
theorem dX3_takeDigits_30 : decode cX3_takeDigits 30 = .ok (.invokestatic 117, 3) := by decide +kernel
theorem dX3_takeDigits_33 : decode cX3_takeDigits 33 = .ok (.ifCond .eq 47, 3) := by decide +kernel
theorem dX3_takeDigits_36 : decode cX3_takeDigits 36 = .ok (.aload_n 0, 1) := by decide +kernel
theorem dX3_takeDigits_37 : decode cX3_takeDigits 37 = .ok (.ldc 126, 2) := by decide +kernel
theorem dX3_takeDigits_39 : decode cX3_takeDigits 39 = .ok (.aload_n 0, 1) := by decide +kernel
theorem dX3_takeDigits_40 : decode cX3_takeDigits 40 = .ok (.getfield 123, 3) := by decide +kernel
theorem dX3_takeDigits_43 : decode cX3_takeDigits 43 = .ok (.bipush 10, 2) := by decide +kernel
theorem dX3_takeDigits_45 : decode cX3_takeDigits 45 = .ok (.imul, 1) := by decide +kernel
theorem dX3_takeDigits_46 : decode cX3_takeDigits 46 = .ok (.aload_n 0, 1) := by decide +kernel
theorem dX3_takeDigits_47 : decode cX3_takeDigits 47 = .ok (.getfield 12, 3) := by decide +kernel
theorem dX3_takeDigits_50 : decode cX3_takeDigits 50 = .ok (.aload_n 0, 1) := by decide +kernel
theorem dX3_takeDigits_51 : decode cX3_takeDigits 51 = .ok (.getfield 94, 3) := by decide +kernel
theorem dX3_takeDigits_54 : decode cX3_takeDigits 54 = .ok (.invokevirtual 103, 3) := by decide +kernel
theorem dX3_takeDigits_57 : decode cX3_takeDigits 57 = .ok (.iadd, 1) := by decide +kernel
theorem dX3_takeDigits_58 : decode cX3_takeDigits 58 = .ok (.bipush 48, 2) := by decide +kernel
theorem dX3_takeDigits_60 : decode cX3_takeDigits 60 = .ok (.isub, 1) := by decide +kernel
theorem dX3_takeDigits_61 : decode cX3_takeDigits 61 = .ok (.invokestatic 127, 3) := by decide +kernel
theorem dX3_takeDigits_64 : decode cX3_takeDigits 64 = .ok (.putfield 123, 3) := by decide +kernel
theorem dX3_takeDigits_67 : decode cX3_takeDigits 67 = .ok (.aload_n 0, 1) := by decide +kernel
theorem dX3_takeDigits_68 : decode cX3_takeDigits 68 = .ok (.dup, 1) := by decide +kernel
theorem dX3_takeDigits_69 : decode cX3_takeDigits 69 = .ok (.getfield 94, 3) := by decide +kernel
theorem dX3_takeDigits_72 : decode cX3_takeDigits 72 = .ok (.iconst 1, 1) := by decide +kernel
theorem dX3_takeDigits_73 : decode cX3_takeDigits 73 = .ok (.iadd, 1) := by decide +kernel
theorem dX3_takeDigits_74 : decode cX3_takeDigits 74 = .ok (.putfield 94, 3) := by decide +kernel
theorem dX3_takeDigits_77 : decode cX3_takeDigits 77 = .ok (.goto (-72), 3) := by decide +kernel
theorem dX3_takeDigits_80 : decode cX3_takeDigits 80 = .ok (.return_, 1) := by decide +kernel
def wW_X3_takeDigits (G : GG) (h0 h1 h2 y0_1 y0_2 y0_3 : Nat) (x0_4 : Int32) (x0_5 : Int32) (x0_6 : Int32) (x0_7 : Int32) (x0_8 : Int32) (x0_9 : Int32) (x0_10 : Int32) (x0_11 : Int32) (x0_12 : Int32) (x0_13 : Int32) (x0_14 : Int32) (x1_1 : Int32) (a2 : Nat → Int32) : va_W := [(h0, .inr (3, [.ref h1, .ref y0_1, .ref y0_2, .ref y0_3, .int x0_4, .int x0_5, .int x0_6, .int x0_7, .int x0_8, .int x0_9, .int x0_10, .int x0_11, .int x0_12, .int x0_13, .int x0_14])), (h1, .inr (7, [.ref h2, .int x1_1])), (h2, .inl (G.2.1, 600, .inl a2))]
set_option maxHeartbeats 4000000 in
set_option maxRecDepth 100000 in
theorem c_X3_takeDigits (l : Launch) (G : GG) (h0 h1 h2 y0_1 y0_2 y0_3 : Nat) (sz : Nat) (x0_4 : Int32) (x0_5 : Int32) (x0_6 : Int32) (x0_7 : Int32) (x0_8 : Int32) (x0_9 : Int32) (x0_10 : Int32) (x0_11 : Int32) (x0_12 : Int32) (x0_13 : Int32) (x0_14 : Int32) (x1_1 : Int32) (a2 : Nat → Int32) (F : Nat)   (e_x0_6 : Int32) (e_x0_9 : Int32) (hf : p_X3_takeDigits F x0_6 x0_9 x1_1 a2  = some (e_x0_6, e_x0_9)) : Met l yX3_takeDigits (.code yX3_takeDigits cX3_takeDigits 1 none :: gtbl) ({ frames := 1, cells := 0, slots := 0, locals := 21 } : Room) (PcS G [.ref h0] (wW_X3_takeDigits G h0 h1 h2 y0_1 y0_2 y0_3 x0_4 x0_5 x0_6 x0_7 x0_8 x0_9 x0_10 x0_11 x0_12 x0_13 x0_14 x1_1 a2) sz) (QvS G (va_A (wW_X3_takeDigits G h0 h1 h2 y0_1 y0_2 y0_3 x0_4 x0_5 x0_6 x0_7 x0_8 x0_9 x0_10 x0_11 x0_12 x0_13 x0_14 x1_1 a2) sz) (wW_X3_takeDigits G h0 h1 h2 y0_1 y0_2 y0_3 x0_4 x0_5 e_x0_6 x0_7 x0_8 e_x0_9 x0_10 x0_11 x0_12 x0_13 x0_14 x1_1 a2)) 0 0 (va_A (wW_X3_takeDigits G h0 h1 h2 y0_1 y0_2 y0_3 x0_4 x0_5 x0_6 x0_7 x0_8 x0_9 x0_10 x0_11 x0_12 x0_13 x0_14 x1_1 a2) sz) := by
  refine met_start (by decide) (Nat.le_of_ble_eq_true rfl) ?_
  intro p e s m below meth c hC hr hlk hnm hK hP hD hA hS hX ls hl
  obtain ⟨hx, hb, hml, hown, ht0⟩ := hC
  have hown : s.vm.findClass RX3 = some m.cls := hown
  generalize va_A (wW_X3_takeDigits G h0 h1 h2 y0_1 y0_2 y0_3 x0_4 x0_5 x0_6 x0_7 x0_8 x0_9 x0_10 x0_11 x0_12 x0_13 x0_14 x1_1 a2) sz = A at hD hA hS hX ⊢
  have hl : lv_has ls 1 [(0, .ref h0)] := hl
  have hf : p_X3_takeDigits F x0_6 x0_9 x1_1 a2  = some (e_x0_6, e_x0_9) := hf
  have kL5 : ∀ (n5 : Nat) (x0_6_5 : Int32) (x0_9_5 : Int32), p_X3_takeDigits_L5 F x1_1 a2 n5 x0_6_5 x0_9_5 = some (e_x0_6, e_x0_9) → ∀ (H : Heap) (locs : List Loc), va_P G.1 vwCl (wW_X3_takeDigits G h0 h1 h2 y0_1 y0_2 y0_3 x0_4 x0_5 x0_6_5 x0_7 x0_8 x0_9_5 x0_10 x0_11 x0_12 x0_13 x0_14 x1_1 a2) H → va_D A (wW_X3_takeDigits G h0 h1 h2 y0_1 y0_2 y0_3 x0_4 x0_5 x0_6_5 x0_7 x0_8 x0_9_5 x0_10 x0_11 x0_12 x0_13 x0_14 x1_1 a2) → va_S A s.heap H locs → ∀ ls : Array Slot, lv_has ls 1 [(0, .ref h0)] → W p l e ({ frames := 1, cells := 0, slots := 0, locals := 21 } : Room) s m (List.toArray [.ref h0]) below meth c H locs 0 0 (MQ below (QvS G A (wW_X3_takeDigits G h0 h1 h2 y0_1 y0_2 y0_3 x0_4 x0_5 e_x0_6 x0_7 x0_8 e_x0_9 x0_10 x0_11 x0_12 x0_13 x0_14 x1_1 a2)) (List.toArray [.ref h0]) s 0 0 A) (F0 m 5 ls []) := by
    intro n5
    induction n5 with
    | zero =>
      intro x0_6_5 x0_9_5 hf
      cases hf
    | succ n5 ih5 =>
      intro x0_6_5 x0_9_5 hf H locs hP hD hS ls hl
      have hf : p_X3_takeDigits_L5b F x1_1 a2 (p_X3_takeDigits_L5 F x1_1 a2 n5) x0_6_5 x0_9_5 = some (e_x0_6, e_x0_9) := hf
      refine lv_aload_n hx hb dX3_takeDigits_5 rfl (lv_at hl 0 rfl) ?_
      refine va_get (ci := 3) (v := .int x0_6_5) (C := RX3) (T := TX3) (N := 15) hx hb ht0 iX3 hown hK hP 0 rfl rfl 6 (by decide) (ht0 _ wd_259) (fun _ h9 => h9) rfl dX3_takeDigits_6 ?_
      refine lv_aload_n hx hb dX3_takeDigits_9 rfl (lv_at hl 0 rfl) ?_
      refine va_get (ci := 3) (v := .ref h1) (C := RX3) (T := TX3) (N := 15) hx hb ht0 iX3 hown hK hP 0 rfl rfl 0 (by decide) (ht0 _ wd_247) (fun _ h9 => h9) rfl dX3_takeDigits_10 ?_
      refine va_get (ci := 7) (v := .int x1_1) (C := RX7) (T := TX7) (N := 2) hx hb ht0 iX7 hown hK hP 1 rfl rfl 1 (by decide) (ht0 _ wd_170) (fun _ h9 => h9) rfl dX3_takeDigits_13 ?_
      refine lv_icmp_ge (tgt := 80) hx hb dX3_takeDigits_16 (by decide) (fun c1 => ?_) (fun c1 => ?_)
      · have hf := of_pos hf c1
        cases hf
        exact ret_v hx hb hr hlk hK hP hD hS dX3_takeDigits_80
      · have hf := of_neg hf c1
        refine lv_aload_n hx hb dX3_takeDigits_19 rfl (lv_at hl 0 rfl) ?_
        refine va_get (ci := 3) (v := .ref h1) (C := RX3) (T := TX3) (N := 15) hx hb ht0 iX3 hown hK hP 0 rfl rfl 0 (by decide) (ht0 _ wd_247) (fun _ h9 => h9) rfl dX3_takeDigits_20 ?_
        refine lv_aload_n hx hb dX3_takeDigits_23 rfl (lv_at hl 0 rfl) ?_
        refine va_get (ci := 3) (v := .int x0_6_5) (C := RX3) (T := TX3) (N := 15) hx hb ht0 iX3 hown hK hP 0 rfl rfl 6 (by decide) (ht0 _ wd_259) (fun _ h9 => h9) rfl dX3_takeDigits_24 ?_
        obtain ⟨r_27_1, hc_r_27_1, hf⟩ := of_bnd hf
        refine cl_Vi (w2 := (wW_X3_takeDigits G h0 h1 h2 y0_1 y0_2 y0_3 x0_4 x0_5 x0_6_5 x0_7 x0_8 x0_9_5 x0_10 x0_11 x0_12 x0_13 x0_14 x1_1 a2)) (As := [.int x0_6_5]) (rest := []) ⟨hx, hb, hml, hown, ht0⟩ (c_X7_byteAt l G h1 h2 _ x1_1 a2 F x0_6_5 _ hc_r_27_1) yk_X7_byteAt wd_617 ⟨rfl, rfl, by decide, by decide⟩ ⟨Nat.le_refl _, Nat.le_refl _⟩ hX hK hP hD hS hA [1, 2] [0] [0, 1, 2] (va_recv hK hP (ci := 7) (q0 := 1) rfl rfl) rfl rfl (by decide) rfl rfl rfl rfl rfl hl.1 rfl (Nat.le_of_ble_eq_true rfl) dX3_takeDigits_27 (fun H locs hP hD hS => ?_)
        obtain ⟨r_30_2, hc_r_30_2, hf⟩ := of_bnd hf
        refine cl_Si (w2 := (wW_X3_takeDigits G h0 h1 h2 y0_1 y0_2 y0_3 x0_4 x0_5 x0_6_5 x0_7 x0_8 x0_9_5 x0_10 x0_11 x0_12 x0_13 x0_14 x1_1 a2)) (As := [.int r_27_1]) (rest := []) ⟨hx, hb, hml, hown, ht0⟩ (c_X3_isDigit l G _ F r_27_1 _ hc_r_30_2) yk_X3_isDigit wd_627 ⟨rfl, rfl, by decide, by decide⟩ ⟨Nat.le_refl _, Nat.le_refl _⟩ hX hK hP hD hS hA [] [0, 1, 2] [0, 1, 2] rfl rfl (by decide) rfl rfl rfl rfl rfl hl.1 rfl (Nat.le_of_ble_eq_true rfl) dX3_takeDigits_30 (fun H locs hP hD hS => ?_)
        refine lv_if_eq (tgt := 80) hx hb dX3_takeDigits_33 (by decide) (fun c4 => ?_) (fun c4 => ?_)
        · have hf := of_pos hf c4
          cases hf
          exact ret_v hx hb hr hlk hK hP hD hS dX3_takeDigits_80
        · have hf := of_neg hf c4
          refine lv_aload_n hx hb dX3_takeDigits_36 rfl (lv_at hl 0 rfl) ?_
          refine lv_ldc (v := (100000000 : Int32)) hx hb hown (ht0 _ wd_634) dX3_takeDigits_37 ?_
          refine lv_aload_n hx hb dX3_takeDigits_39 rfl (lv_at hl 0 rfl) ?_
          refine va_get (ci := 3) (v := .int x0_9_5) (C := RX3) (T := TX3) (N := 15) hx hb ht0 iX3 hown hK hP 0 rfl rfl 9 (by decide) (ht0 _ wd_262) (fun _ h9 => h9) rfl dX3_takeDigits_40 ?_
          refine lv_bipush (v := (10 : Int32)) hx hb dX3_takeDigits_43 (by decide) ?_
          refine lv_imul hx hb dX3_takeDigits_45 ?_
          refine lv_aload_n hx hb dX3_takeDigits_46 rfl (lv_at hl 0 rfl) ?_
          refine va_get (ci := 3) (v := .ref h1) (C := RX3) (T := TX3) (N := 15) hx hb ht0 iX3 hown hK hP 0 rfl rfl 0 (by decide) (ht0 _ wd_247) (fun _ h9 => h9) rfl dX3_takeDigits_47 ?_
          refine lv_aload_n hx hb dX3_takeDigits_50 rfl (lv_at hl 0 rfl) ?_
          refine va_get (ci := 3) (v := .int x0_6_5) (C := RX3) (T := TX3) (N := 15) hx hb ht0 iX3 hown hK hP 0 rfl rfl 6 (by decide) (ht0 _ wd_259) (fun _ h9 => h9) rfl dX3_takeDigits_51 ?_
          obtain ⟨r_54_4, hc_r_54_4, hf⟩ := of_bnd hf
          refine cl_Vi (w2 := (wW_X3_takeDigits G h0 h1 h2 y0_1 y0_2 y0_3 x0_4 x0_5 x0_6_5 x0_7 x0_8 x0_9_5 x0_10 x0_11 x0_12 x0_13 x0_14 x1_1 a2)) (As := [.int x0_6_5]) (rest := [.int (x0_9_5 * (10 : Int32)), .int (100000000 : Int32), .ref h0]) ⟨hx, hb, hml, hown, ht0⟩ (c_X7_byteAt l G h1 h2 _ x1_1 a2 F x0_6_5 _ hc_r_54_4) yk_X7_byteAt wd_617 ⟨rfl, rfl, by decide, by decide⟩ ⟨Nat.le_refl _, Nat.le_refl _⟩ hX hK hP hD hS hA [1, 2] [0] [0, 1, 2] (va_recv hK hP (ci := 7) (q0 := 1) rfl rfl) rfl rfl (by decide) rfl rfl rfl rfl rfl hl.1 rfl (Nat.le_of_ble_eq_true rfl) dX3_takeDigits_54 (fun H locs hP hD hS => ?_)
          refine lv_iadd hx hb dX3_takeDigits_57 ?_
          refine lv_bipush (v := (48 : Int32)) hx hb dX3_takeDigits_58 (by decide) ?_
          refine lv_isub hx hb dX3_takeDigits_60 ?_
          refine va_mmin hx hb (by rw [hml]; exact hl.1.symm) hown (ht0 _ wd_635) (ht0 _ wd_636) (ht0 _ wd_140) (ht0 _ wd_637) (by decide) (Nat.le_of_ble_eq_true rfl) (Nat.zero_le _) (Nat.zero_le _) dX3_takeDigits_61 ?_
          refine va_put (ci := 3) (v := .int (if ((x0_9_5 * (10 : Int32)) + r_54_4) - (48 : Int32) < (100000000 : Int32) then ((x0_9_5 * (10 : Int32)) + r_54_4) - (48 : Int32) else (100000000 : Int32))) (ty := .int) (C := RX3) (T := TX3) (N := 15) hx hb ht0 iX3 tyX3 tyX3_ok nmX3 hown hK hP hD hS 0 rfl rfl 9 (by decide) (ht0 _ wd_262) (fun _ h9 => h9) rfl rfl rfl rfl (Nat.le_of_ble_eq_true rfl) dX3_takeDigits_64 (fun H locs hP hD hS => ?_)
          have hP : va_P G.1 vwCl (wW_X3_takeDigits G h0 h1 h2 y0_1 y0_2 y0_3 x0_4 x0_5 x0_6_5 x0_7 x0_8 (if ((x0_9_5 * (10 : Int32)) + r_54_4) - (48 : Int32) < (100000000 : Int32) then ((x0_9_5 * (10 : Int32)) + r_54_4) - (48 : Int32) else (100000000 : Int32)) x0_10 x0_11 x0_12 x0_13 x0_14 x1_1 a2) H := hP
          have hD : va_D A (wW_X3_takeDigits G h0 h1 h2 y0_1 y0_2 y0_3 x0_4 x0_5 x0_6_5 x0_7 x0_8 (if ((x0_9_5 * (10 : Int32)) + r_54_4) - (48 : Int32) < (100000000 : Int32) then ((x0_9_5 * (10 : Int32)) + r_54_4) - (48 : Int32) else (100000000 : Int32)) x0_10 x0_11 x0_12 x0_13 x0_14 x1_1 a2) := hD
          refine lv_aload_n hx hb dX3_takeDigits_67 rfl (lv_at hl 0 rfl) ?_
          refine lv_dup hx hb dX3_takeDigits_68 rfl ?_
          refine va_get (ci := 3) (v := .int x0_6_5) (C := RX3) (T := TX3) (N := 15) hx hb ht0 iX3 hown hK hP 0 rfl rfl 6 (by decide) (ht0 _ wd_259) (fun _ h9 => h9) rfl dX3_takeDigits_69 ?_
          refine lv_iconst (v := (1 : Int32)) hx hb dX3_takeDigits_72 (by decide) ?_
          refine lv_iadd hx hb dX3_takeDigits_73 ?_
          refine va_put (ci := 3) (v := .int (x0_6_5 + (1 : Int32))) (ty := .int) (C := RX3) (T := TX3) (N := 15) hx hb ht0 iX3 tyX3 tyX3_ok nmX3 hown hK hP hD hS 0 rfl rfl 6 (by decide) (ht0 _ wd_259) (fun _ h9 => h9) rfl rfl rfl rfl (Nat.le_of_ble_eq_true rfl) dX3_takeDigits_74 (fun H locs hP hD hS => ?_)
          have hP : va_P G.1 vwCl (wW_X3_takeDigits G h0 h1 h2 y0_1 y0_2 y0_3 x0_4 x0_5 (x0_6_5 + (1 : Int32)) x0_7 x0_8 (if ((x0_9_5 * (10 : Int32)) + r_54_4) - (48 : Int32) < (100000000 : Int32) then ((x0_9_5 * (10 : Int32)) + r_54_4) - (48 : Int32) else (100000000 : Int32)) x0_10 x0_11 x0_12 x0_13 x0_14 x1_1 a2) H := hP
          have hD : va_D A (wW_X3_takeDigits G h0 h1 h2 y0_1 y0_2 y0_3 x0_4 x0_5 (x0_6_5 + (1 : Int32)) x0_7 x0_8 (if ((x0_9_5 * (10 : Int32)) + r_54_4) - (48 : Int32) < (100000000 : Int32) then ((x0_9_5 * (10 : Int32)) + r_54_4) - (48 : Int32) else (100000000 : Int32)) x0_10 x0_11 x0_12 x0_13 x0_14 x1_1 a2) := hD
          refine lv_goto (tgt := 5) hx hb dX3_takeDigits_77 (by decide) ?_
          exact ih5 _ _ hf _ _ hP hD hS _ (lv_sub hl [0] rfl)
  refine lv_aload_n hx hb dX3_takeDigits_0 rfl (lv_at hl 0 rfl) ?_
  refine lv_iconst (v := (0 : Int32)) hx hb dX3_takeDigits_1 (by decide) ?_
  refine va_put (ci := 3) (v := .int (0 : Int32)) (ty := .int) (C := RX3) (T := TX3) (N := 15) hx hb ht0 iX3 tyX3 tyX3_ok nmX3 hown hK hP hD hS 0 rfl rfl 9 (by decide) (ht0 _ wd_262) (fun _ h9 => h9) rfl rfl rfl rfl (Nat.le_of_ble_eq_true rfl) dX3_takeDigits_2 (fun H locs hP hD hS => ?_)
  have hP : va_P G.1 vwCl (wW_X3_takeDigits G h0 h1 h2 y0_1 y0_2 y0_3 x0_4 x0_5 x0_6 x0_7 x0_8 (0 : Int32) x0_10 x0_11 x0_12 x0_13 x0_14 x1_1 a2) H := hP
  have hD : va_D A (wW_X3_takeDigits G h0 h1 h2 y0_1 y0_2 y0_3 x0_4 x0_5 x0_6 x0_7 x0_8 (0 : Int32) x0_10 x0_11 x0_12 x0_13 x0_14 x1_1 a2) := hD
  exact kL5 _ _ _ hf _ _ hP hD hS _ (lv_sub hl [0] rfl)
theorem yk_X3_takeDigits : ykV yX3_takeDigits RX3 cX3_takeDigits 1 none 0 := ⟨wd_632, wd_12, wd_128, wd_633, rfl, by decide +kernel, by decide +kernel, by decide +kernel⟩
theorem dX3_nextToken_0 : decode cX3_nextToken 0 = .ok (.aload_n 0, 1) := by decide +kernel
theorem dX3_nextToken_1 : decode cX3_nextToken 1 = .ok (.getfield 94, 3) := by decide +kernel
theorem dX3_nextToken_4 : decode cX3_nextToken 4 = .ok (.aload_n 0, 1) := by decide +kernel
theorem dX3_nextToken_5 : decode cX3_nextToken 5 = .ok (.getfield 12, 3) := by decide +kernel
theorem dX3_nextToken_8 : decode cX3_nextToken 8 = .ok (.getfield 100, 3) := by decide +kernel
theorem dX3_nextToken_11 : decode cX3_nextToken 11 = .ok (.if_icmp .ge 33, 3) := by decide +kernel
theorem dX3_nextToken_14 : decode cX3_nextToken 14 = .ok (.aload_n 0, 1) := by decide +kernel
theorem dX3_nextToken_15 : decode cX3_nextToken 15 = .ok (.getfield 12, 3) := by decide +kernel
theorem dX3_nextToken_18 : decode cX3_nextToken 18 = .ok (.aload_n 0, 1) := by decide +kernel
theorem dX3_nextToken_19 : decode cX3_nextToken 19 = .ok (.getfield 94, 3) := by decide +kernel
theorem dX3_nextToken_22 : decode cX3_nextToken 22 = .ok (.invokevirtual 103, 3) := by decide +kernel
theorem dX3_nextToken_25 : decode cX3_nextToken 25 = .ok (.invokestatic 107, 3) := by decide +kernel
theorem dX3_nextToken_28 : decode cX3_nextToken 28 = .ok (.ifCond .eq 16, 3) := by decide +kernel
theorem dX3_nextToken_31 : decode cX3_nextToken 31 = .ok (.aload_n 0, 1) := by decide +kernel
theorem dX3_nextToken_32 : decode cX3_nextToken 32 = .ok (.dup, 1) := by decide +kernel
theorem dX3_nextToken_33 : decode cX3_nextToken 33 = .ok (.getfield 94, 3) := by decide +kernel
theorem dX3_nextToken_36 : decode cX3_nextToken 36 = .ok (.iconst 1, 1) := by decide +kernel
theorem dX3_nextToken_37 : decode cX3_nextToken 37 = .ok (.iadd, 1) := by decide +kernel
theorem dX3_nextToken_38 : decode cX3_nextToken 38 = .ok (.putfield 94, 3) := by decide +kernel
theorem dX3_nextToken_41 : decode cX3_nextToken 41 = .ok (.goto (-41), 3) := by decide +kernel
theorem dX3_nextToken_44 : decode cX3_nextToken 44 = .ok (.aload_n 0, 1) := by decide +kernel
theorem dX3_nextToken_45 : decode cX3_nextToken 45 = .ok (.aload_n 0, 1) := by decide +kernel
theorem dX3_nextToken_46 : decode cX3_nextToken 46 = .ok (.getfield 94, 3) := by decide +kernel
theorem dX3_nextToken_49 : decode cX3_nextToken 49 = .ok (.putfield 111, 3) := by decide +kernel
theorem dX3_nextToken_52 : decode cX3_nextToken 52 = .ok (.aload_n 0, 1) := by decide +kernel
theorem dX3_nextToken_53 : decode cX3_nextToken 53 = .ok (.getfield 12, 3) := by decide +kernel
theorem dX3_nextToken_56 : decode cX3_nextToken 56 = .ok (.aload_n 0, 1) := by decide +kernel
theorem dX3_nextToken_57 : decode cX3_nextToken 57 = .ok (.getfield 94, 3) := by decide +kernel
theorem dX3_nextToken_60 : decode cX3_nextToken 60 = .ok (.invokevirtual 103, 3) := by decide +kernel
theorem dX3_nextToken_63 : decode cX3_nextToken 63 = .ok (.istore_n 1, 1) := by decide +kernel
theorem dX3_nextToken_64 : decode cX3_nextToken 64 = .ok (.iload_n 1, 1) := by decide +kernel
theorem dX3_nextToken_65 : decode cX3_nextToken 65 = .ok (.iconst (-1), 1) := by decide +kernel
theorem dX3_nextToken_66 : decode cX3_nextToken 66 = .ok (.if_icmp .ne 11, 3) := by decide +kernel
theorem dX3_nextToken_69 : decode cX3_nextToken 69 = .ok (.aload_n 0, 1) := by decide +kernel
theorem dX3_nextToken_70 : decode cX3_nextToken 70 = .ok (.iconst 0, 1) := by decide +kernel
theorem dX3_nextToken_71 : decode cX3_nextToken 71 = .ok (.putfield 65, 3) := by decide +kernel
theorem dX3_nextToken_74 : decode cX3_nextToken 74 = .ok (.goto 103, 3) := by decide +kernel
theorem dX3_nextToken_77 : decode cX3_nextToken 77 = .ok (.iload_n 1, 1) := by decide +kernel
theorem dX3_nextToken_78 : decode cX3_nextToken 78 = .ok (.invokestatic 114, 3) := by decide +kernel
theorem dX3_nextToken_81 : decode cX3_nextToken 81 = .ok (.ifCond .eq 52, 3) := by decide +kernel
theorem dX3_nextToken_84 : decode cX3_nextToken 84 = .ok (.aload_n 0, 1) := by decide +kernel
theorem dX3_nextToken_85 : decode cX3_nextToken 85 = .ok (.iconst 1, 1) := by decide +kernel
theorem dX3_nextToken_86 : decode cX3_nextToken 86 = .ok (.putfield 65, 3) := by decide +kernel
theorem dX3_nextToken_89 : decode cX3_nextToken 89 = .ok (.aload_n 0, 1) := by decide +kernel
theorem dX3_nextToken_90 : decode cX3_nextToken 90 = .ok (.getfield 94, 3) := by decide +kernel
theorem dX3_nextToken_93 : decode cX3_nextToken 93 = .ok (.aload_n 0, 1) := by decide +kernel
theorem dX3_nextToken_94 : decode cX3_nextToken 94 = .ok (.getfield 12, 3) := by decide +kernel
theorem dX3_nextToken_97 : decode cX3_nextToken 97 = .ok (.getfield 100, 3) := by decide +kernel
theorem dX3_nextToken_100 : decode cX3_nextToken 100 = .ok (.if_icmp .ge 77, 3) := by decide +kernel
theorem dX3_nextToken_103 : decode cX3_nextToken 103 = .ok (.aload_n 0, 1) := by decide +kernel
theorem dX3_nextToken_104 : decode cX3_nextToken 104 = .ok (.getfield 12, 3) := by decide +kernel
theorem dX3_nextToken_107 : decode cX3_nextToken 107 = .ok (.aload_n 0, 1) := by decide +kernel
theorem dX3_nextToken_108 : decode cX3_nextToken 108 = .ok (.getfield 94, 3) := by decide +kernel
theorem dX3_nextToken_111 : decode cX3_nextToken 111 = .ok (.invokevirtual 103, 3) := by decide +kernel
theorem dX3_nextToken_114 : decode cX3_nextToken 114 = .ok (.invokestatic 114, 3) := by decide +kernel
theorem dX3_nextToken_117 : decode cX3_nextToken 117 = .ok (.ifCond .eq 60, 3) := by decide +kernel
theorem dX3_nextToken_120 : decode cX3_nextToken 120 = .ok (.aload_n 0, 1) := by decide +kernel
theorem dX3_nextToken_121 : decode cX3_nextToken 121 = .ok (.dup, 1) := by decide +kernel
theorem dX3_nextToken_122 : decode cX3_nextToken 122 = .ok (.getfield 94, 3) := by decide +kernel
theorem dX3_nextToken_125 : decode cX3_nextToken 125 = .ok (.iconst 1, 1) := by decide +kernel
theorem dX3_nextToken_126 : decode cX3_nextToken 126 = .ok (.iadd, 1) := by decide +kernel
theorem dX3_nextToken_127 : decode cX3_nextToken 127 = .ok (.putfield 94, 3) := by decide +kernel
theorem dX3_nextToken_130 : decode cX3_nextToken 130 = .ok (.goto (-41), 3) := by decide +kernel
theorem dX3_nextToken_133 : decode cX3_nextToken 133 = .ok (.iload_n 1, 1) := by decide +kernel
theorem dX3_nextToken_134 : decode cX3_nextToken 134 = .ok (.invokestatic 117, 3) := by decide +kernel
theorem dX3_nextToken_137 : decode cX3_nextToken 137 = .ok (.ifCond .eq 15, 3) := by decide +kernel
theorem dX3_nextToken_140 : decode cX3_nextToken 140 = .ok (.aload_n 0, 1) := by decide +kernel
theorem dX3_nextToken_141 : decode cX3_nextToken 141 = .ok (.iconst 2, 1) := by decide +kernel
theorem dX3_nextToken_142 : decode cX3_nextToken 142 = .ok (.putfield 65, 3) := by decide +kernel
theorem dX3_nextToken_145 : decode cX3_nextToken 145 = .ok (.aload_n 0, 1) := by decide +kernel
theorem dX3_nextToken_146 : decode cX3_nextToken 146 = .ok (.invokevirtual 120, 3) := by decide +kernel
theorem dX3_nextToken_149 : decode cX3_nextToken 149 = .ok (.goto 28, 3) := by decide +kernel
theorem dX3_nextToken_152 : decode cX3_nextToken 152 = .ok (.aload_n 0, 1) := by decide +kernel
theorem dX3_nextToken_153 : decode cX3_nextToken 153 = .ok (.iload_n 1, 1) := by decide +kernel
theorem dX3_nextToken_154 : decode cX3_nextToken 154 = .ok (.bipush 59, 2) := by decide +kernel
theorem dX3_nextToken_156 : decode cX3_nextToken 156 = .ok (.if_icmp .ne 7, 3) := by decide +kernel
theorem dX3_nextToken_159 : decode cX3_nextToken 159 = .ok (.iconst 3, 1) := by decide +kernel
theorem dX3_nextToken_160 : decode cX3_nextToken 160 = .ok (.goto 4, 3) := by decide +kernel
theorem dX3_nextToken_163 : decode cX3_nextToken 163 = .ok (.iconst 4, 1) := by decide +kernel
theorem dX3_nextToken_164 : decode cX3_nextToken 164 = .ok (.putfield 65, 3) := by decide +kernel
theorem dX3_nextToken_167 : decode cX3_nextToken 167 = .ok (.aload_n 0, 1) := by decide +kernel
theorem dX3_nextToken_168 : decode cX3_nextToken 168 = .ok (.dup, 1) := by decide +kernel
theorem dX3_nextToken_169 : decode cX3_nextToken 169 = .ok (.getfield 94, 3) := by decide +kernel
theorem dX3_nextToken_172 : decode cX3_nextToken 172 = .ok (.iconst 1, 1) := by decide +kernel
theorem dX3_nextToken_173 : decode cX3_nextToken 173 = .ok (.iadd, 1) := by decide +kernel
theorem dX3_nextToken_174 : decode cX3_nextToken 174 = .ok (.putfield 94, 3) := by decide +kernel
theorem dX3_nextToken_177 : decode cX3_nextToken 177 = .ok (.return_, 1) := by decide +kernel
def wW_X3_nextToken (G : GG) (h0 h1 h2 y0_1 y0_2 y0_3 : Nat) (x0_4 : Int32) (x0_5 : Int32) (x0_6 : Int32) (x0_7 : Int32) (x0_8 : Int32) (x0_9 : Int32) (x0_10 : Int32) (x0_11 : Int32) (x0_12 : Int32) (x0_13 : Int32) (x0_14 : Int32) (x1_1 : Int32) (a2 : Nat → Int32) : va_W := [(h0, .inr (3, [.ref h1, .ref y0_1, .ref y0_2, .ref y0_3, .int x0_4, .int x0_5, .int x0_6, .int x0_7, .int x0_8, .int x0_9, .int x0_10, .int x0_11, .int x0_12, .int x0_13, .int x0_14])), (h1, .inr (7, [.ref h2, .int x1_1])), (h2, .inl (G.2.1, 600, .inl a2))]
set_option maxHeartbeats 4000000 in
set_option maxRecDepth 100000 in
theorem c_X3_nextToken (l : Launch) (G : GG) (h0 h1 h2 y0_1 y0_2 y0_3 : Nat) (sz : Nat) (x0_4 : Int32) (x0_5 : Int32) (x0_6 : Int32) (x0_7 : Int32) (x0_8 : Int32) (x0_9 : Int32) (x0_10 : Int32) (x0_11 : Int32) (x0_12 : Int32) (x0_13 : Int32) (x0_14 : Int32) (x1_1 : Int32) (a2 : Nat → Int32) (F : Nat)   (e_x0_6 : Int32) (e_x0_7 : Int32) (e_x0_8 : Int32) (e_x0_9 : Int32) (hf : p_X3_nextToken F x0_6 x0_7 x0_8 x0_9 x1_1 a2  = some (e_x0_6, e_x0_7, e_x0_8, e_x0_9)) : Met l yX3_nextToken (.code yX3_nextToken cX3_nextToken 2 none :: gtbl) ({ frames := 2, cells := 0, slots := 0, locals := 41 } : Room) (PcS G [.ref h0] (wW_X3_nextToken G h0 h1 h2 y0_1 y0_2 y0_3 x0_4 x0_5 x0_6 x0_7 x0_8 x0_9 x0_10 x0_11 x0_12 x0_13 x0_14 x1_1 a2) sz) (QvS G (va_A (wW_X3_nextToken G h0 h1 h2 y0_1 y0_2 y0_3 x0_4 x0_5 x0_6 x0_7 x0_8 x0_9 x0_10 x0_11 x0_12 x0_13 x0_14 x1_1 a2) sz) (wW_X3_nextToken G h0 h1 h2 y0_1 y0_2 y0_3 x0_4 x0_5 e_x0_6 e_x0_7 e_x0_8 e_x0_9 x0_10 x0_11 x0_12 x0_13 x0_14 x1_1 a2)) 0 0 (va_A (wW_X3_nextToken G h0 h1 h2 y0_1 y0_2 y0_3 x0_4 x0_5 x0_6 x0_7 x0_8 x0_9 x0_10 x0_11 x0_12 x0_13 x0_14 x1_1 a2) sz) := by
  refine met_start (by decide) (Nat.le_of_ble_eq_true rfl) ?_
  intro p e s m below meth c hC hr hlk hnm hK hP hD hA hS hX ls hl
  obtain ⟨hx, hb, hml, hown, ht0⟩ := hC
  have hown : s.vm.findClass RX3 = some m.cls := hown
  generalize va_A (wW_X3_nextToken G h0 h1 h2 y0_1 y0_2 y0_3 x0_4 x0_5 x0_6 x0_7 x0_8 x0_9 x0_10 x0_11 x0_12 x0_13 x0_14 x1_1 a2) sz = A at hD hA hS hX ⊢
  have hl : lv_has ls 2 [(0, .ref h0)] := hl
  have hf : p_X3_nextToken F x0_6 x0_7 x0_8 x0_9 x1_1 a2  = some (e_x0_6, e_x0_7, e_x0_8, e_x0_9) := hf
  have kJ164 : ∀ (s164_1 : Int32) (x0_6_164 : Int32) (x0_7_164 : Int32) (x0_8_164 : Int32) (x0_9_164 : Int32), p_X3_nextToken_J164 F x1_1 a2 s164_1 x0_6_164 x0_7_164 x0_8_164 x0_9_164 = some (e_x0_6, e_x0_7, e_x0_8, e_x0_9) → ∀ (H : Heap) (locs : List Loc), va_P G.1 vwCl (wW_X3_nextToken G h0 h1 h2 y0_1 y0_2 y0_3 x0_4 x0_5 x0_6_164 x0_7_164 x0_8_164 x0_9_164 x0_10 x0_11 x0_12 x0_13 x0_14 x1_1 a2) H → va_D A (wW_X3_nextToken G h0 h1 h2 y0_1 y0_2 y0_3 x0_4 x0_5 x0_6_164 x0_7_164 x0_8_164 x0_9_164 x0_10 x0_11 x0_12 x0_13 x0_14 x1_1 a2) → va_S A s.heap H locs → ∀ ls : Array Slot, lv_has ls 2 [(0, .ref h0)] → W p l e ({ frames := 2, cells := 0, slots := 0, locals := 41 } : Room) s m (List.toArray [.ref h0]) below meth c H locs 0 0 (MQ below (QvS G A (wW_X3_nextToken G h0 h1 h2 y0_1 y0_2 y0_3 x0_4 x0_5 e_x0_6 e_x0_7 e_x0_8 e_x0_9 x0_10 x0_11 x0_12 x0_13 x0_14 x1_1 a2)) (List.toArray [.ref h0]) s 0 0 A) (F0 m 164 ls [.int s164_1, .ref h0]) := by
    intro s164_1 x0_6_164 x0_7_164 x0_8_164 x0_9_164 hf H locs hP hD hS ls hl
    refine va_put (ci := 3) (v := .int s164_1) (ty := .int) (C := RX3) (T := TX3) (N := 15) hx hb ht0 iX3 tyX3 tyX3_ok nmX3 hown hK hP hD hS 0 rfl rfl 8 (by decide) (ht0 _ wd_261) (fun _ h9 => h9) rfl rfl rfl rfl (Nat.le_of_ble_eq_true rfl) dX3_nextToken_164 (fun H locs hP hD hS => ?_)
    have hP : va_P G.1 vwCl (wW_X3_nextToken G h0 h1 h2 y0_1 y0_2 y0_3 x0_4 x0_5 x0_6_164 x0_7_164 s164_1 x0_9_164 x0_10 x0_11 x0_12 x0_13 x0_14 x1_1 a2) H := hP
    have hD : va_D A (wW_X3_nextToken G h0 h1 h2 y0_1 y0_2 y0_3 x0_4 x0_5 x0_6_164 x0_7_164 s164_1 x0_9_164 x0_10 x0_11 x0_12 x0_13 x0_14 x1_1 a2) := hD
    refine lv_aload_n hx hb dX3_nextToken_167 rfl (lv_at hl 0 rfl) ?_
    refine lv_dup hx hb dX3_nextToken_168 rfl ?_
    refine va_get (ci := 3) (v := .int x0_6_164) (C := RX3) (T := TX3) (N := 15) hx hb ht0 iX3 hown hK hP 0 rfl rfl 6 (by decide) (ht0 _ wd_259) (fun _ h9 => h9) rfl dX3_nextToken_169 ?_
    refine lv_iconst (v := (1 : Int32)) hx hb dX3_nextToken_172 (by decide) ?_
    refine lv_iadd hx hb dX3_nextToken_173 ?_
    refine va_put (ci := 3) (v := .int (x0_6_164 + (1 : Int32))) (ty := .int) (C := RX3) (T := TX3) (N := 15) hx hb ht0 iX3 tyX3 tyX3_ok nmX3 hown hK hP hD hS 0 rfl rfl 6 (by decide) (ht0 _ wd_259) (fun _ h9 => h9) rfl rfl rfl rfl (Nat.le_of_ble_eq_true rfl) dX3_nextToken_174 (fun H locs hP hD hS => ?_)
    have hP : va_P G.1 vwCl (wW_X3_nextToken G h0 h1 h2 y0_1 y0_2 y0_3 x0_4 x0_5 (x0_6_164 + (1 : Int32)) x0_7_164 s164_1 x0_9_164 x0_10 x0_11 x0_12 x0_13 x0_14 x1_1 a2) H := hP
    have hD : va_D A (wW_X3_nextToken G h0 h1 h2 y0_1 y0_2 y0_3 x0_4 x0_5 (x0_6_164 + (1 : Int32)) x0_7_164 s164_1 x0_9_164 x0_10 x0_11 x0_12 x0_13 x0_14 x1_1 a2) := hD
    cases hf
    exact ret_v hx hb hr hlk hK hP hD hS dX3_nextToken_177
  have kL89 : ∀ (n89 : Nat) (x0_6_89 : Int32) (x0_7_89 : Int32) (x0_8_89 : Int32) (x0_9_89 : Int32), p_X3_nextToken_L89 F x1_1 a2 n89 x0_6_89 x0_7_89 x0_8_89 x0_9_89 = some (e_x0_6, e_x0_7, e_x0_8, e_x0_9) → ∀ (H : Heap) (locs : List Loc), va_P G.1 vwCl (wW_X3_nextToken G h0 h1 h2 y0_1 y0_2 y0_3 x0_4 x0_5 x0_6_89 x0_7_89 x0_8_89 x0_9_89 x0_10 x0_11 x0_12 x0_13 x0_14 x1_1 a2) H → va_D A (wW_X3_nextToken G h0 h1 h2 y0_1 y0_2 y0_3 x0_4 x0_5 x0_6_89 x0_7_89 x0_8_89 x0_9_89 x0_10 x0_11 x0_12 x0_13 x0_14 x1_1 a2) → va_S A s.heap H locs → ∀ ls : Array Slot, lv_has ls 2 [(0, .ref h0)] → W p l e ({ frames := 2, cells := 0, slots := 0, locals := 41 } : Room) s m (List.toArray [.ref h0]) below meth c H locs 0 0 (MQ below (QvS G A (wW_X3_nextToken G h0 h1 h2 y0_1 y0_2 y0_3 x0_4 x0_5 e_x0_6 e_x0_7 e_x0_8 e_x0_9 x0_10 x0_11 x0_12 x0_13 x0_14 x1_1 a2)) (List.toArray [.ref h0]) s 0 0 A) (F0 m 89 ls []) := by
    intro n89
    induction n89 with
    | zero =>
      intro x0_6_89 x0_7_89 x0_8_89 x0_9_89 hf
      cases hf
    | succ n89 ih89 =>
      intro x0_6_89 x0_7_89 x0_8_89 x0_9_89 hf H locs hP hD hS ls hl
      have hf : p_X3_nextToken_L89b F x1_1 a2 (p_X3_nextToken_L89 F x1_1 a2 n89) x0_6_89 x0_7_89 x0_8_89 x0_9_89 = some (e_x0_6, e_x0_7, e_x0_8, e_x0_9) := hf
      refine lv_aload_n hx hb dX3_nextToken_89 rfl (lv_at hl 0 rfl) ?_
      refine va_get (ci := 3) (v := .int x0_6_89) (C := RX3) (T := TX3) (N := 15) hx hb ht0 iX3 hown hK hP 0 rfl rfl 6 (by decide) (ht0 _ wd_259) (fun _ h9 => h9) rfl dX3_nextToken_90 ?_
      refine lv_aload_n hx hb dX3_nextToken_93 rfl (lv_at hl 0 rfl) ?_
      refine va_get (ci := 3) (v := .ref h1) (C := RX3) (T := TX3) (N := 15) hx hb ht0 iX3 hown hK hP 0 rfl rfl 0 (by decide) (ht0 _ wd_247) (fun _ h9 => h9) rfl dX3_nextToken_94 ?_
      refine va_get (ci := 7) (v := .int x1_1) (C := RX7) (T := TX7) (N := 2) hx hb ht0 iX7 hown hK hP 1 rfl rfl 1 (by decide) (ht0 _ wd_170) (fun _ h9 => h9) rfl dX3_nextToken_97 ?_
      refine lv_icmp_ge (tgt := 177) hx hb dX3_nextToken_100 (by decide) (fun c1 => ?_) (fun c1 => ?_)
      · have hf := of_pos hf c1
        cases hf
        exact ret_v hx hb hr hlk hK hP hD hS dX3_nextToken_177
      · have hf := of_neg hf c1
        refine lv_aload_n hx hb dX3_nextToken_103 rfl (lv_at hl 0 rfl) ?_
        refine va_get (ci := 3) (v := .ref h1) (C := RX3) (T := TX3) (N := 15) hx hb ht0 iX3 hown hK hP 0 rfl rfl 0 (by decide) (ht0 _ wd_247) (fun _ h9 => h9) rfl dX3_nextToken_104 ?_
        refine lv_aload_n hx hb dX3_nextToken_107 rfl (lv_at hl 0 rfl) ?_
        refine va_get (ci := 3) (v := .int x0_6_89) (C := RX3) (T := TX3) (N := 15) hx hb ht0 iX3 hown hK hP 0 rfl rfl 6 (by decide) (ht0 _ wd_259) (fun _ h9 => h9) rfl dX3_nextToken_108 ?_
        obtain ⟨r_111_1, hc_r_111_1, hf⟩ := of_bnd hf
        refine cl_Vi (w2 := (wW_X3_nextToken G h0 h1 h2 y0_1 y0_2 y0_3 x0_4 x0_5 x0_6_89 x0_7_89 x0_8_89 x0_9_89 x0_10 x0_11 x0_12 x0_13 x0_14 x1_1 a2)) (As := [.int x0_6_89]) (rest := []) ⟨hx, hb, hml, hown, ht0⟩ (c_X7_byteAt l G h1 h2 _ x1_1 a2 F x0_6_89 _ hc_r_111_1) yk_X7_byteAt wd_617 ⟨rfl, rfl, by decide, by decide⟩ ⟨Nat.le_refl _, Nat.le_refl _⟩ hX hK hP hD hS hA [1, 2] [0] [0, 1, 2] (va_recv hK hP (ci := 7) (q0 := 1) rfl rfl) rfl rfl (by decide) rfl rfl rfl rfl rfl hl.1 rfl (Nat.le_of_ble_eq_true rfl) dX3_nextToken_111 (fun H locs hP hD hS => ?_)
        obtain ⟨r_114_2, hc_r_114_2, hf⟩ := of_bnd hf
        refine cl_Si (w2 := (wW_X3_nextToken G h0 h1 h2 y0_1 y0_2 y0_3 x0_4 x0_5 x0_6_89 x0_7_89 x0_8_89 x0_9_89 x0_10 x0_11 x0_12 x0_13 x0_14 x1_1 a2)) (As := [.int r_111_1]) (rest := []) ⟨hx, hb, hml, hown, ht0⟩ (c_X3_isLetter l G _ F r_111_1 _ hc_r_114_2) yk_X3_isLetter wd_624 ⟨rfl, rfl, by decide, by decide⟩ ⟨Nat.le_refl _, Nat.le_refl _⟩ hX hK hP hD hS hA [] [0, 1, 2] [0, 1, 2] rfl rfl (by decide) rfl rfl rfl rfl rfl hl.1 rfl (Nat.le_of_ble_eq_true rfl) dX3_nextToken_114 (fun H locs hP hD hS => ?_)
        refine lv_if_eq (tgt := 177) hx hb dX3_nextToken_117 (by decide) (fun c4 => ?_) (fun c4 => ?_)
        · have hf := of_pos hf c4
          cases hf
          exact ret_v hx hb hr hlk hK hP hD hS dX3_nextToken_177
        · have hf := of_neg hf c4
          refine lv_aload_n hx hb dX3_nextToken_120 rfl (lv_at hl 0 rfl) ?_
          refine lv_dup hx hb dX3_nextToken_121 rfl ?_
          refine va_get (ci := 3) (v := .int x0_6_89) (C := RX3) (T := TX3) (N := 15) hx hb ht0 iX3 hown hK hP 0 rfl rfl 6 (by decide) (ht0 _ wd_259) (fun _ h9 => h9) rfl dX3_nextToken_122 ?_
          refine lv_iconst (v := (1 : Int32)) hx hb dX3_nextToken_125 (by decide) ?_
          refine lv_iadd hx hb dX3_nextToken_126 ?_
          refine va_put (ci := 3) (v := .int (x0_6_89 + (1 : Int32))) (ty := .int) (C := RX3) (T := TX3) (N := 15) hx hb ht0 iX3 tyX3 tyX3_ok nmX3 hown hK hP hD hS 0 rfl rfl 6 (by decide) (ht0 _ wd_259) (fun _ h9 => h9) rfl rfl rfl rfl (Nat.le_of_ble_eq_true rfl) dX3_nextToken_127 (fun H locs hP hD hS => ?_)
          have hP : va_P G.1 vwCl (wW_X3_nextToken G h0 h1 h2 y0_1 y0_2 y0_3 x0_4 x0_5 (x0_6_89 + (1 : Int32)) x0_7_89 x0_8_89 x0_9_89 x0_10 x0_11 x0_12 x0_13 x0_14 x1_1 a2) H := hP
          have hD : va_D A (wW_X3_nextToken G h0 h1 h2 y0_1 y0_2 y0_3 x0_4 x0_5 (x0_6_89 + (1 : Int32)) x0_7_89 x0_8_89 x0_9_89 x0_10 x0_11 x0_12 x0_13 x0_14 x1_1 a2) := hD
          refine lv_goto (tgt := 89) hx hb dX3_nextToken_130 (by decide) ?_
          exact ih89 _ _ _ _ hf _ _ hP hD hS _ (lv_sub hl [0] rfl)
  have kJ44 : ∀ (x0_6_44 : Int32) (x0_7_44 : Int32) (x0_8_44 : Int32) (x0_9_44 : Int32), p_X3_nextToken_J44 F x1_1 a2 x0_6_44 x0_7_44 x0_8_44 x0_9_44 = some (e_x0_6, e_x0_7, e_x0_8, e_x0_9) → ∀ (H : Heap) (locs : List Loc), va_P G.1 vwCl (wW_X3_nextToken G h0 h1 h2 y0_1 y0_2 y0_3 x0_4 x0_5 x0_6_44 x0_7_44 x0_8_44 x0_9_44 x0_10 x0_11 x0_12 x0_13 x0_14 x1_1 a2) H → va_D A (wW_X3_nextToken G h0 h1 h2 y0_1 y0_2 y0_3 x0_4 x0_5 x0_6_44 x0_7_44 x0_8_44 x0_9_44 x0_10 x0_11 x0_12 x0_13 x0_14 x1_1 a2) → va_S A s.heap H locs → ∀ ls : Array Slot, lv_has ls 2 [(0, .ref h0)] → W p l e ({ frames := 2, cells := 0, slots := 0, locals := 41 } : Room) s m (List.toArray [.ref h0]) below meth c H locs 0 0 (MQ below (QvS G A (wW_X3_nextToken G h0 h1 h2 y0_1 y0_2 y0_3 x0_4 x0_5 e_x0_6 e_x0_7 e_x0_8 e_x0_9 x0_10 x0_11 x0_12 x0_13 x0_14 x1_1 a2)) (List.toArray [.ref h0]) s 0 0 A) (F0 m 44 ls []) := by
    intro x0_6_44 x0_7_44 x0_8_44 x0_9_44 hf H locs hP hD hS ls hl
    refine lv_aload_n hx hb dX3_nextToken_44 rfl (lv_at hl 0 rfl) ?_
    refine lv_aload_n hx hb dX3_nextToken_45 rfl (lv_at hl 0 rfl) ?_
    refine va_get (ci := 3) (v := .int x0_6_44) (C := RX3) (T := TX3) (N := 15) hx hb ht0 iX3 hown hK hP 0 rfl rfl 6 (by decide) (ht0 _ wd_259) (fun _ h9 => h9) rfl dX3_nextToken_46 ?_
    refine va_put (ci := 3) (v := .int x0_6_44) (ty := .int) (C := RX3) (T := TX3) (N := 15) hx hb ht0 iX3 tyX3 tyX3_ok nmX3 hown hK hP hD hS 0 rfl rfl 7 (by decide) (ht0 _ wd_260) (fun _ h9 => h9) rfl rfl rfl rfl (Nat.le_of_ble_eq_true rfl) dX3_nextToken_49 (fun H locs hP hD hS => ?_)
    have hP : va_P G.1 vwCl (wW_X3_nextToken G h0 h1 h2 y0_1 y0_2 y0_3 x0_4 x0_5 x0_6_44 x0_6_44 x0_8_44 x0_9_44 x0_10 x0_11 x0_12 x0_13 x0_14 x1_1 a2) H := hP
    have hD : va_D A (wW_X3_nextToken G h0 h1 h2 y0_1 y0_2 y0_3 x0_4 x0_5 x0_6_44 x0_6_44 x0_8_44 x0_9_44 x0_10 x0_11 x0_12 x0_13 x0_14 x1_1 a2) := hD
    refine lv_aload_n hx hb dX3_nextToken_52 rfl (lv_at hl 0 rfl) ?_
    refine va_get (ci := 3) (v := .ref h1) (C := RX3) (T := TX3) (N := 15) hx hb ht0 iX3 hown hK hP 0 rfl rfl 0 (by decide) (ht0 _ wd_247) (fun _ h9 => h9) rfl dX3_nextToken_53 ?_
    refine lv_aload_n hx hb dX3_nextToken_56 rfl (lv_at hl 0 rfl) ?_
    refine va_get (ci := 3) (v := .int x0_6_44) (C := RX3) (T := TX3) (N := 15) hx hb ht0 iX3 hown hK hP 0 rfl rfl 6 (by decide) (ht0 _ wd_259) (fun _ h9 => h9) rfl dX3_nextToken_57 ?_
    obtain ⟨r_60_4, hc_r_60_4, hf⟩ := of_bnd hf
    refine cl_Vi (w2 := (wW_X3_nextToken G h0 h1 h2 y0_1 y0_2 y0_3 x0_4 x0_5 x0_6_44 x0_6_44 x0_8_44 x0_9_44 x0_10 x0_11 x0_12 x0_13 x0_14 x1_1 a2)) (As := [.int x0_6_44]) (rest := []) ⟨hx, hb, hml, hown, ht0⟩ (c_X7_byteAt l G h1 h2 _ x1_1 a2 F x0_6_44 _ hc_r_60_4) yk_X7_byteAt wd_617 ⟨rfl, rfl, by decide, by decide⟩ ⟨Nat.le_refl _, Nat.le_refl _⟩ hX hK hP hD hS hA [1, 2] [0] [0, 1, 2] (va_recv hK hP (ci := 7) (q0 := 1) rfl rfl) rfl rfl (by decide) rfl rfl rfl rfl rfl hl.1 rfl (Nat.le_of_ble_eq_true rfl) dX3_nextToken_60 (fun H locs hP hD hS => ?_)
    refine lv_istore_n (lv' := [(1, .int r_60_4), (0, .ref h0)]) hx hb dX3_nextToken_63 rfl hl (by decide) rfl (fun ls hl => ?_)
    refine lv_iload_n hx hb dX3_nextToken_64 rfl (lv_at hl 0 rfl) ?_
    refine lv_iconst (v := (-1 : Int32)) hx hb dX3_nextToken_65 (by decide) ?_
    refine lv_icmp_ne (tgt := 77) hx hb dX3_nextToken_66 (by decide) (fun c6 => ?_) (fun c6 => ?_)
    · have hf := of_neg hf c6
      refine lv_iload_n hx hb dX3_nextToken_77 rfl (lv_at hl 0 rfl) ?_
      obtain ⟨r_78_6, hc_r_78_6, hf⟩ := of_bnd hf
      refine cl_Si (w2 := (wW_X3_nextToken G h0 h1 h2 y0_1 y0_2 y0_3 x0_4 x0_5 x0_6_44 x0_6_44 x0_8_44 x0_9_44 x0_10 x0_11 x0_12 x0_13 x0_14 x1_1 a2)) (As := [.int r_60_4]) (rest := []) ⟨hx, hb, hml, hown, ht0⟩ (c_X3_isLetter l G _ F r_60_4 _ hc_r_78_6) yk_X3_isLetter wd_624 ⟨rfl, rfl, by decide, by decide⟩ ⟨Nat.le_refl _, Nat.le_refl _⟩ hX hK hP hD hS hA [] [0, 1, 2] [0, 1, 2] rfl rfl (by decide) rfl rfl rfl rfl rfl hl.1 rfl (Nat.le_of_ble_eq_true rfl) dX3_nextToken_78 (fun H locs hP hD hS => ?_)
      refine lv_if_eq (tgt := 133) hx hb dX3_nextToken_81 (by decide) (fun c8 => ?_) (fun c8 => ?_)
      · have hf := of_pos hf c8
        refine lv_iload_n hx hb dX3_nextToken_133 rfl (lv_at hl 0 rfl) ?_
        obtain ⟨r_134_8, hc_r_134_8, hf⟩ := of_bnd hf
        refine cl_Si (w2 := (wW_X3_nextToken G h0 h1 h2 y0_1 y0_2 y0_3 x0_4 x0_5 x0_6_44 x0_6_44 x0_8_44 x0_9_44 x0_10 x0_11 x0_12 x0_13 x0_14 x1_1 a2)) (As := [.int r_60_4]) (rest := []) ⟨hx, hb, hml, hown, ht0⟩ (c_X3_isDigit l G _ F r_60_4 _ hc_r_134_8) yk_X3_isDigit wd_627 ⟨rfl, rfl, by decide, by decide⟩ ⟨Nat.le_refl _, Nat.le_refl _⟩ hX hK hP hD hS hA [] [0, 1, 2] [0, 1, 2] rfl rfl (by decide) rfl rfl rfl rfl rfl hl.1 rfl (Nat.le_of_ble_eq_true rfl) dX3_nextToken_134 (fun H locs hP hD hS => ?_)
        refine lv_if_eq (tgt := 152) hx hb dX3_nextToken_137 (by decide) (fun c10 => ?_) (fun c10 => ?_)
        · have hf := of_pos hf c10
          refine lv_aload_n hx hb dX3_nextToken_152 rfl (lv_at hl 1 rfl) ?_
          refine lv_iload_n hx hb dX3_nextToken_153 rfl (lv_at hl 0 rfl) ?_
          refine lv_bipush (v := (59 : Int32)) hx hb dX3_nextToken_154 (by decide) ?_
          refine lv_icmp_ne (tgt := 163) hx hb dX3_nextToken_156 (by decide) (fun c11 => ?_) (fun c11 => ?_)
          · have hf := of_neg hf c11
            refine lv_iconst (v := (4 : Int32)) hx hb dX3_nextToken_163 (by decide) ?_
            exact kJ164 _ _ _ _ _ hf _ _ hP hD hS _ (lv_sub hl [1] rfl)
          · have hf := of_pos hf c11
            refine lv_iconst (v := (3 : Int32)) hx hb dX3_nextToken_159 (by decide) ?_
            refine lv_goto (tgt := 164) hx hb dX3_nextToken_160 (by decide) ?_
            exact kJ164 _ _ _ _ _ hf _ _ hP hD hS _ (lv_sub hl [1] rfl)
        · have hf := of_neg hf c10
          refine lv_aload_n hx hb dX3_nextToken_140 rfl (lv_at hl 1 rfl) ?_
          refine lv_iconst (v := (2 : Int32)) hx hb dX3_nextToken_141 (by decide) ?_
          refine va_put (ci := 3) (v := .int (2 : Int32)) (ty := .int) (C := RX3) (T := TX3) (N := 15) hx hb ht0 iX3 tyX3 tyX3_ok nmX3 hown hK hP hD hS 0 rfl rfl 8 (by decide) (ht0 _ wd_261) (fun _ h9 => h9) rfl rfl rfl rfl (Nat.le_of_ble_eq_true rfl) dX3_nextToken_142 (fun H locs hP hD hS => ?_)
          have hP : va_P G.1 vwCl (wW_X3_nextToken G h0 h1 h2 y0_1 y0_2 y0_3 x0_4 x0_5 x0_6_44 x0_6_44 (2 : Int32) x0_9_44 x0_10 x0_11 x0_12 x0_13 x0_14 x1_1 a2) H := hP
          have hD : va_D A (wW_X3_nextToken G h0 h1 h2 y0_1 y0_2 y0_3 x0_4 x0_5 x0_6_44 x0_6_44 (2 : Int32) x0_9_44 x0_10 x0_11 x0_12 x0_13 x0_14 x1_1 a2) := hD
          refine lv_aload_n hx hb dX3_nextToken_145 rfl (lv_at hl 1 rfl) ?_
          obtain ⟨⟨r_146_11_x0_6, r_146_11_x0_9⟩, hc_r_146_11, hf⟩ := of_bnd hf
          refine cl_Vv (w2 := (wW_X3_nextToken G h0 h1 h2 y0_1 y0_2 y0_3 x0_4 x0_5 r_146_11_x0_6 x0_6_44 (2 : Int32) r_146_11_x0_9 x0_10 x0_11 x0_12 x0_13 x0_14 x1_1 a2)) (As := []) (rest := []) ⟨hx, hb, hml, hown, ht0⟩ (c_X3_takeDigits l G h0 h1 h2 y0_1 y0_2 y0_3 _ x0_4 x0_5 x0_6_44 x0_6_44 (2 : Int32) x0_9_44 x0_10 x0_11 x0_12 x0_13 x0_14 x1_1 a2 F _ _ hc_r_146_11) yk_X3_takeDigits wd_630 ⟨rfl, rfl, by decide, by decide⟩ ⟨Nat.le_refl _, Nat.le_refl _⟩ hX hK hP hD hS hA [0, 1, 2] [] [0, 1, 2] (va_recv hK hP (ci := 3) (q0 := 0) rfl rfl) rfl rfl (by decide) rfl rfl rfl rfl rfl hl.1 rfl (Nat.le_of_ble_eq_true rfl) dX3_nextToken_146 (fun H locs hP hD hS => ?_)
          refine lv_goto (tgt := 177) hx hb dX3_nextToken_149 (by decide) ?_
          cases hf
          exact ret_v hx hb hr hlk hK hP hD hS dX3_nextToken_177
      · have hf := of_neg hf c8
        refine lv_aload_n hx hb dX3_nextToken_84 rfl (lv_at hl 1 rfl) ?_
        refine lv_iconst (v := (1 : Int32)) hx hb dX3_nextToken_85 (by decide) ?_
        refine va_put (ci := 3) (v := .int (1 : Int32)) (ty := .int) (C := RX3) (T := TX3) (N := 15) hx hb ht0 iX3 tyX3 tyX3_ok nmX3 hown hK hP hD hS 0 rfl rfl 8 (by decide) (ht0 _ wd_261) (fun _ h9 => h9) rfl rfl rfl rfl (Nat.le_of_ble_eq_true rfl) dX3_nextToken_86 (fun H locs hP hD hS => ?_)
        have hP : va_P G.1 vwCl (wW_X3_nextToken G h0 h1 h2 y0_1 y0_2 y0_3 x0_4 x0_5 x0_6_44 x0_6_44 (1 : Int32) x0_9_44 x0_10 x0_11 x0_12 x0_13 x0_14 x1_1 a2) H := hP
        have hD : va_D A (wW_X3_nextToken G h0 h1 h2 y0_1 y0_2 y0_3 x0_4 x0_5 x0_6_44 x0_6_44 (1 : Int32) x0_9_44 x0_10 x0_11 x0_12 x0_13 x0_14 x1_1 a2) := hD
        exact kL89 _ _ _ _ _ hf _ _ hP hD hS _ (lv_sub hl [1] rfl)
    · have hf := of_pos hf c6
      refine lv_aload_n hx hb dX3_nextToken_69 rfl (lv_at hl 1 rfl) ?_
      refine lv_iconst (v := (0 : Int32)) hx hb dX3_nextToken_70 (by decide) ?_
      refine va_put (ci := 3) (v := .int (0 : Int32)) (ty := .int) (C := RX3) (T := TX3) (N := 15) hx hb ht0 iX3 tyX3 tyX3_ok nmX3 hown hK hP hD hS 0 rfl rfl 8 (by decide) (ht0 _ wd_261) (fun _ h9 => h9) rfl rfl rfl rfl (Nat.le_of_ble_eq_true rfl) dX3_nextToken_71 (fun H locs hP hD hS => ?_)
      have hP : va_P G.1 vwCl (wW_X3_nextToken G h0 h1 h2 y0_1 y0_2 y0_3 x0_4 x0_5 x0_6_44 x0_6_44 (0 : Int32) x0_9_44 x0_10 x0_11 x0_12 x0_13 x0_14 x1_1 a2) H := hP
      have hD : va_D A (wW_X3_nextToken G h0 h1 h2 y0_1 y0_2 y0_3 x0_4 x0_5 x0_6_44 x0_6_44 (0 : Int32) x0_9_44 x0_10 x0_11 x0_12 x0_13 x0_14 x1_1 a2) := hD
      refine lv_goto (tgt := 177) hx hb dX3_nextToken_74 (by decide) ?_
      cases hf
      exact ret_v hx hb hr hlk hK hP hD hS dX3_nextToken_177
  have kL0 : ∀ (n0 : Nat) (x0_6_0 : Int32) (x0_7_0 : Int32) (x0_8_0 : Int32) (x0_9_0 : Int32), p_X3_nextToken_L0 F x1_1 a2 n0 x0_6_0 x0_7_0 x0_8_0 x0_9_0 = some (e_x0_6, e_x0_7, e_x0_8, e_x0_9) → ∀ (H : Heap) (locs : List Loc), va_P G.1 vwCl (wW_X3_nextToken G h0 h1 h2 y0_1 y0_2 y0_3 x0_4 x0_5 x0_6_0 x0_7_0 x0_8_0 x0_9_0 x0_10 x0_11 x0_12 x0_13 x0_14 x1_1 a2) H → va_D A (wW_X3_nextToken G h0 h1 h2 y0_1 y0_2 y0_3 x0_4 x0_5 x0_6_0 x0_7_0 x0_8_0 x0_9_0 x0_10 x0_11 x0_12 x0_13 x0_14 x1_1 a2) → va_S A s.heap H locs → ∀ ls : Array Slot, lv_has ls 2 [(0, .ref h0)] → W p l e ({ frames := 2, cells := 0, slots := 0, locals := 41 } : Room) s m (List.toArray [.ref h0]) below meth c H locs 0 0 (MQ below (QvS G A (wW_X3_nextToken G h0 h1 h2 y0_1 y0_2 y0_3 x0_4 x0_5 e_x0_6 e_x0_7 e_x0_8 e_x0_9 x0_10 x0_11 x0_12 x0_13 x0_14 x1_1 a2)) (List.toArray [.ref h0]) s 0 0 A) (F0 m 0 ls []) := by
    intro n0
    induction n0 with
    | zero =>
      intro x0_6_0 x0_7_0 x0_8_0 x0_9_0 hf
      cases hf
    | succ n0 ih0 =>
      intro x0_6_0 x0_7_0 x0_8_0 x0_9_0 hf H locs hP hD hS ls hl
      have hf : p_X3_nextToken_L0b F x1_1 a2 (p_X3_nextToken_L0 F x1_1 a2 n0) x0_6_0 x0_7_0 x0_8_0 x0_9_0 = some (e_x0_6, e_x0_7, e_x0_8, e_x0_9) := hf
      refine lv_aload_n hx hb dX3_nextToken_0 rfl (lv_at hl 0 rfl) ?_
      refine va_get (ci := 3) (v := .int x0_6_0) (C := RX3) (T := TX3) (N := 15) hx hb ht0 iX3 hown hK hP 0 rfl rfl 6 (by decide) (ht0 _ wd_259) (fun _ h9 => h9) rfl dX3_nextToken_1 ?_
      refine lv_aload_n hx hb dX3_nextToken_4 rfl (lv_at hl 0 rfl) ?_
      refine va_get (ci := 3) (v := .ref h1) (C := RX3) (T := TX3) (N := 15) hx hb ht0 iX3 hown hK hP 0 rfl rfl 0 (by decide) (ht0 _ wd_247) (fun _ h9 => h9) rfl dX3_nextToken_5 ?_
      refine va_get (ci := 7) (v := .int x1_1) (C := RX7) (T := TX7) (N := 2) hx hb ht0 iX7 hown hK hP 1 rfl rfl 1 (by decide) (ht0 _ wd_170) (fun _ h9 => h9) rfl dX3_nextToken_8 ?_
      refine lv_icmp_ge (tgt := 44) hx hb dX3_nextToken_11 (by decide) (fun c13 => ?_) (fun c13 => ?_)
      · have hf := of_pos hf c13
        exact kJ44 _ _ _ _ hf _ _ hP hD hS _ (lv_sub hl [0] rfl)
      · have hf := of_neg hf c13
        refine lv_aload_n hx hb dX3_nextToken_14 rfl (lv_at hl 0 rfl) ?_
        refine va_get (ci := 3) (v := .ref h1) (C := RX3) (T := TX3) (N := 15) hx hb ht0 iX3 hown hK hP 0 rfl rfl 0 (by decide) (ht0 _ wd_247) (fun _ h9 => h9) rfl dX3_nextToken_15 ?_
        refine lv_aload_n hx hb dX3_nextToken_18 rfl (lv_at hl 0 rfl) ?_
        refine va_get (ci := 3) (v := .int x0_6_0) (C := RX3) (T := TX3) (N := 15) hx hb ht0 iX3 hown hK hP 0 rfl rfl 6 (by decide) (ht0 _ wd_259) (fun _ h9 => h9) rfl dX3_nextToken_19 ?_
        obtain ⟨r_22_13, hc_r_22_13, hf⟩ := of_bnd hf
        refine cl_Vi (w2 := (wW_X3_nextToken G h0 h1 h2 y0_1 y0_2 y0_3 x0_4 x0_5 x0_6_0 x0_7_0 x0_8_0 x0_9_0 x0_10 x0_11 x0_12 x0_13 x0_14 x1_1 a2)) (As := [.int x0_6_0]) (rest := []) ⟨hx, hb, hml, hown, ht0⟩ (c_X7_byteAt l G h1 h2 _ x1_1 a2 F x0_6_0 _ hc_r_22_13) yk_X7_byteAt wd_617 ⟨rfl, rfl, by decide, by decide⟩ ⟨Nat.le_refl _, Nat.le_refl _⟩ hX hK hP hD hS hA [1, 2] [0] [0, 1, 2] (va_recv hK hP (ci := 7) (q0 := 1) rfl rfl) rfl rfl (by decide) rfl rfl rfl rfl rfl hl.1 rfl (Nat.le_of_ble_eq_true rfl) dX3_nextToken_22 (fun H locs hP hD hS => ?_)
        obtain ⟨r_25_14, hc_r_25_14, hf⟩ := of_bnd hf
        refine cl_Si (w2 := (wW_X3_nextToken G h0 h1 h2 y0_1 y0_2 y0_3 x0_4 x0_5 x0_6_0 x0_7_0 x0_8_0 x0_9_0 x0_10 x0_11 x0_12 x0_13 x0_14 x1_1 a2)) (As := [.int r_22_13]) (rest := []) ⟨hx, hb, hml, hown, ht0⟩ (c_X3_isBlank l G _ F r_22_13 _ hc_r_25_14) yk_X3_isBlank wd_621 ⟨rfl, rfl, by decide, by decide⟩ ⟨Nat.le_refl _, Nat.le_refl _⟩ hX hK hP hD hS hA [] [0, 1, 2] [0, 1, 2] rfl rfl (by decide) rfl rfl rfl rfl rfl hl.1 rfl (Nat.le_of_ble_eq_true rfl) dX3_nextToken_25 (fun H locs hP hD hS => ?_)
        refine lv_if_eq (tgt := 44) hx hb dX3_nextToken_28 (by decide) (fun c16 => ?_) (fun c16 => ?_)
        · have hf := of_pos hf c16
          exact kJ44 _ _ _ _ hf _ _ hP hD hS _ (lv_sub hl [0] rfl)
        · have hf := of_neg hf c16
          refine lv_aload_n hx hb dX3_nextToken_31 rfl (lv_at hl 0 rfl) ?_
          refine lv_dup hx hb dX3_nextToken_32 rfl ?_
          refine va_get (ci := 3) (v := .int x0_6_0) (C := RX3) (T := TX3) (N := 15) hx hb ht0 iX3 hown hK hP 0 rfl rfl 6 (by decide) (ht0 _ wd_259) (fun _ h9 => h9) rfl dX3_nextToken_33 ?_
          refine lv_iconst (v := (1 : Int32)) hx hb dX3_nextToken_36 (by decide) ?_
          refine lv_iadd hx hb dX3_nextToken_37 ?_
          refine va_put (ci := 3) (v := .int (x0_6_0 + (1 : Int32))) (ty := .int) (C := RX3) (T := TX3) (N := 15) hx hb ht0 iX3 tyX3 tyX3_ok nmX3 hown hK hP hD hS 0 rfl rfl 6 (by decide) (ht0 _ wd_259) (fun _ h9 => h9) rfl rfl rfl rfl (Nat.le_of_ble_eq_true rfl) dX3_nextToken_38 (fun H locs hP hD hS => ?_)
          have hP : va_P G.1 vwCl (wW_X3_nextToken G h0 h1 h2 y0_1 y0_2 y0_3 x0_4 x0_5 (x0_6_0 + (1 : Int32)) x0_7_0 x0_8_0 x0_9_0 x0_10 x0_11 x0_12 x0_13 x0_14 x1_1 a2) H := hP
          have hD : va_D A (wW_X3_nextToken G h0 h1 h2 y0_1 y0_2 y0_3 x0_4 x0_5 (x0_6_0 + (1 : Int32)) x0_7_0 x0_8_0 x0_9_0 x0_10 x0_11 x0_12 x0_13 x0_14 x1_1 a2) := hD
          refine lv_goto (tgt := 0) hx hb dX3_nextToken_41 (by decide) ?_
          exact ih0 _ _ _ _ hf _ _ hP hD hS _ (lv_sub hl [0] rfl)
  exact kL0 _ _ _ _ _ hf _ _ hP hD hS _ (lv_sub hl [0] rfl)
theorem yk_X3_nextToken : ykV yX3_nextToken RX3 cX3_nextToken 2 none 0 := ⟨wd_615, wd_11, wd_128, wd_616, rfl, by decide +kernel, by decide +kernel, by decide +kernel⟩
theorem dX3_tokenIs_0 : decode cX3_tokenIs 0 = .ok (.aload_n 0, 1) := by decide +kernel
theorem dX3_tokenIs_1 : decode cX3_tokenIs 1 = .ok (.getfield 65, 3) := by decide +kernel
theorem dX3_tokenIs_4 : decode cX3_tokenIs 4 = .ok (.iconst 1, 1) := by decide +kernel
theorem dX3_tokenIs_5 : decode cX3_tokenIs 5 = .ok (.if_icmp .ne 19, 3) := by decide +kernel
theorem dX3_tokenIs_8 : decode cX3_tokenIs 8 = .ok (.aload_n 0, 1) := by decide +kernel
theorem dX3_tokenIs_9 : decode cX3_tokenIs 9 = .ok (.getfield 94, 3) := by decide +kernel
theorem dX3_tokenIs_12 : decode cX3_tokenIs 12 = .ok (.aload_n 0, 1) := by decide +kernel
theorem dX3_tokenIs_13 : decode cX3_tokenIs 13 = .ok (.getfield 111, 3) := by decide +kernel
theorem dX3_tokenIs_16 : decode cX3_tokenIs 16 = .ok (.isub, 1) := by decide +kernel
theorem dX3_tokenIs_17 : decode cX3_tokenIs 17 = .ok (.aload_n 1, 1) := by decide +kernel
theorem dX3_tokenIs_18 : decode cX3_tokenIs 18 = .ok (.invokevirtual 133, 3) := by decide +kernel
theorem dX3_tokenIs_21 : decode cX3_tokenIs 21 = .ok (.if_icmp .eq 5, 3) := by decide +kernel
theorem dX3_tokenIs_24 : decode cX3_tokenIs 24 = .ok (.iconst 0, 1) := by decide +kernel
theorem dX3_tokenIs_25 : decode cX3_tokenIs 25 = .ok (.ireturn, 1) := by decide +kernel
theorem dX3_tokenIs_26 : decode cX3_tokenIs 26 = .ok (.iconst 0, 1) := by decide +kernel
theorem dX3_tokenIs_27 : decode cX3_tokenIs 27 = .ok (.istore_n 2, 1) := by decide +kernel
theorem dX3_tokenIs_28 : decode cX3_tokenIs 28 = .ok (.iload_n 2, 1) := by decide +kernel
theorem dX3_tokenIs_29 : decode cX3_tokenIs 29 = .ok (.aload_n 1, 1) := by decide +kernel
theorem dX3_tokenIs_30 : decode cX3_tokenIs 30 = .ok (.invokevirtual 133, 3) := by decide +kernel
theorem dX3_tokenIs_33 : decode cX3_tokenIs 33 = .ok (.if_icmp .ge 32, 3) := by decide +kernel
theorem dX3_tokenIs_36 : decode cX3_tokenIs 36 = .ok (.aload_n 0, 1) := by decide +kernel
theorem dX3_tokenIs_37 : decode cX3_tokenIs 37 = .ok (.getfield 12, 3) := by decide +kernel
theorem dX3_tokenIs_40 : decode cX3_tokenIs 40 = .ok (.aload_n 0, 1) := by decide +kernel
theorem dX3_tokenIs_41 : decode cX3_tokenIs 41 = .ok (.getfield 111, 3) := by decide +kernel
theorem dX3_tokenIs_44 : decode cX3_tokenIs 44 = .ok (.iload_n 2, 1) := by decide +kernel
theorem dX3_tokenIs_45 : decode cX3_tokenIs 45 = .ok (.iadd, 1) := by decide +kernel
theorem dX3_tokenIs_46 : decode cX3_tokenIs 46 = .ok (.invokevirtual 103, 3) := by decide +kernel
theorem dX3_tokenIs_49 : decode cX3_tokenIs 49 = .ok (.aload_n 1, 1) := by decide +kernel
theorem dX3_tokenIs_50 : decode cX3_tokenIs 50 = .ok (.iload_n 2, 1) := by decide +kernel
theorem dX3_tokenIs_51 : decode cX3_tokenIs 51 = .ok (.invokevirtual 138, 3) := by decide +kernel
theorem dX3_tokenIs_54 : decode cX3_tokenIs 54 = .ok (.if_icmp .eq 5, 3) := by decide +kernel
theorem dX3_tokenIs_57 : decode cX3_tokenIs 57 = .ok (.iconst 0, 1) := by decide +kernel
theorem dX3_tokenIs_58 : decode cX3_tokenIs 58 = .ok (.ireturn, 1) := by decide +kernel
theorem dX3_tokenIs_59 : decode cX3_tokenIs 59 = .ok (.iinc 2 1, 3) := by decide +kernel
theorem dX3_tokenIs_62 : decode cX3_tokenIs 62 = .ok (.goto (-34), 3) := by decide +kernel
theorem dX3_tokenIs_65 : decode cX3_tokenIs 65 = .ok (.iconst 1, 1) := by decide +kernel
theorem dX3_tokenIs_66 : decode cX3_tokenIs 66 = .ok (.ireturn, 1) := by decide +kernel
def wW_X3_tokenIs (G : GG) (h0 h1 h2 y0_1 y0_2 y0_3 : Nat) (x0_4 : Int32) (x0_5 : Int32) (x0_6 : Int32) (x0_7 : Int32) (x0_8 : Int32) (x0_9 : Int32) (x0_10 : Int32) (x0_11 : Int32) (x0_12 : Int32) (x0_13 : Int32) (x0_14 : Int32) (x1_1 : Int32) (a2 : Nat → Int32) : va_W := [(h0, .inr (3, [.ref h1, .ref y0_1, .ref y0_2, .ref y0_3, .int x0_4, .int x0_5, .int x0_6, .int x0_7, .int x0_8, .int x0_9, .int x0_10, .int x0_11, .int x0_12, .int x0_13, .int x0_14])), (h1, .inr (7, [.ref h2, .int x1_1])), (h2, .inl (G.2.1, 600, .inl a2))]
set_option maxHeartbeats 4000000 in
set_option maxRecDepth 100000 in
theorem c_X3_tokenIs (l : Launch) (G : GG) (h0 h1 h2 y0_1 y0_2 y0_3 : Nat) (sz : Nat) (x0_4 : Int32) (x0_5 : Int32) (x0_6 : Int32) (x0_7 : Int32) (x0_8 : Int32) (x0_9 : Int32) (x0_10 : Int32) (x0_11 : Int32) (x0_12 : Int32) (x0_13 : Int32) (x0_14 : Int32) (x1_1 : Int32) (a2 : Nat → Int32) (F : Nat) (b1 : Nat) (hs1 : b1 < 9)   (r0 : Int32) (hf : p_X3_tokenIs F x0_6 x0_7 x0_8 x1_1 a2 b1  = some r0) : Met l yX3_tokenIs (.code yX3_tokenIs cX3_tokenIs 3 (some .boolean) :: gtbl) ({ frames := 4, cells := 0, slots := 0, locals := 85 } : Room) (PcS G [.ref h0, .ref (gK G b1)] (wW_X3_tokenIs G h0 h1 h2 y0_1 y0_2 y0_3 x0_4 x0_5 x0_6 x0_7 x0_8 x0_9 x0_10 x0_11 x0_12 x0_13 x0_14 x1_1 a2) sz) (QiS G r0 (va_A (wW_X3_tokenIs G h0 h1 h2 y0_1 y0_2 y0_3 x0_4 x0_5 x0_6 x0_7 x0_8 x0_9 x0_10 x0_11 x0_12 x0_13 x0_14 x1_1 a2) sz) (wW_X3_tokenIs G h0 h1 h2 y0_1 y0_2 y0_3 x0_4 x0_5 x0_6 x0_7 x0_8 x0_9 x0_10 x0_11 x0_12 x0_13 x0_14 x1_1 a2)) 0 0 (va_A (wW_X3_tokenIs G h0 h1 h2 y0_1 y0_2 y0_3 x0_4 x0_5 x0_6 x0_7 x0_8 x0_9 x0_10 x0_11 x0_12 x0_13 x0_14 x1_1 a2) sz) := by
  refine met_start (by decide) (Nat.le_of_ble_eq_true rfl) ?_
  intro p e s m below meth c hC hr hlk hnm hK hP hD hA hS hX ls hl
  obtain ⟨hx, hb, hml, hown, ht0⟩ := hC
  have hown : s.vm.findClass RX3 = some m.cls := hown
  generalize va_A (wW_X3_tokenIs G h0 h1 h2 y0_1 y0_2 y0_3 x0_4 x0_5 x0_6 x0_7 x0_8 x0_9 x0_10 x0_11 x0_12 x0_13 x0_14 x1_1 a2) sz = A at hD hA hS hX ⊢
  have hl : lv_has ls 3 [(0, .ref h0), (1, .ref (gK G b1))] := hl
  have hf : p_X3_tokenIs F x0_6 x0_7 x0_8 x1_1 a2 b1  = some r0 := hf
  have kL28 : ∀ (n28 : Nat) (u28_2 : Int32), p_X3_tokenIs_L28 F x0_6 x0_7 x0_8 x1_1 a2 b1 n28 u28_2 = some r0 → ∀ (H : Heap) (locs : List Loc), va_P G.1 vwCl (wW_X3_tokenIs G h0 h1 h2 y0_1 y0_2 y0_3 x0_4 x0_5 x0_6 x0_7 x0_8 x0_9 x0_10 x0_11 x0_12 x0_13 x0_14 x1_1 a2) H → va_D A (wW_X3_tokenIs G h0 h1 h2 y0_1 y0_2 y0_3 x0_4 x0_5 x0_6 x0_7 x0_8 x0_9 x0_10 x0_11 x0_12 x0_13 x0_14 x1_1 a2) → va_S A s.heap H locs → ∀ ls : Array Slot, lv_has ls 3 [(0, .ref h0), (1, .ref (gK G b1)), (2, .int u28_2)] → W p l e ({ frames := 4, cells := 0, slots := 0, locals := 85 } : Room) s m (List.toArray [.ref h0, .ref (gK G b1)]) below meth c H locs 0 0 (MQ below (QiS G r0 A (wW_X3_tokenIs G h0 h1 h2 y0_1 y0_2 y0_3 x0_4 x0_5 x0_6 x0_7 x0_8 x0_9 x0_10 x0_11 x0_12 x0_13 x0_14 x1_1 a2)) (List.toArray [.ref h0, .ref (gK G b1)]) s 0 0 A) (F0 m 28 ls []) := by
    intro n28
    induction n28 with
    | zero =>
      intro u28_2 hf
      cases hf
    | succ n28 ih28 =>
      intro u28_2 hf H locs hP hD hS ls hl
      have hf : p_X3_tokenIs_L28b F x0_6 x0_7 x0_8 x1_1 a2 b1 (p_X3_tokenIs_L28 F x0_6 x0_7 x0_8 x1_1 a2 b1 n28) u28_2 = some r0 := hf
      refine lv_iload_n hx hb dX3_tokenIs_28 rfl (lv_at hl 2 rfl) ?_
      refine lv_aload_n hx hb dX3_tokenIs_29 rfl (lv_at hl 1 rfl) ?_
      refine cl_Vi (w2 := (wW_X3_tokenIs G h0 h1 h2 y0_1 y0_2 y0_3 x0_4 x0_5 x0_6 x0_7 x0_8 x0_9 x0_10 x0_11 x0_12 x0_13 x0_14 x1_1 a2)) (As := []) (rest := [.int u28_2]) ⟨hx, hb, hml, hown, ht0⟩ (c_J0_length_8abf5 l G _ b1 hs1) yk_J0_length_8abf5 wd_647 ⟨rfl, rfl, by decide, by decide⟩ ⟨Nat.le_refl _, Nat.le_refl _⟩ hX hK hP hD hS hA [] [0, 1, 2] [0, 1, 2] (vk_recv hX.2.1.2.1 hs1 hS) rfl rfl (by decide) rfl rfl rfl rfl rfl hl.1 rfl (Nat.le_of_ble_eq_true rfl) dX3_tokenIs_30 (fun H locs hP hD hS => ?_)
      refine lv_icmp_ge (tgt := 65) hx hb dX3_tokenIs_33 (by decide) (fun c1 => ?_) (fun c1 => ?_)
      · have hf := of_pos hf c1
        refine lv_iconst (v := (1 : Int32)) hx hb dX3_tokenIs_65 (by decide) ?_
        cases hf
        exact ret_z hx hb hr hlk hK hP hD hS (by decide) dX3_tokenIs_66
      · have hf := of_neg hf c1
        refine lv_aload_n hx hb dX3_tokenIs_36 rfl (lv_at hl 0 rfl) ?_
        refine va_get (ci := 3) (v := .ref h1) (C := RX3) (T := TX3) (N := 15) hx hb ht0 iX3 hown hK hP 0 rfl rfl 0 (by decide) (ht0 _ wd_247) (fun _ h9 => h9) rfl dX3_tokenIs_37 ?_
        refine lv_aload_n hx hb dX3_tokenIs_40 rfl (lv_at hl 0 rfl) ?_
        refine va_get (ci := 3) (v := .int x0_7) (C := RX3) (T := TX3) (N := 15) hx hb ht0 iX3 hown hK hP 0 rfl rfl 7 (by decide) (ht0 _ wd_260) (fun _ h9 => h9) rfl dX3_tokenIs_41 ?_
        refine lv_iload_n hx hb dX3_tokenIs_44 rfl (lv_at hl 2 rfl) ?_
        refine lv_iadd hx hb dX3_tokenIs_45 ?_
        obtain ⟨r_46_1, hc_r_46_1, hf⟩ := of_bnd hf
        refine cl_Vi (w2 := (wW_X3_tokenIs G h0 h1 h2 y0_1 y0_2 y0_3 x0_4 x0_5 x0_6 x0_7 x0_8 x0_9 x0_10 x0_11 x0_12 x0_13 x0_14 x1_1 a2)) (As := [.int (x0_7 + u28_2)]) (rest := []) ⟨hx, hb, hml, hown, ht0⟩ (c_X7_byteAt l G h1 h2 _ x1_1 a2 F (x0_7 + u28_2) _ hc_r_46_1) yk_X7_byteAt wd_617 ⟨rfl, rfl, by decide, by decide⟩ ⟨Nat.le_refl _, Nat.le_refl _⟩ hX hK hP hD hS hA [1, 2] [0] [0, 1, 2] (va_recv hK hP (ci := 7) (q0 := 1) rfl rfl) rfl rfl (by decide) rfl rfl rfl rfl rfl hl.1 rfl (Nat.le_of_ble_eq_true rfl) dX3_tokenIs_46 (fun H locs hP hD hS => ?_)
        refine lv_aload_n hx hb dX3_tokenIs_49 rfl (lv_at hl 1 rfl) ?_
        refine lv_iload_n hx hb dX3_tokenIs_50 rfl (lv_at hl 2 rfl) ?_
        obtain ⟨g3, hf⟩ := of_grd hf
        refine cl_Vi (w2 := (wW_X3_tokenIs G h0 h1 h2 y0_1 y0_2 y0_3 x0_4 x0_5 x0_6 x0_7 x0_8 x0_9 x0_10 x0_11 x0_12 x0_13 x0_14 x1_1 a2)) (As := [.int u28_2]) (rest := [.int r_46_1]) ⟨hx, hb, hml, hown, ht0⟩ (c_J0_charAt_5068e l G _ b1 hs1 u28_2 g3) yk_J0_charAt_5068e wd_657 ⟨rfl, rfl, by decide, by decide⟩ ⟨Nat.le_refl _, Nat.le_refl _⟩ hX hK hP hD hS hA [] [0, 1, 2] [0, 1, 2] (vk_recv hX.2.1.2.1 hs1 hS) rfl rfl (by decide) rfl rfl rfl rfl rfl hl.1 rfl (Nat.le_of_ble_eq_true rfl) dX3_tokenIs_51 (fun H locs hP hD hS => ?_)
        refine lv_icmp_eq (tgt := 59) hx hb dX3_tokenIs_54 (by decide) (fun c4 => ?_) (fun c4 => ?_)
        · have hf := of_pos hf c4
          refine lv_iinc (v := u28_2 + (1 : Int32)) (lv' := [(2, .int (u28_2 + (1 : Int32))), (0, .ref h0), (1, .ref (gK G b1))]) hx hb dX3_tokenIs_59 hl (k := 2) rfl (by rfl) (by decide) rfl (fun ls hl => ?_)
          refine lv_goto (tgt := 28) hx hb dX3_tokenIs_62 (by decide) ?_
          exact ih28 _ hf _ _ hP hD hS _ (lv_sub hl [1, 2, 0] rfl)
        · have hf := of_neg hf c4
          refine lv_iconst (v := (0 : Int32)) hx hb dX3_tokenIs_57 (by decide) ?_
          cases hf
          exact ret_z hx hb hr hlk hK hP hD hS (by decide) dX3_tokenIs_58
  refine lv_aload_n hx hb dX3_tokenIs_0 rfl (lv_at hl 0 rfl) ?_
  refine va_get (ci := 3) (v := .int x0_8) (C := RX3) (T := TX3) (N := 15) hx hb ht0 iX3 hown hK hP 0 rfl rfl 8 (by decide) (ht0 _ wd_261) (fun _ h9 => h9) rfl dX3_tokenIs_1 ?_
  refine lv_iconst (v := (1 : Int32)) hx hb dX3_tokenIs_4 (by decide) ?_
  refine lv_icmp_ne (tgt := 24) hx hb dX3_tokenIs_5 (by decide) (fun c5 => ?_) (fun c5 => ?_)
  · have hf := of_neg hf c5
    refine lv_iconst (v := (0 : Int32)) hx hb dX3_tokenIs_24 (by decide) ?_
    cases hf
    exact ret_z hx hb hr hlk hK hP hD hS (by decide) dX3_tokenIs_25
  · have hf := of_pos hf c5
    refine lv_aload_n hx hb dX3_tokenIs_8 rfl (lv_at hl 0 rfl) ?_
    refine va_get (ci := 3) (v := .int x0_6) (C := RX3) (T := TX3) (N := 15) hx hb ht0 iX3 hown hK hP 0 rfl rfl 6 (by decide) (ht0 _ wd_259) (fun _ h9 => h9) rfl dX3_tokenIs_9 ?_
    refine lv_aload_n hx hb dX3_tokenIs_12 rfl (lv_at hl 0 rfl) ?_
    refine va_get (ci := 3) (v := .int x0_7) (C := RX3) (T := TX3) (N := 15) hx hb ht0 iX3 hown hK hP 0 rfl rfl 7 (by decide) (ht0 _ wd_260) (fun _ h9 => h9) rfl dX3_tokenIs_13 ?_
    refine lv_isub hx hb dX3_tokenIs_16 ?_
    refine lv_aload_n hx hb dX3_tokenIs_17 rfl (lv_at hl 1 rfl) ?_
    refine cl_Vi (w2 := (wW_X3_tokenIs G h0 h1 h2 y0_1 y0_2 y0_3 x0_4 x0_5 x0_6 x0_7 x0_8 x0_9 x0_10 x0_11 x0_12 x0_13 x0_14 x1_1 a2)) (As := []) (rest := [.int (x0_6 - x0_7)]) ⟨hx, hb, hml, hown, ht0⟩ (c_J0_length_8abf5 l G _ b1 hs1) yk_J0_length_8abf5 wd_647 ⟨rfl, rfl, by decide, by decide⟩ ⟨Nat.le_refl _, Nat.le_refl _⟩ hX hK hP hD hS hA [] [0, 1, 2] [0, 1, 2] (vk_recv hX.2.1.2.1 hs1 hS) rfl rfl (by decide) rfl rfl rfl rfl rfl hl.1 rfl (Nat.le_of_ble_eq_true rfl) dX3_tokenIs_18 (fun H locs hP hD hS => ?_)
    refine lv_icmp_eq (tgt := 26) hx hb dX3_tokenIs_21 (by decide) (fun c6 => ?_) (fun c6 => ?_)
    · have hf := of_pos hf c6
      refine lv_iconst (v := (0 : Int32)) hx hb dX3_tokenIs_26 (by decide) ?_
      refine lv_istore_n (lv' := [(2, .int (0 : Int32)), (0, .ref h0), (1, .ref (gK G b1))]) hx hb dX3_tokenIs_27 rfl hl (by decide) rfl (fun ls hl => ?_)
      exact kL28 _ _ hf _ _ hP hD hS _ (lv_sub hl [1, 2, 0] rfl)
    · have hf := of_neg hf c6
      refine lv_iconst (v := (0 : Int32)) hx hb dX3_tokenIs_24 (by decide) ?_
      cases hf
      exact ret_z hx hb hr hlk hK hP hD hS (by decide) dX3_tokenIs_25
theorem yk_X3_tokenIs : ykV yX3_tokenIs RX3 cX3_tokenIs 3 (some .boolean) 1 := ⟨wd_645, wd_14, wd_128, wd_646, rfl, by decide +kernel, by decide +kernel, by decide +kernel⟩
theorem dX3_endsHead_0 : decode cX3_endsHead 0 = .ok (.aload_n 0, 1) := by decide +kernel
theorem dX3_endsHead_1 : decode cX3_endsHead 1 = .ok (.getfield 57, 3) := by decide +kernel
theorem dX3_endsHead_4 : decode cX3_endsHead 4 = .ok (.ifCond .ne 39, 3) := by decide +kernel
theorem dX3_endsHead_7 : decode cX3_endsHead 7 = .ok (.aload_n 0, 1) := by decide +kernel
theorem dX3_endsHead_8 : decode cX3_endsHead 8 = .ok (.getfield 68, 3) := by decide +kernel
theorem dX3_endsHead_11 : decode cX3_endsHead 11 = .ok (.ifCond .ne 32, 3) := by decide +kernel
theorem dX3_endsHead_14 : decode cX3_endsHead 14 = .ok (.aload_n 0, 1) := by decide +kernel
theorem dX3_endsHead_15 : decode cX3_endsHead 15 = .ok (.getfield 65, 3) := by decide +kernel
theorem dX3_endsHead_18 : decode cX3_endsHead 18 = .ok (.ifCond .eq 21, 3) := by decide +kernel
theorem dX3_endsHead_21 : decode cX3_endsHead 21 = .ok (.aload_n 0, 1) := by decide +kernel
theorem dX3_endsHead_22 : decode cX3_endsHead 22 = .ok (.ldc 74, 2) := by decide +kernel
theorem dX3_endsHead_24 : decode cX3_endsHead 24 = .ok (.invokevirtual 76, 3) := by decide +kernel
theorem dX3_endsHead_27 : decode cX3_endsHead 27 = .ok (.ifCond .ne 12, 3) := by decide +kernel
theorem dX3_endsHead_30 : decode cX3_endsHead 30 = .ok (.aload_n 0, 1) := by decide +kernel
theorem dX3_endsHead_31 : decode cX3_endsHead 31 = .ok (.ldc 80, 2) := by decide +kernel
theorem dX3_endsHead_33 : decode cX3_endsHead 33 = .ok (.invokevirtual 76, 3) := by decide +kernel
theorem dX3_endsHead_36 : decode cX3_endsHead 36 = .ok (.ifCond .eq 7, 3) := by decide +kernel
theorem dX3_endsHead_39 : decode cX3_endsHead 39 = .ok (.iconst 1, 1) := by decide +kernel
theorem dX3_endsHead_40 : decode cX3_endsHead 40 = .ok (.goto 4, 3) := by decide +kernel
theorem dX3_endsHead_43 : decode cX3_endsHead 43 = .ok (.iconst 0, 1) := by decide +kernel
theorem dX3_endsHead_44 : decode cX3_endsHead 44 = .ok (.ireturn, 1) := by decide +kernel
def wW_X3_endsHead (G : GG) (h0 h1 h2 y0_1 y0_2 y0_3 : Nat) (x0_4 : Int32) (x0_5 : Int32) (x0_6 : Int32) (x0_7 : Int32) (x0_8 : Int32) (x0_9 : Int32) (x0_10 : Int32) (x0_11 : Int32) (x0_12 : Int32) (x0_13 : Int32) (x0_14 : Int32) (x1_1 : Int32) (a2 : Nat → Int32) : va_W := [(h0, .inr (3, [.ref h1, .ref y0_1, .ref y0_2, .ref y0_3, .int x0_4, .int x0_5, .int x0_6, .int x0_7, .int x0_8, .int x0_9, .int x0_10, .int x0_11, .int x0_12, .int x0_13, .int x0_14])), (h1, .inr (7, [.ref h2, .int x1_1])), (h2, .inl (G.2.1, 600, .inl a2))]
set_option maxHeartbeats 4000000 in
set_option maxRecDepth 100000 in
theorem c_X3_endsHead (l : Launch) (G : GG) (h0 h1 h2 y0_1 y0_2 y0_3 : Nat) (sz : Nat) (x0_4 : Int32) (x0_5 : Int32) (x0_6 : Int32) (x0_7 : Int32) (x0_8 : Int32) (x0_9 : Int32) (x0_10 : Int32) (x0_11 : Int32) (x0_12 : Int32) (x0_13 : Int32) (x0_14 : Int32) (x1_1 : Int32) (a2 : Nat → Int32) (F : Nat)   (r0 : Int32) (hf : p_X3_endsHead F x0_6 x0_7 x0_8 x0_10 x0_13 x1_1 a2  = some r0) : Met l yX3_endsHead (.code yX3_endsHead cX3_endsHead 1 (some .boolean) :: gtbl) ({ frames := 5, cells := 0, slots := 0, locals := 107 } : Room) (PcS G [.ref h0] (wW_X3_endsHead G h0 h1 h2 y0_1 y0_2 y0_3 x0_4 x0_5 x0_6 x0_7 x0_8 x0_9 x0_10 x0_11 x0_12 x0_13 x0_14 x1_1 a2) sz) (QiS G r0 (va_A (wW_X3_endsHead G h0 h1 h2 y0_1 y0_2 y0_3 x0_4 x0_5 x0_6 x0_7 x0_8 x0_9 x0_10 x0_11 x0_12 x0_13 x0_14 x1_1 a2) sz) (wW_X3_endsHead G h0 h1 h2 y0_1 y0_2 y0_3 x0_4 x0_5 x0_6 x0_7 x0_8 x0_9 x0_10 x0_11 x0_12 x0_13 x0_14 x1_1 a2)) 0 0 (va_A (wW_X3_endsHead G h0 h1 h2 y0_1 y0_2 y0_3 x0_4 x0_5 x0_6 x0_7 x0_8 x0_9 x0_10 x0_11 x0_12 x0_13 x0_14 x1_1 a2) sz) := by
  refine met_start (by decide) (Nat.le_of_ble_eq_true rfl) ?_
  intro p e s m below meth c hC hr hlk hnm hK hP hD hA hS hX ls hl
  obtain ⟨hx, hb, hml, hown, ht0⟩ := hC
  have hown : s.vm.findClass RX3 = some m.cls := hown
  generalize va_A (wW_X3_endsHead G h0 h1 h2 y0_1 y0_2 y0_3 x0_4 x0_5 x0_6 x0_7 x0_8 x0_9 x0_10 x0_11 x0_12 x0_13 x0_14 x1_1 a2) sz = A at hD hA hS hX ⊢
  have hl : lv_has ls 1 [(0, .ref h0)] := hl
  have hf : p_X3_endsHead F x0_6 x0_7 x0_8 x0_10 x0_13 x1_1 a2  = some r0 := hf
  refine lv_aload_n hx hb dX3_endsHead_0 rfl (lv_at hl 0 rfl) ?_
  refine va_get (ci := 3) (v := .int x0_13) (C := RX3) (T := TX3) (N := 15) hx hb ht0 iX3 hown hK hP 0 rfl rfl 13 (by decide) (ht0 _ wd_266) (fun _ h9 => h9) rfl dX3_endsHead_1 ?_
  refine lv_if_ne (tgt := 43) hx hb dX3_endsHead_4 (by decide) (fun c1 => ?_) (fun c1 => ?_)
  · have hf := of_neg hf c1
    refine lv_iconst (v := (0 : Int32)) hx hb dX3_endsHead_43 (by decide) ?_
    cases hf
    exact ret_z hx hb hr hlk hK hP hD hS (by decide) dX3_endsHead_44
  · have hf := of_pos hf c1
    refine lv_aload_n hx hb dX3_endsHead_7 rfl (lv_at hl 0 rfl) ?_
    refine va_get (ci := 3) (v := .int x0_10) (C := RX3) (T := TX3) (N := 15) hx hb ht0 iX3 hown hK hP 0 rfl rfl 10 (by decide) (ht0 _ wd_263) (fun _ h9 => h9) rfl dX3_endsHead_8 ?_
    refine lv_if_ne (tgt := 43) hx hb dX3_endsHead_11 (by decide) (fun c2 => ?_) (fun c2 => ?_)
    · have hf := of_neg hf c2
      refine lv_iconst (v := (0 : Int32)) hx hb dX3_endsHead_43 (by decide) ?_
      cases hf
      exact ret_z hx hb hr hlk hK hP hD hS (by decide) dX3_endsHead_44
    · have hf := of_pos hf c2
      refine lv_aload_n hx hb dX3_endsHead_14 rfl (lv_at hl 0 rfl) ?_
      refine va_get (ci := 3) (v := .int x0_8) (C := RX3) (T := TX3) (N := 15) hx hb ht0 iX3 hown hK hP 0 rfl rfl 8 (by decide) (ht0 _ wd_261) (fun _ h9 => h9) rfl dX3_endsHead_15 ?_
      refine lv_if_eq (tgt := 39) hx hb dX3_endsHead_18 (by decide) (fun c3 => ?_) (fun c3 => ?_)
      · have hf := of_pos hf c3
        refine lv_iconst (v := (1 : Int32)) hx hb dX3_endsHead_39 (by decide) ?_
        refine lv_goto (tgt := 44) hx hb dX3_endsHead_40 (by decide) ?_
        cases hf
        exact ret_z hx hb hr hlk hK hP hD hS (by decide) dX3_endsHead_44
      · have hf := of_neg hf c3
        refine lv_aload_n hx hb dX3_endsHead_21 rfl (lv_at hl 0 rfl) ?_
        refine va_ldcS hx hb hown (hX.2.1.1 0 (by decide)) dX3_endsHead_22 ?_
        obtain ⟨r_24_3, hc_r_24_3, hf⟩ := of_bnd hf
        refine cl_Vi (w2 := (wW_X3_endsHead G h0 h1 h2 y0_1 y0_2 y0_3 x0_4 x0_5 x0_6 x0_7 x0_8 x0_9 x0_10 x0_11 x0_12 x0_13 x0_14 x1_1 a2)) (As := [.ref (gK G 0)]) (rest := []) ⟨hx, hb, hml, hown, ht0⟩ (c_X3_tokenIs l G h0 h1 h2 y0_1 y0_2 y0_3 _ x0_4 x0_5 x0_6 x0_7 x0_8 x0_9 x0_10 x0_11 x0_12 x0_13 x0_14 x1_1 a2 F 0 (by decide) _ hc_r_24_3) yk_X3_tokenIs wd_643 ⟨rfl, rfl, by decide, by decide⟩ ⟨Nat.le_refl _, Nat.le_refl _⟩ hX hK hP hD hS hA [0, 1, 2] [] [0, 1, 2] (va_recv hK hP (ci := 3) (q0 := 0) rfl rfl) rfl rfl (by decide) rfl rfl rfl rfl rfl hl.1 rfl (Nat.le_of_ble_eq_true rfl) dX3_endsHead_24 (fun H locs hP hD hS => ?_)
        refine lv_if_ne (tgt := 39) hx hb dX3_endsHead_27 (by decide) (fun c5 => ?_) (fun c5 => ?_)
        · have hf := of_neg hf c5
          refine lv_iconst (v := (1 : Int32)) hx hb dX3_endsHead_39 (by decide) ?_
          refine lv_goto (tgt := 44) hx hb dX3_endsHead_40 (by decide) ?_
          cases hf
          exact ret_z hx hb hr hlk hK hP hD hS (by decide) dX3_endsHead_44
        · have hf := of_pos hf c5
          refine lv_aload_n hx hb dX3_endsHead_30 rfl (lv_at hl 0 rfl) ?_
          refine va_ldcS hx hb hown (hX.2.1.1 1 (by decide)) dX3_endsHead_31 ?_
          obtain ⟨r_33_5, hc_r_33_5, hf⟩ := of_bnd hf
          refine cl_Vi (w2 := (wW_X3_endsHead G h0 h1 h2 y0_1 y0_2 y0_3 x0_4 x0_5 x0_6 x0_7 x0_8 x0_9 x0_10 x0_11 x0_12 x0_13 x0_14 x1_1 a2)) (As := [.ref (gK G 1)]) (rest := []) ⟨hx, hb, hml, hown, ht0⟩ (c_X3_tokenIs l G h0 h1 h2 y0_1 y0_2 y0_3 _ x0_4 x0_5 x0_6 x0_7 x0_8 x0_9 x0_10 x0_11 x0_12 x0_13 x0_14 x1_1 a2 F 1 (by decide) _ hc_r_33_5) yk_X3_tokenIs wd_643 ⟨rfl, rfl, by decide, by decide⟩ ⟨Nat.le_refl _, Nat.le_refl _⟩ hX hK hP hD hS hA [0, 1, 2] [] [0, 1, 2] (va_recv hK hP (ci := 3) (q0 := 0) rfl rfl) rfl rfl (by decide) rfl rfl rfl rfl rfl hl.1 rfl (Nat.le_of_ble_eq_true rfl) dX3_endsHead_33 (fun H locs hP hD hS => ?_)
          refine lv_if_eq (tgt := 43) hx hb dX3_endsHead_36 (by decide) (fun c7 => ?_) (fun c7 => ?_)
          · have hf := of_pos hf c7
            refine lv_iconst (v := (0 : Int32)) hx hb dX3_endsHead_43 (by decide) ?_
            cases hf
            exact ret_z hx hb hr hlk hK hP hD hS (by decide) dX3_endsHead_44
          · have hf := of_neg hf c7
            refine lv_iconst (v := (1 : Int32)) hx hb dX3_endsHead_39 (by decide) ?_
            refine lv_goto (tgt := 44) hx hb dX3_endsHead_40 (by decide) ?_
            cases hf
            exact ret_z hx hb hr hlk hK hP hD hS (by decide) dX3_endsHead_44
theorem yk_X3_endsHead : ykV yX3_endsHead RX3 cX3_endsHead 1 (some .boolean) 0 := ⟨wd_640, wd_13, wd_128, wd_641, rfl, by decide +kernel, by decide +kernel, by decide +kernel⟩
theorem dX3_fail_0 : decode cX3_fail 0 = .ok (.aload_n 0, 1) := by decide +kernel
theorem dX3_fail_1 : decode cX3_fail 1 = .ok (.iload_n 1, 1) := by decide +kernel
theorem dX3_fail_2 : decode cX3_fail 2 = .ok (.putfield 39, 3) := by decide +kernel
theorem dX3_fail_5 : decode cX3_fail 5 = .ok (.aload_n 0, 1) := by decide +kernel
theorem dX3_fail_6 : decode cX3_fail 6 = .ok (.aload_n 0, 1) := by decide +kernel
theorem dX3_fail_7 : decode cX3_fail 7 = .ok (.getfield 111, 3) := by decide +kernel
theorem dX3_fail_10 : decode cX3_fail 10 = .ok (.putfield 91, 3) := by decide +kernel
theorem dX3_fail_13 : decode cX3_fail 13 = .ok (.return_, 1) := by decide +kernel
def wW_X3_fail (G : GG) (h0 y0_0 y0_1 y0_2 y0_3 : Nat) (x0_4 : Int32) (x0_5 : Int32) (x0_6 : Int32) (x0_7 : Int32) (x0_8 : Int32) (x0_9 : Int32) (x0_10 : Int32) (x0_11 : Int32) (x0_12 : Int32) (x0_13 : Int32) (x0_14 : Int32) : va_W := [(h0, .inr (3, [.ref y0_0, .ref y0_1, .ref y0_2, .ref y0_3, .int x0_4, .int x0_5, .int x0_6, .int x0_7, .int x0_8, .int x0_9, .int x0_10, .int x0_11, .int x0_12, .int x0_13, .int x0_14]))]
set_option maxHeartbeats 4000000 in
set_option maxRecDepth 100000 in
theorem c_X3_fail (l : Launch) (G : GG) (h0 y0_0 y0_1 y0_2 y0_3 : Nat) (sz : Nat) (x0_4 : Int32) (x0_5 : Int32) (x0_6 : Int32) (x0_7 : Int32) (x0_8 : Int32) (x0_9 : Int32) (x0_10 : Int32) (x0_11 : Int32) (x0_12 : Int32) (x0_13 : Int32) (x0_14 : Int32) (F : Nat) (b1 : Int32)  (e_x0_4 : Int32) (e_x0_5 : Int32) (hf : p_X3_fail F x0_4 x0_5 x0_7 b1 = some (e_x0_4, e_x0_5)) : Met l yX3_fail (.code yX3_fail cX3_fail 2 none :: gtbl) ({ frames := 0, cells := 0, slots := 0, locals := 0 } : Room) (PcS G [.ref h0, .int b1] (wW_X3_fail G h0 y0_0 y0_1 y0_2 y0_3 x0_4 x0_5 x0_6 x0_7 x0_8 x0_9 x0_10 x0_11 x0_12 x0_13 x0_14) sz) (QvS G (va_A (wW_X3_fail G h0 y0_0 y0_1 y0_2 y0_3 x0_4 x0_5 x0_6 x0_7 x0_8 x0_9 x0_10 x0_11 x0_12 x0_13 x0_14) sz) (wW_X3_fail G h0 y0_0 y0_1 y0_2 y0_3 e_x0_4 e_x0_5 x0_6 x0_7 x0_8 x0_9 x0_10 x0_11 x0_12 x0_13 x0_14)) 0 0 (va_A (wW_X3_fail G h0 y0_0 y0_1 y0_2 y0_3 x0_4 x0_5 x0_6 x0_7 x0_8 x0_9 x0_10 x0_11 x0_12 x0_13 x0_14) sz) := by
  refine met_start (by decide) (Nat.le_of_ble_eq_true rfl) ?_
  intro p e s m below meth c hC hr hlk hnm hK hP hD hA hS hX ls hl
  obtain ⟨hx, hb, hml, hown, ht0⟩ := hC
  have hown : s.vm.findClass RX3 = some m.cls := hown
  generalize va_A (wW_X3_fail G h0 y0_0 y0_1 y0_2 y0_3 x0_4 x0_5 x0_6 x0_7 x0_8 x0_9 x0_10 x0_11 x0_12 x0_13 x0_14) sz = A at hD hA hS hX ⊢
  have hl : lv_has ls 2 [(0, .ref h0), (1, .int b1)] := hl
  have hf : p_X3_fail F x0_4 x0_5 x0_7 b1 = some (e_x0_4, e_x0_5) := hf
  refine lv_aload_n hx hb dX3_fail_0 rfl (lv_at hl 0 rfl) ?_
  refine lv_iload_n hx hb dX3_fail_1 rfl (lv_at hl 1 rfl) ?_
  refine va_put (ci := 3) (v := .int b1) (ty := .int) (C := RX3) (T := TX3) (N := 15) hx hb ht0 iX3 tyX3 tyX3_ok nmX3 hown hK hP hD hS 0 rfl rfl 4 (by decide) (ht0 _ wd_255) (fun _ h9 => h9) rfl rfl rfl rfl (Nat.le_of_ble_eq_true rfl) dX3_fail_2 (fun H locs hP hD hS => ?_)
  have hP : va_P G.1 vwCl (wW_X3_fail G h0 y0_0 y0_1 y0_2 y0_3 b1 x0_5 x0_6 x0_7 x0_8 x0_9 x0_10 x0_11 x0_12 x0_13 x0_14) H := hP
  have hD : va_D A (wW_X3_fail G h0 y0_0 y0_1 y0_2 y0_3 b1 x0_5 x0_6 x0_7 x0_8 x0_9 x0_10 x0_11 x0_12 x0_13 x0_14) := hD
  refine lv_aload_n hx hb dX3_fail_5 rfl (lv_at hl 0 rfl) ?_
  refine lv_aload_n hx hb dX3_fail_6 rfl (lv_at hl 0 rfl) ?_
  refine va_get (ci := 3) (v := .int x0_7) (C := RX3) (T := TX3) (N := 15) hx hb ht0 iX3 hown hK hP 0 rfl rfl 7 (by decide) (ht0 _ wd_260) (fun _ h9 => h9) rfl dX3_fail_7 ?_
  refine va_put (ci := 3) (v := .int x0_7) (ty := .int) (C := RX3) (T := TX3) (N := 15) hx hb ht0 iX3 tyX3 tyX3_ok nmX3 hown hK hP hD hS 0 rfl rfl 5 (by decide) (ht0 _ wd_257) (fun _ h9 => h9) rfl rfl rfl rfl (Nat.le_of_ble_eq_true rfl) dX3_fail_10 (fun H locs hP hD hS => ?_)
  have hP : va_P G.1 vwCl (wW_X3_fail G h0 y0_0 y0_1 y0_2 y0_3 b1 x0_7 x0_6 x0_7 x0_8 x0_9 x0_10 x0_11 x0_12 x0_13 x0_14) H := hP
  have hD : va_D A (wW_X3_fail G h0 y0_0 y0_1 y0_2 y0_3 b1 x0_7 x0_6 x0_7 x0_8 x0_9 x0_10 x0_11 x0_12 x0_13 x0_14) := hD
  cases hf
  exact ret_v hx hb hr hlk hK hP hD hS dX3_fail_13
theorem yk_X3_fail : ykV yX3_fail RX3 cX3_fail 2 none 1 := ⟨wd_699, wd_15, wd_128, wd_700, rfl, by decide +kernel, by decide +kernel, by decide +kernel⟩
theorem dX3_tellOnce_0 : decode cX3_tellOnce 0 = .ok (.aload_n 0, 1) := by decide +kernel
theorem dX3_tellOnce_1 : decode cX3_tellOnce 1 = .ok (.getfield 57, 3) := by decide +kernel
theorem dX3_tellOnce_4 : decode cX3_tellOnce 4 = .ok (.ifCond .ne 12, 3) := by decide +kernel
theorem dX3_tellOnce_7 : decode cX3_tellOnce 7 = .ok (.aload_n 0, 1) := by decide +kernel
theorem dX3_tellOnce_8 : decode cX3_tellOnce 8 = .ok (.getfield 97, 3) := by decide +kernel
theorem dX3_tellOnce_11 : decode cX3_tellOnce 11 = .ok (.iload_n 1, 1) := by decide +kernel
theorem dX3_tellOnce_12 : decode cX3_tellOnce 12 = .ok (.iand, 1) := by decide +kernel
theorem dX3_tellOnce_13 : decode cX3_tellOnce 13 = .ok (.ifCond .eq 9, 3) := by decide +kernel
theorem dX3_tellOnce_16 : decode cX3_tellOnce 16 = .ok (.aload_n 0, 1) := by decide +kernel
theorem dX3_tellOnce_17 : decode cX3_tellOnce 17 = .ok (.iconst 3, 1) := by decide +kernel
theorem dX3_tellOnce_18 : decode cX3_tellOnce 18 = .ok (.invokevirtual 61, 3) := by decide +kernel
theorem dX3_tellOnce_21 : decode cX3_tellOnce 21 = .ok (.return_, 1) := by decide +kernel
theorem dX3_tellOnce_22 : decode cX3_tellOnce 22 = .ok (.aload_n 0, 1) := by decide +kernel
theorem dX3_tellOnce_23 : decode cX3_tellOnce 23 = .ok (.dup, 1) := by decide +kernel
theorem dX3_tellOnce_24 : decode cX3_tellOnce 24 = .ok (.getfield 97, 3) := by decide +kernel
theorem dX3_tellOnce_27 : decode cX3_tellOnce 27 = .ok (.iload_n 1, 1) := by decide +kernel
theorem dX3_tellOnce_28 : decode cX3_tellOnce 28 = .ok (.ior, 1) := by decide +kernel
theorem dX3_tellOnce_29 : decode cX3_tellOnce 29 = .ok (.putfield 97, 3) := by decide +kernel
theorem dX3_tellOnce_32 : decode cX3_tellOnce 32 = .ok (.aload_n 0, 1) := by decide +kernel
theorem dX3_tellOnce_33 : decode cX3_tellOnce 33 = .ok (.iload_n 2, 1) := by decide +kernel
theorem dX3_tellOnce_34 : decode cX3_tellOnce 34 = .ok (.putfield 68, 3) := by decide +kernel
theorem dX3_tellOnce_37 : decode cX3_tellOnce 37 = .ok (.return_, 1) := by decide +kernel
def wW_X3_tellOnce (G : GG) (h0 y0_0 y0_1 y0_2 y0_3 : Nat) (x0_4 : Int32) (x0_5 : Int32) (x0_6 : Int32) (x0_7 : Int32) (x0_8 : Int32) (x0_9 : Int32) (x0_10 : Int32) (x0_11 : Int32) (x0_12 : Int32) (x0_13 : Int32) (x0_14 : Int32) : va_W := [(h0, .inr (3, [.ref y0_0, .ref y0_1, .ref y0_2, .ref y0_3, .int x0_4, .int x0_5, .int x0_6, .int x0_7, .int x0_8, .int x0_9, .int x0_10, .int x0_11, .int x0_12, .int x0_13, .int x0_14]))]
set_option maxHeartbeats 4000000 in
set_option maxRecDepth 100000 in
theorem c_X3_tellOnce (l : Launch) (G : GG) (h0 y0_0 y0_1 y0_2 y0_3 : Nat) (sz : Nat) (x0_4 : Int32) (x0_5 : Int32) (x0_6 : Int32) (x0_7 : Int32) (x0_8 : Int32) (x0_9 : Int32) (x0_10 : Int32) (x0_11 : Int32) (x0_12 : Int32) (x0_13 : Int32) (x0_14 : Int32) (F : Nat) (b1 : Int32) (b2 : Int32)  (e_x0_4 : Int32) (e_x0_5 : Int32) (e_x0_10 : Int32) (e_x0_12 : Int32) (hf : p_X3_tellOnce F x0_4 x0_5 x0_7 x0_10 x0_12 x0_13 b1 b2 = some (e_x0_4, e_x0_5, e_x0_10, e_x0_12)) : Met l yX3_tellOnce (.code yX3_tellOnce cX3_tellOnce 3 none :: gtbl) ({ frames := 1, cells := 0, slots := 0, locals := 21 } : Room) (PcS G [.ref h0, .int b1, .int b2] (wW_X3_tellOnce G h0 y0_0 y0_1 y0_2 y0_3 x0_4 x0_5 x0_6 x0_7 x0_8 x0_9 x0_10 x0_11 x0_12 x0_13 x0_14) sz) (QvS G (va_A (wW_X3_tellOnce G h0 y0_0 y0_1 y0_2 y0_3 x0_4 x0_5 x0_6 x0_7 x0_8 x0_9 x0_10 x0_11 x0_12 x0_13 x0_14) sz) (wW_X3_tellOnce G h0 y0_0 y0_1 y0_2 y0_3 e_x0_4 e_x0_5 x0_6 x0_7 x0_8 x0_9 e_x0_10 x0_11 e_x0_12 x0_13 x0_14)) 0 0 (va_A (wW_X3_tellOnce G h0 y0_0 y0_1 y0_2 y0_3 x0_4 x0_5 x0_6 x0_7 x0_8 x0_9 x0_10 x0_11 x0_12 x0_13 x0_14) sz) := by
  refine met_start (by decide) (Nat.le_of_ble_eq_true rfl) ?_
  intro p e s m below meth c hC hr hlk hnm hK hP hD hA hS hX ls hl
  obtain ⟨hx, hb, hml, hown, ht0⟩ := hC
  have hown : s.vm.findClass RX3 = some m.cls := hown
  generalize va_A (wW_X3_tellOnce G h0 y0_0 y0_1 y0_2 y0_3 x0_4 x0_5 x0_6 x0_7 x0_8 x0_9 x0_10 x0_11 x0_12 x0_13 x0_14) sz = A at hD hA hS hX ⊢
  have hl : lv_has ls 3 [(0, .ref h0), (1, .int b1), (2, .int b2)] := hl
  have hf : p_X3_tellOnce F x0_4 x0_5 x0_7 x0_10 x0_12 x0_13 b1 b2 = some (e_x0_4, e_x0_5, e_x0_10, e_x0_12) := hf
  have kJ16 : ∀ (x0_4_16 : Int32) (x0_5_16 : Int32) (x0_10_16 : Int32) (x0_12_16 : Int32), p_X3_tellOnce_J16 F x0_7 x0_13 x0_4_16 x0_5_16 x0_10_16 x0_12_16 = some (e_x0_4, e_x0_5, e_x0_10, e_x0_12) → ∀ (H : Heap) (locs : List Loc), va_P G.1 vwCl (wW_X3_tellOnce G h0 y0_0 y0_1 y0_2 y0_3 x0_4_16 x0_5_16 x0_6 x0_7 x0_8 x0_9 x0_10_16 x0_11 x0_12_16 x0_13 x0_14) H → va_D A (wW_X3_tellOnce G h0 y0_0 y0_1 y0_2 y0_3 x0_4_16 x0_5_16 x0_6 x0_7 x0_8 x0_9 x0_10_16 x0_11 x0_12_16 x0_13 x0_14) → va_S A s.heap H locs → ∀ ls : Array Slot, lv_has ls 3 [(0, .ref h0)] → W p l e ({ frames := 1, cells := 0, slots := 0, locals := 21 } : Room) s m (List.toArray [.ref h0, .int b1, .int b2]) below meth c H locs 0 0 (MQ below (QvS G A (wW_X3_tellOnce G h0 y0_0 y0_1 y0_2 y0_3 e_x0_4 e_x0_5 x0_6 x0_7 x0_8 x0_9 e_x0_10 x0_11 e_x0_12 x0_13 x0_14)) (List.toArray [.ref h0, .int b1, .int b2]) s 0 0 A) (F0 m 16 ls []) := by
    intro x0_4_16 x0_5_16 x0_10_16 x0_12_16 hf H locs hP hD hS ls hl
    refine lv_aload_n hx hb dX3_tellOnce_16 rfl (lv_at hl 0 rfl) ?_
    refine lv_iconst (v := (3 : Int32)) hx hb dX3_tellOnce_17 (by decide) ?_
    obtain ⟨⟨r_18_0_x0_4, r_18_0_x0_5⟩, hc_r_18_0, hf⟩ := of_bnd hf
    refine cl_Vv (w2 := (wW_X3_tellOnce G h0 y0_0 y0_1 y0_2 y0_3 r_18_0_x0_4 r_18_0_x0_5 x0_6 x0_7 x0_8 x0_9 x0_10_16 x0_11 x0_12_16 x0_13 x0_14)) (As := [.int (3 : Int32)]) (rest := []) ⟨hx, hb, hml, hown, ht0⟩ (c_X3_fail l G h0 y0_0 y0_1 y0_2 y0_3 _ x0_4_16 x0_5_16 x0_6 x0_7 x0_8 x0_9 x0_10_16 x0_11 x0_12_16 x0_13 x0_14 F (3 : Int32) _ _ hc_r_18_0) yk_X3_fail wd_697 ⟨rfl, rfl, by decide, by decide⟩ ⟨Nat.le_refl _, Nat.le_refl _⟩ hX hK hP hD hS hA [0] [] [0] (va_recv hK hP (ci := 3) (q0 := 0) rfl rfl) rfl rfl (by decide) rfl rfl rfl rfl rfl hl.1 rfl (Nat.le_of_ble_eq_true rfl) dX3_tellOnce_18 (fun H locs hP hD hS => ?_)
    cases hf
    exact ret_v hx hb hr hlk hK hP hD hS dX3_tellOnce_21
  refine lv_aload_n hx hb dX3_tellOnce_0 rfl (lv_at hl 0 rfl) ?_
  refine va_get (ci := 3) (v := .int x0_13) (C := RX3) (T := TX3) (N := 15) hx hb ht0 iX3 hown hK hP 0 rfl rfl 13 (by decide) (ht0 _ wd_266) (fun _ h9 => h9) rfl dX3_tellOnce_1 ?_
  refine lv_if_ne (tgt := 16) hx hb dX3_tellOnce_4 (by decide) (fun c2 => ?_) (fun c2 => ?_)
  · have hf := of_neg hf c2
    exact kJ16 _ _ _ _ hf _ _ hP hD hS _ (lv_sub hl [0] rfl)
  · have hf := of_pos hf c2
    refine lv_aload_n hx hb dX3_tellOnce_7 rfl (lv_at hl 0 rfl) ?_
    refine va_get (ci := 3) (v := .int x0_12) (C := RX3) (T := TX3) (N := 15) hx hb ht0 iX3 hown hK hP 0 rfl rfl 12 (by decide) (ht0 _ wd_265) (fun _ h9 => h9) rfl dX3_tellOnce_8 ?_
    refine lv_iload_n hx hb dX3_tellOnce_11 rfl (lv_at hl 1 rfl) ?_
    refine lv_iand hx hb dX3_tellOnce_12 ?_
    refine lv_if_eq (tgt := 22) hx hb dX3_tellOnce_13 (by decide) (fun c3 => ?_) (fun c3 => ?_)
    · have hf := of_pos hf c3
      refine lv_aload_n hx hb dX3_tellOnce_22 rfl (lv_at hl 0 rfl) ?_
      refine lv_dup hx hb dX3_tellOnce_23 rfl ?_
      refine va_get (ci := 3) (v := .int x0_12) (C := RX3) (T := TX3) (N := 15) hx hb ht0 iX3 hown hK hP 0 rfl rfl 12 (by decide) (ht0 _ wd_265) (fun _ h9 => h9) rfl dX3_tellOnce_24 ?_
      refine lv_iload_n hx hb dX3_tellOnce_27 rfl (lv_at hl 1 rfl) ?_
      refine lv_ior hx hb dX3_tellOnce_28 ?_
      refine va_put (ci := 3) (v := .int (x0_12 ||| b1)) (ty := .int) (C := RX3) (T := TX3) (N := 15) hx hb ht0 iX3 tyX3 tyX3_ok nmX3 hown hK hP hD hS 0 rfl rfl 12 (by decide) (ht0 _ wd_265) (fun _ h9 => h9) rfl rfl rfl rfl (Nat.le_of_ble_eq_true rfl) dX3_tellOnce_29 (fun H locs hP hD hS => ?_)
      have hP : va_P G.1 vwCl (wW_X3_tellOnce G h0 y0_0 y0_1 y0_2 y0_3 x0_4 x0_5 x0_6 x0_7 x0_8 x0_9 x0_10 x0_11 (x0_12 ||| b1) x0_13 x0_14) H := hP
      have hD : va_D A (wW_X3_tellOnce G h0 y0_0 y0_1 y0_2 y0_3 x0_4 x0_5 x0_6 x0_7 x0_8 x0_9 x0_10 x0_11 (x0_12 ||| b1) x0_13 x0_14) := hD
      refine lv_aload_n hx hb dX3_tellOnce_32 rfl (lv_at hl 0 rfl) ?_
      refine lv_iload_n hx hb dX3_tellOnce_33 rfl (lv_at hl 2 rfl) ?_
      refine va_put (ci := 3) (v := .int b2) (ty := .int) (C := RX3) (T := TX3) (N := 15) hx hb ht0 iX3 tyX3 tyX3_ok nmX3 hown hK hP hD hS 0 rfl rfl 10 (by decide) (ht0 _ wd_263) (fun _ h9 => h9) rfl rfl rfl rfl (Nat.le_of_ble_eq_true rfl) dX3_tellOnce_34 (fun H locs hP hD hS => ?_)
      have hP : va_P G.1 vwCl (wW_X3_tellOnce G h0 y0_0 y0_1 y0_2 y0_3 x0_4 x0_5 x0_6 x0_7 x0_8 x0_9 b2 x0_11 (x0_12 ||| b1) x0_13 x0_14) H := hP
      have hD : va_D A (wW_X3_tellOnce G h0 y0_0 y0_1 y0_2 y0_3 x0_4 x0_5 x0_6 x0_7 x0_8 x0_9 b2 x0_11 (x0_12 ||| b1) x0_13 x0_14) := hD
      cases hf
      exact ret_v hx hb hr hlk hK hP hD hS dX3_tellOnce_37
    · have hf := of_neg hf c3
      exact kJ16 _ _ _ _ hf _ _ hP hD hS _ (lv_sub hl [0] rfl)
theorem yk_X3_tellOnce : ykV yX3_tellOnce RX3 cX3_tellOnce 3 none 2 := ⟨wd_712, wd_18, wd_128, wd_713, rfl, by decide +kernel, by decide +kernel, by decide +kernel⟩
theorem dX3_takeLine_0 : decode cX3_takeLine 0 = .ok (.aload_n 0, 1) := by decide +kernel
theorem dX3_takeLine_1 : decode cX3_takeLine 1 = .ok (.ldc 170, 2) := by decide +kernel
theorem dX3_takeLine_3 : decode cX3_takeLine 3 = .ok (.invokevirtual 76, 3) := by decide +kernel
theorem dX3_takeLine_6 : decode cX3_takeLine 6 = .ok (.ifCond .eq 12, 3) := by decide +kernel
theorem dX3_takeLine_9 : decode cX3_takeLine 9 = .ok (.aload_n 0, 1) := by decide +kernel
theorem dX3_takeLine_10 : decode cX3_takeLine 10 = .ok (.iconst 1, 1) := by decide +kernel
theorem dX3_takeLine_11 : decode cX3_takeLine 11 = .ok (.iconst 2, 1) := by decide +kernel
theorem dX3_takeLine_12 : decode cX3_takeLine 12 = .ok (.invokevirtual 171, 3) := by decide +kernel
theorem dX3_takeLine_15 : decode cX3_takeLine 15 = .ok (.goto 106, 3) := by decide +kernel
theorem dX3_takeLine_18 : decode cX3_takeLine 18 = .ok (.aload_n 0, 1) := by decide +kernel
theorem dX3_takeLine_19 : decode cX3_takeLine 19 = .ok (.ldc 175, 2) := by decide +kernel
theorem dX3_takeLine_21 : decode cX3_takeLine 21 = .ok (.invokevirtual 76, 3) := by decide +kernel
theorem dX3_takeLine_24 : decode cX3_takeLine 24 = .ok (.ifCond .eq 12, 3) := by decide +kernel
theorem dX3_takeLine_27 : decode cX3_takeLine 27 = .ok (.aload_n 0, 1) := by decide +kernel
theorem dX3_takeLine_28 : decode cX3_takeLine 28 = .ok (.iconst 2, 1) := by decide +kernel
theorem dX3_takeLine_29 : decode cX3_takeLine 29 = .ok (.iconst 3, 1) := by decide +kernel
theorem dX3_takeLine_30 : decode cX3_takeLine 30 = .ok (.invokevirtual 171, 3) := by decide +kernel
theorem dX3_takeLine_33 : decode cX3_takeLine 33 = .ok (.goto 88, 3) := by decide +kernel
theorem dX3_takeLine_36 : decode cX3_takeLine 36 = .ok (.aload_n 0, 1) := by decide +kernel
theorem dX3_takeLine_37 : decode cX3_takeLine 37 = .ok (.ldc 176, 2) := by decide +kernel
theorem dX3_takeLine_39 : decode cX3_takeLine 39 = .ok (.invokevirtual 76, 3) := by decide +kernel
theorem dX3_takeLine_42 : decode cX3_takeLine 42 = .ok (.ifCond .eq 12, 3) := by decide +kernel
theorem dX3_takeLine_45 : decode cX3_takeLine 45 = .ok (.aload_n 0, 1) := by decide +kernel
theorem dX3_takeLine_46 : decode cX3_takeLine 46 = .ok (.iconst 4, 1) := by decide +kernel
theorem dX3_takeLine_47 : decode cX3_takeLine 47 = .ok (.iconst 4, 1) := by decide +kernel
theorem dX3_takeLine_48 : decode cX3_takeLine 48 = .ok (.invokevirtual 171, 3) := by decide +kernel
theorem dX3_takeLine_51 : decode cX3_takeLine 51 = .ok (.goto 70, 3) := by decide +kernel
theorem dX3_takeLine_54 : decode cX3_takeLine 54 = .ok (.aload_n 0, 1) := by decide +kernel
theorem dX3_takeLine_55 : decode cX3_takeLine 55 = .ok (.ldc 178, 2) := by decide +kernel
theorem dX3_takeLine_57 : decode cX3_takeLine 57 = .ok (.invokevirtual 76, 3) := by decide +kernel
theorem dX3_takeLine_60 : decode cX3_takeLine 60 = .ok (.ifCond .eq 21, 3) := by decide +kernel
theorem dX3_takeLine_63 : decode cX3_takeLine 63 = .ok (.aload_n 0, 1) := by decide +kernel
theorem dX3_takeLine_64 : decode cX3_takeLine 64 = .ok (.bipush 8, 2) := by decide +kernel
theorem dX3_takeLine_66 : decode cX3_takeLine 66 = .ok (.iconst 1, 1) := by decide +kernel
theorem dX3_takeLine_67 : decode cX3_takeLine 67 = .ok (.invokevirtual 171, 3) := by decide +kernel
theorem dX3_takeLine_70 : decode cX3_takeLine 70 = .ok (.aload_n 0, 1) := by decide +kernel
theorem dX3_takeLine_71 : decode cX3_takeLine 71 = .ok (.getfield 28, 3) := by decide +kernel
theorem dX3_takeLine_74 : decode cX3_takeLine 74 = .ok (.iconst 1, 1) := by decide +kernel
theorem dX3_takeLine_75 : decode cX3_takeLine 75 = .ok (.putfield 180, 3) := by decide +kernel
theorem dX3_takeLine_78 : decode cX3_takeLine 78 = .ok (.goto 43, 3) := by decide +kernel
theorem dX3_takeLine_81 : decode cX3_takeLine 81 = .ok (.aload_n 0, 1) := by decide +kernel
theorem dX3_takeLine_82 : decode cX3_takeLine 82 = .ok (.ldc 74, 2) := by decide +kernel
theorem dX3_takeLine_84 : decode cX3_takeLine 84 = .ok (.invokevirtual 76, 3) := by decide +kernel
theorem dX3_takeLine_87 : decode cX3_takeLine 87 = .ok (.ifCond .eq 11, 3) := by decide +kernel
theorem dX3_takeLine_90 : decode cX3_takeLine 90 = .ok (.aload_n 0, 1) := by decide +kernel
theorem dX3_takeLine_91 : decode cX3_takeLine 91 = .ok (.iconst 5, 1) := by decide +kernel
theorem dX3_takeLine_92 : decode cX3_takeLine 92 = .ok (.putfield 68, 3) := by decide +kernel
theorem dX3_takeLine_95 : decode cX3_takeLine 95 = .ok (.goto 26, 3) := by decide +kernel
theorem dX3_takeLine_98 : decode cX3_takeLine 98 = .ok (.aload_n 0, 1) := by decide +kernel
theorem dX3_takeLine_99 : decode cX3_takeLine 99 = .ok (.ldc 80, 2) := by decide +kernel
theorem dX3_takeLine_101 : decode cX3_takeLine 101 = .ok (.invokevirtual 76, 3) := by decide +kernel
theorem dX3_takeLine_104 : decode cX3_takeLine 104 = .ok (.ifCond .eq 12, 3) := by decide +kernel
theorem dX3_takeLine_107 : decode cX3_takeLine 107 = .ok (.aload_n 0, 1) := by decide +kernel
theorem dX3_takeLine_108 : decode cX3_takeLine 108 = .ok (.bipush 7, 2) := by decide +kernel
theorem dX3_takeLine_110 : decode cX3_takeLine 110 = .ok (.putfield 68, 3) := by decide +kernel
theorem dX3_takeLine_113 : decode cX3_takeLine 113 = .ok (.goto 8, 3) := by decide +kernel
theorem dX3_takeLine_116 : decode cX3_takeLine 116 = .ok (.aload_n 0, 1) := by decide +kernel
theorem dX3_takeLine_117 : decode cX3_takeLine 117 = .ok (.iconst 1, 1) := by decide +kernel
theorem dX3_takeLine_118 : decode cX3_takeLine 118 = .ok (.invokevirtual 61, 3) := by decide +kernel
theorem dX3_takeLine_121 : decode cX3_takeLine 121 = .ok (.return_, 1) := by decide +kernel
def wW_X3_takeLine (G : GG) (h0 h1 h2 h3 y0_1 y0_3 y3_3 y3_4 y3_5 : Nat) (x0_4 : Int32) (x0_5 : Int32) (x0_6 : Int32) (x0_7 : Int32) (x0_8 : Int32) (x0_9 : Int32) (x0_10 : Int32) (x0_11 : Int32) (x0_12 : Int32) (x0_13 : Int32) (x0_14 : Int32) (x1_1 : Int32) (a2 : Nat → Int32) (x3_0 : Int32) (x3_1 : Int32) (x3_2 : Int32) : va_W := [(h0, .inr (3, [.ref h1, .ref y0_1, .ref h3, .ref y0_3, .int x0_4, .int x0_5, .int x0_6, .int x0_7, .int x0_8, .int x0_9, .int x0_10, .int x0_11, .int x0_12, .int x0_13, .int x0_14])), (h1, .inr (7, [.ref h2, .int x1_1])), (h2, .inl (G.2.1, 600, .inl a2)), (h3, .inr (1, [.int x3_0, .int x3_1, .int x3_2, .ref y3_3, .ref y3_4, .ref y3_5]))]
set_option maxHeartbeats 4000000 in
set_option maxRecDepth 100000 in
theorem c_X3_takeLine (l : Launch) (G : GG) (h0 h1 h2 h3 y0_1 y0_3 y3_3 y3_4 y3_5 : Nat) (sz : Nat) (x0_4 : Int32) (x0_5 : Int32) (x0_6 : Int32) (x0_7 : Int32) (x0_8 : Int32) (x0_9 : Int32) (x0_10 : Int32) (x0_11 : Int32) (x0_12 : Int32) (x0_13 : Int32) (x0_14 : Int32) (x1_1 : Int32) (a2 : Nat → Int32) (x3_0 : Int32) (x3_1 : Int32) (x3_2 : Int32) (F : Nat)   (e_x0_4 : Int32) (e_x0_5 : Int32) (e_x0_10 : Int32) (e_x0_12 : Int32) (e_x3_2 : Int32) (hf : p_X3_takeLine F x0_4 x0_5 x0_6 x0_7 x0_8 x0_10 x0_12 x0_13 x1_1 a2 x3_2  = some (e_x0_4, e_x0_5, e_x0_10, e_x0_12, e_x3_2)) : Met l yX3_takeLine (.code yX3_takeLine cX3_takeLine 1 none :: gtbl) ({ frames := 5, cells := 0, slots := 0, locals := 107 } : Room) (PcS G [.ref h0] (wW_X3_takeLine G h0 h1 h2 h3 y0_1 y0_3 y3_3 y3_4 y3_5 x0_4 x0_5 x0_6 x0_7 x0_8 x0_9 x0_10 x0_11 x0_12 x0_13 x0_14 x1_1 a2 x3_0 x3_1 x3_2) sz) (QvS G (va_A (wW_X3_takeLine G h0 h1 h2 h3 y0_1 y0_3 y3_3 y3_4 y3_5 x0_4 x0_5 x0_6 x0_7 x0_8 x0_9 x0_10 x0_11 x0_12 x0_13 x0_14 x1_1 a2 x3_0 x3_1 x3_2) sz) (wW_X3_takeLine G h0 h1 h2 h3 y0_1 y0_3 y3_3 y3_4 y3_5 e_x0_4 e_x0_5 x0_6 x0_7 x0_8 x0_9 e_x0_10 x0_11 e_x0_12 x0_13 x0_14 x1_1 a2 x3_0 x3_1 e_x3_2)) 0 0 (va_A (wW_X3_takeLine G h0 h1 h2 h3 y0_1 y0_3 y3_3 y3_4 y3_5 x0_4 x0_5 x0_6 x0_7 x0_8 x0_9 x0_10 x0_11 x0_12 x0_13 x0_14 x1_1 a2 x3_0 x3_1 x3_2) sz) := by
  refine met_start (by decide) (Nat.le_of_ble_eq_true rfl) ?_
  intro p e s m below meth c hC hr hlk hnm hK hP hD hA hS hX ls hl
  obtain ⟨hx, hb, hml, hown, ht0⟩ := hC
  have hown : s.vm.findClass RX3 = some m.cls := hown
  generalize va_A (wW_X3_takeLine G h0 h1 h2 h3 y0_1 y0_3 y3_3 y3_4 y3_5 x0_4 x0_5 x0_6 x0_7 x0_8 x0_9 x0_10 x0_11 x0_12 x0_13 x0_14 x1_1 a2 x3_0 x3_1 x3_2) sz = A at hD hA hS hX ⊢
  have hl : lv_has ls 1 [(0, .ref h0)] := hl
  have hf : p_X3_takeLine F x0_4 x0_5 x0_6 x0_7 x0_8 x0_10 x0_12 x0_13 x1_1 a2 x3_2  = some (e_x0_4, e_x0_5, e_x0_10, e_x0_12, e_x3_2) := hf
  refine lv_aload_n hx hb dX3_takeLine_0 rfl (lv_at hl 0 rfl) ?_
  refine va_ldcS hx hb hown (hX.2.1.1 2 (by decide)) dX3_takeLine_1 ?_
  obtain ⟨r_3_0, hc_r_3_0, hf⟩ := of_bnd hf
  refine cl_Vi (w2 := (wW_X3_takeLine G h0 h1 h2 h3 y0_1 y0_3 y3_3 y3_4 y3_5 x0_4 x0_5 x0_6 x0_7 x0_8 x0_9 x0_10 x0_11 x0_12 x0_13 x0_14 x1_1 a2 x3_0 x3_1 x3_2)) (As := [.ref (gK G 2)]) (rest := []) ⟨hx, hb, hml, hown, ht0⟩ (c_X3_tokenIs l G h0 h1 h2 y0_1 h3 y0_3 _ x0_4 x0_5 x0_6 x0_7 x0_8 x0_9 x0_10 x0_11 x0_12 x0_13 x0_14 x1_1 a2 F 2 (by decide) _ hc_r_3_0) yk_X3_tokenIs wd_643 ⟨rfl, rfl, by decide, by decide⟩ ⟨Nat.le_refl _, Nat.le_refl _⟩ hX hK hP hD hS hA [0, 1, 2] [3] [1, 2, 3, 0] (va_recv hK hP (ci := 3) (q0 := 0) rfl rfl) rfl rfl (by decide) rfl rfl rfl rfl rfl hl.1 rfl (Nat.le_of_ble_eq_true rfl) dX3_takeLine_3 (fun H locs hP hD hS => ?_)
  refine lv_if_eq (tgt := 18) hx hb dX3_takeLine_6 (by decide) (fun c2 => ?_) (fun c2 => ?_)
  · have hf := of_pos hf c2
    refine lv_aload_n hx hb dX3_takeLine_18 rfl (lv_at hl 0 rfl) ?_
    refine va_ldcS hx hb hown (hX.2.1.1 3 (by decide)) dX3_takeLine_19 ?_
    obtain ⟨r_21_2, hc_r_21_2, hf⟩ := of_bnd hf
    refine cl_Vi (w2 := (wW_X3_takeLine G h0 h1 h2 h3 y0_1 y0_3 y3_3 y3_4 y3_5 x0_4 x0_5 x0_6 x0_7 x0_8 x0_9 x0_10 x0_11 x0_12 x0_13 x0_14 x1_1 a2 x3_0 x3_1 x3_2)) (As := [.ref (gK G 3)]) (rest := []) ⟨hx, hb, hml, hown, ht0⟩ (c_X3_tokenIs l G h0 h1 h2 y0_1 h3 y0_3 _ x0_4 x0_5 x0_6 x0_7 x0_8 x0_9 x0_10 x0_11 x0_12 x0_13 x0_14 x1_1 a2 F 3 (by decide) _ hc_r_21_2) yk_X3_tokenIs wd_643 ⟨rfl, rfl, by decide, by decide⟩ ⟨Nat.le_refl _, Nat.le_refl _⟩ hX hK hP hD hS hA [0, 1, 2] [3] [1, 2, 3, 0] (va_recv hK hP (ci := 3) (q0 := 0) rfl rfl) rfl rfl (by decide) rfl rfl rfl rfl rfl hl.1 rfl (Nat.le_of_ble_eq_true rfl) dX3_takeLine_21 (fun H locs hP hD hS => ?_)
    refine lv_if_eq (tgt := 36) hx hb dX3_takeLine_24 (by decide) (fun c4 => ?_) (fun c4 => ?_)
    · have hf := of_pos hf c4
      refine lv_aload_n hx hb dX3_takeLine_36 rfl (lv_at hl 0 rfl) ?_
      refine va_ldcS hx hb hown (hX.2.1.1 4 (by decide)) dX3_takeLine_37 ?_
      obtain ⟨r_39_4, hc_r_39_4, hf⟩ := of_bnd hf
      refine cl_Vi (w2 := (wW_X3_takeLine G h0 h1 h2 h3 y0_1 y0_3 y3_3 y3_4 y3_5 x0_4 x0_5 x0_6 x0_7 x0_8 x0_9 x0_10 x0_11 x0_12 x0_13 x0_14 x1_1 a2 x3_0 x3_1 x3_2)) (As := [.ref (gK G 4)]) (rest := []) ⟨hx, hb, hml, hown, ht0⟩ (c_X3_tokenIs l G h0 h1 h2 y0_1 h3 y0_3 _ x0_4 x0_5 x0_6 x0_7 x0_8 x0_9 x0_10 x0_11 x0_12 x0_13 x0_14 x1_1 a2 F 4 (by decide) _ hc_r_39_4) yk_X3_tokenIs wd_643 ⟨rfl, rfl, by decide, by decide⟩ ⟨Nat.le_refl _, Nat.le_refl _⟩ hX hK hP hD hS hA [0, 1, 2] [3] [1, 2, 3, 0] (va_recv hK hP (ci := 3) (q0 := 0) rfl rfl) rfl rfl (by decide) rfl rfl rfl rfl rfl hl.1 rfl (Nat.le_of_ble_eq_true rfl) dX3_takeLine_39 (fun H locs hP hD hS => ?_)
      refine lv_if_eq (tgt := 54) hx hb dX3_takeLine_42 (by decide) (fun c6 => ?_) (fun c6 => ?_)
      · have hf := of_pos hf c6
        refine lv_aload_n hx hb dX3_takeLine_54 rfl (lv_at hl 0 rfl) ?_
        refine va_ldcS hx hb hown (hX.2.1.1 5 (by decide)) dX3_takeLine_55 ?_
        obtain ⟨r_57_6, hc_r_57_6, hf⟩ := of_bnd hf
        refine cl_Vi (w2 := (wW_X3_takeLine G h0 h1 h2 h3 y0_1 y0_3 y3_3 y3_4 y3_5 x0_4 x0_5 x0_6 x0_7 x0_8 x0_9 x0_10 x0_11 x0_12 x0_13 x0_14 x1_1 a2 x3_0 x3_1 x3_2)) (As := [.ref (gK G 5)]) (rest := []) ⟨hx, hb, hml, hown, ht0⟩ (c_X3_tokenIs l G h0 h1 h2 y0_1 h3 y0_3 _ x0_4 x0_5 x0_6 x0_7 x0_8 x0_9 x0_10 x0_11 x0_12 x0_13 x0_14 x1_1 a2 F 5 (by decide) _ hc_r_57_6) yk_X3_tokenIs wd_643 ⟨rfl, rfl, by decide, by decide⟩ ⟨Nat.le_refl _, Nat.le_refl _⟩ hX hK hP hD hS hA [0, 1, 2] [3] [1, 2, 3, 0] (va_recv hK hP (ci := 3) (q0 := 0) rfl rfl) rfl rfl (by decide) rfl rfl rfl rfl rfl hl.1 rfl (Nat.le_of_ble_eq_true rfl) dX3_takeLine_57 (fun H locs hP hD hS => ?_)
        refine lv_if_eq (tgt := 81) hx hb dX3_takeLine_60 (by decide) (fun c8 => ?_) (fun c8 => ?_)
        · have hf := of_pos hf c8
          refine lv_aload_n hx hb dX3_takeLine_81 rfl (lv_at hl 0 rfl) ?_
          refine va_ldcS hx hb hown (hX.2.1.1 0 (by decide)) dX3_takeLine_82 ?_
          obtain ⟨r_84_8, hc_r_84_8, hf⟩ := of_bnd hf
          refine cl_Vi (w2 := (wW_X3_takeLine G h0 h1 h2 h3 y0_1 y0_3 y3_3 y3_4 y3_5 x0_4 x0_5 x0_6 x0_7 x0_8 x0_9 x0_10 x0_11 x0_12 x0_13 x0_14 x1_1 a2 x3_0 x3_1 x3_2)) (As := [.ref (gK G 0)]) (rest := []) ⟨hx, hb, hml, hown, ht0⟩ (c_X3_tokenIs l G h0 h1 h2 y0_1 h3 y0_3 _ x0_4 x0_5 x0_6 x0_7 x0_8 x0_9 x0_10 x0_11 x0_12 x0_13 x0_14 x1_1 a2 F 0 (by decide) _ hc_r_84_8) yk_X3_tokenIs wd_643 ⟨rfl, rfl, by decide, by decide⟩ ⟨Nat.le_refl _, Nat.le_refl _⟩ hX hK hP hD hS hA [0, 1, 2] [3] [1, 2, 3, 0] (va_recv hK hP (ci := 3) (q0 := 0) rfl rfl) rfl rfl (by decide) rfl rfl rfl rfl rfl hl.1 rfl (Nat.le_of_ble_eq_true rfl) dX3_takeLine_84 (fun H locs hP hD hS => ?_)
          refine lv_if_eq (tgt := 98) hx hb dX3_takeLine_87 (by decide) (fun c10 => ?_) (fun c10 => ?_)
          · have hf := of_pos hf c10
            refine lv_aload_n hx hb dX3_takeLine_98 rfl (lv_at hl 0 rfl) ?_
            refine va_ldcS hx hb hown (hX.2.1.1 1 (by decide)) dX3_takeLine_99 ?_
            obtain ⟨r_101_10, hc_r_101_10, hf⟩ := of_bnd hf
            refine cl_Vi (w2 := (wW_X3_takeLine G h0 h1 h2 h3 y0_1 y0_3 y3_3 y3_4 y3_5 x0_4 x0_5 x0_6 x0_7 x0_8 x0_9 x0_10 x0_11 x0_12 x0_13 x0_14 x1_1 a2 x3_0 x3_1 x3_2)) (As := [.ref (gK G 1)]) (rest := []) ⟨hx, hb, hml, hown, ht0⟩ (c_X3_tokenIs l G h0 h1 h2 y0_1 h3 y0_3 _ x0_4 x0_5 x0_6 x0_7 x0_8 x0_9 x0_10 x0_11 x0_12 x0_13 x0_14 x1_1 a2 F 1 (by decide) _ hc_r_101_10) yk_X3_tokenIs wd_643 ⟨rfl, rfl, by decide, by decide⟩ ⟨Nat.le_refl _, Nat.le_refl _⟩ hX hK hP hD hS hA [0, 1, 2] [3] [1, 2, 3, 0] (va_recv hK hP (ci := 3) (q0 := 0) rfl rfl) rfl rfl (by decide) rfl rfl rfl rfl rfl hl.1 rfl (Nat.le_of_ble_eq_true rfl) dX3_takeLine_101 (fun H locs hP hD hS => ?_)
            refine lv_if_eq (tgt := 116) hx hb dX3_takeLine_104 (by decide) (fun c12 => ?_) (fun c12 => ?_)
            · have hf := of_pos hf c12
              refine lv_aload_n hx hb dX3_takeLine_116 rfl (lv_at hl 0 rfl) ?_
              refine lv_iconst (v := (1 : Int32)) hx hb dX3_takeLine_117 (by decide) ?_
              obtain ⟨⟨r_118_12_x0_4, r_118_12_x0_5⟩, hc_r_118_12, hf⟩ := of_bnd hf
              refine cl_Vv (w2 := (wW_X3_takeLine G h0 h1 h2 h3 y0_1 y0_3 y3_3 y3_4 y3_5 r_118_12_x0_4 r_118_12_x0_5 x0_6 x0_7 x0_8 x0_9 x0_10 x0_11 x0_12 x0_13 x0_14 x1_1 a2 x3_0 x3_1 x3_2)) (As := [.int (1 : Int32)]) (rest := []) ⟨hx, hb, hml, hown, ht0⟩ (c_X3_fail l G h0 h1 y0_1 h3 y0_3 _ x0_4 x0_5 x0_6 x0_7 x0_8 x0_9 x0_10 x0_11 x0_12 x0_13 x0_14 F (1 : Int32) _ _ hc_r_118_12) yk_X3_fail wd_697 ⟨rfl, rfl, by decide, by decide⟩ ⟨Nat.le_refl _, Nat.le_refl _⟩ hX hK hP hD hS hA [0] [1, 2, 3] [3, 0, 1, 2] (va_recv hK hP (ci := 3) (q0 := 0) rfl rfl) rfl rfl (by decide) rfl rfl rfl rfl rfl hl.1 rfl (Nat.le_of_ble_eq_true rfl) dX3_takeLine_118 (fun H locs hP hD hS => ?_)
              cases hf
              exact ret_v hx hb hr hlk hK hP hD hS dX3_takeLine_121
            · have hf := of_neg hf c12
              refine lv_aload_n hx hb dX3_takeLine_107 rfl (lv_at hl 0 rfl) ?_
              refine lv_bipush (v := (7 : Int32)) hx hb dX3_takeLine_108 (by decide) ?_
              refine va_put (ci := 3) (v := .int (7 : Int32)) (ty := .int) (C := RX3) (T := TX3) (N := 15) hx hb ht0 iX3 tyX3 tyX3_ok nmX3 hown hK hP hD hS 0 rfl rfl 10 (by decide) (ht0 _ wd_263) (fun _ h9 => h9) rfl rfl rfl rfl (Nat.le_of_ble_eq_true rfl) dX3_takeLine_110 (fun H locs hP hD hS => ?_)
              have hP : va_P G.1 vwCl (wW_X3_takeLine G h0 h1 h2 h3 y0_1 y0_3 y3_3 y3_4 y3_5 x0_4 x0_5 x0_6 x0_7 x0_8 x0_9 (7 : Int32) x0_11 x0_12 x0_13 x0_14 x1_1 a2 x3_0 x3_1 x3_2) H := hP
              have hD : va_D A (wW_X3_takeLine G h0 h1 h2 h3 y0_1 y0_3 y3_3 y3_4 y3_5 x0_4 x0_5 x0_6 x0_7 x0_8 x0_9 (7 : Int32) x0_11 x0_12 x0_13 x0_14 x1_1 a2 x3_0 x3_1 x3_2) := hD
              refine lv_goto (tgt := 121) hx hb dX3_takeLine_113 (by decide) ?_
              cases hf
              exact ret_v hx hb hr hlk hK hP hD hS dX3_takeLine_121
          · have hf := of_neg hf c10
            refine lv_aload_n hx hb dX3_takeLine_90 rfl (lv_at hl 0 rfl) ?_
            refine lv_iconst (v := (5 : Int32)) hx hb dX3_takeLine_91 (by decide) ?_
            refine va_put (ci := 3) (v := .int (5 : Int32)) (ty := .int) (C := RX3) (T := TX3) (N := 15) hx hb ht0 iX3 tyX3 tyX3_ok nmX3 hown hK hP hD hS 0 rfl rfl 10 (by decide) (ht0 _ wd_263) (fun _ h9 => h9) rfl rfl rfl rfl (Nat.le_of_ble_eq_true rfl) dX3_takeLine_92 (fun H locs hP hD hS => ?_)
            have hP : va_P G.1 vwCl (wW_X3_takeLine G h0 h1 h2 h3 y0_1 y0_3 y3_3 y3_4 y3_5 x0_4 x0_5 x0_6 x0_7 x0_8 x0_9 (5 : Int32) x0_11 x0_12 x0_13 x0_14 x1_1 a2 x3_0 x3_1 x3_2) H := hP
            have hD : va_D A (wW_X3_takeLine G h0 h1 h2 h3 y0_1 y0_3 y3_3 y3_4 y3_5 x0_4 x0_5 x0_6 x0_7 x0_8 x0_9 (5 : Int32) x0_11 x0_12 x0_13 x0_14 x1_1 a2 x3_0 x3_1 x3_2) := hD
            refine lv_goto (tgt := 121) hx hb dX3_takeLine_95 (by decide) ?_
            cases hf
            exact ret_v hx hb hr hlk hK hP hD hS dX3_takeLine_121
        · have hf := of_neg hf c8
          refine lv_aload_n hx hb dX3_takeLine_63 rfl (lv_at hl 0 rfl) ?_
          refine lv_bipush (v := (8 : Int32)) hx hb dX3_takeLine_64 (by decide) ?_
          refine lv_iconst (v := (1 : Int32)) hx hb dX3_takeLine_66 (by decide) ?_
          obtain ⟨⟨r_67_13_x0_4, r_67_13_x0_5, r_67_13_x0_10, r_67_13_x0_12⟩, hc_r_67_13, hf⟩ := of_bnd hf
          refine cl_Vv (w2 := (wW_X3_takeLine G h0 h1 h2 h3 y0_1 y0_3 y3_3 y3_4 y3_5 r_67_13_x0_4 r_67_13_x0_5 x0_6 x0_7 x0_8 x0_9 r_67_13_x0_10 x0_11 r_67_13_x0_12 x0_13 x0_14 x1_1 a2 x3_0 x3_1 x3_2)) (As := [.int (8 : Int32), .int (1 : Int32)]) (rest := []) ⟨hx, hb, hml, hown, ht0⟩ (c_X3_tellOnce l G h0 h1 y0_1 h3 y0_3 _ x0_4 x0_5 x0_6 x0_7 x0_8 x0_9 x0_10 x0_11 x0_12 x0_13 x0_14 F (8 : Int32) (1 : Int32) _ _ _ _ hc_r_67_13) yk_X3_tellOnce wd_710 ⟨rfl, rfl, by decide, by decide⟩ ⟨Nat.le_refl _, Nat.le_refl _⟩ hX hK hP hD hS hA [0] [1, 2, 3] [3, 0, 1, 2] (va_recv hK hP (ci := 3) (q0 := 0) rfl rfl) rfl rfl (by decide) rfl rfl rfl rfl rfl hl.1 rfl (Nat.le_of_ble_eq_true rfl) dX3_takeLine_67 (fun H locs hP hD hS => ?_)
          refine lv_aload_n hx hb dX3_takeLine_70 rfl (lv_at hl 0 rfl) ?_
          refine va_get (ci := 3) (v := .ref h3) (C := RX3) (T := TX3) (N := 15) hx hb ht0 iX3 hown hK hP 0 rfl rfl 2 (by decide) (ht0 _ wd_251) (fun _ h9 => h9) rfl dX3_takeLine_71 ?_
          refine lv_iconst (v := (1 : Int32)) hx hb dX3_takeLine_74 (by decide) ?_
          refine va_put (ci := 1) (v := .int (1 : Int32)) (ty := .boolean) (C := RX1) (T := TX1) (N := 6) hx hb ht0 iX1 tyX1 tyX1_ok nmX1 hown hK hP hD hS 3 rfl rfl 2 (by decide) (ht0 _ wd_224) (fun _ h9 => h9) rfl rfl rfl rfl (Nat.le_of_ble_eq_true rfl) dX3_takeLine_75 (fun H locs hP hD hS => ?_)
          have hP : va_P G.1 vwCl (wW_X3_takeLine G h0 h1 h2 h3 y0_1 y0_3 y3_3 y3_4 y3_5 r_67_13_x0_4 r_67_13_x0_5 x0_6 x0_7 x0_8 x0_9 r_67_13_x0_10 x0_11 r_67_13_x0_12 x0_13 x0_14 x1_1 a2 x3_0 x3_1 (1 : Int32)) H := hP
          have hD : va_D A (wW_X3_takeLine G h0 h1 h2 h3 y0_1 y0_3 y3_3 y3_4 y3_5 r_67_13_x0_4 r_67_13_x0_5 x0_6 x0_7 x0_8 x0_9 r_67_13_x0_10 x0_11 r_67_13_x0_12 x0_13 x0_14 x1_1 a2 x3_0 x3_1 (1 : Int32)) := hD
          refine lv_goto (tgt := 121) hx hb dX3_takeLine_78 (by decide) ?_
          cases hf
          exact ret_v hx hb hr hlk hK hP hD hS dX3_takeLine_121
      · have hf := of_neg hf c6
        refine lv_aload_n hx hb dX3_takeLine_45 rfl (lv_at hl 0 rfl) ?_
        refine lv_iconst (v := (4 : Int32)) hx hb dX3_takeLine_46 (by decide) ?_
        refine lv_iconst (v := (4 : Int32)) hx hb dX3_takeLine_47 (by decide) ?_
        obtain ⟨⟨r_48_14_x0_4, r_48_14_x0_5, r_48_14_x0_10, r_48_14_x0_12⟩, hc_r_48_14, hf⟩ := of_bnd hf
        refine cl_Vv (w2 := (wW_X3_takeLine G h0 h1 h2 h3 y0_1 y0_3 y3_3 y3_4 y3_5 r_48_14_x0_4 r_48_14_x0_5 x0_6 x0_7 x0_8 x0_9 r_48_14_x0_10 x0_11 r_48_14_x0_12 x0_13 x0_14 x1_1 a2 x3_0 x3_1 x3_2)) (As := [.int (4 : Int32), .int (4 : Int32)]) (rest := []) ⟨hx, hb, hml, hown, ht0⟩ (c_X3_tellOnce l G h0 h1 y0_1 h3 y0_3 _ x0_4 x0_5 x0_6 x0_7 x0_8 x0_9 x0_10 x0_11 x0_12 x0_13 x0_14 F (4 : Int32) (4 : Int32) _ _ _ _ hc_r_48_14) yk_X3_tellOnce wd_710 ⟨rfl, rfl, by decide, by decide⟩ ⟨Nat.le_refl _, Nat.le_refl _⟩ hX hK hP hD hS hA [0] [1, 2, 3] [3, 0, 1, 2] (va_recv hK hP (ci := 3) (q0 := 0) rfl rfl) rfl rfl (by decide) rfl rfl rfl rfl rfl hl.1 rfl (Nat.le_of_ble_eq_true rfl) dX3_takeLine_48 (fun H locs hP hD hS => ?_)
        refine lv_goto (tgt := 121) hx hb dX3_takeLine_51 (by decide) ?_
        cases hf
        exact ret_v hx hb hr hlk hK hP hD hS dX3_takeLine_121
    · have hf := of_neg hf c4
      refine lv_aload_n hx hb dX3_takeLine_27 rfl (lv_at hl 0 rfl) ?_
      refine lv_iconst (v := (2 : Int32)) hx hb dX3_takeLine_28 (by decide) ?_
      refine lv_iconst (v := (3 : Int32)) hx hb dX3_takeLine_29 (by decide) ?_
      obtain ⟨⟨r_30_15_x0_4, r_30_15_x0_5, r_30_15_x0_10, r_30_15_x0_12⟩, hc_r_30_15, hf⟩ := of_bnd hf
      refine cl_Vv (w2 := (wW_X3_takeLine G h0 h1 h2 h3 y0_1 y0_3 y3_3 y3_4 y3_5 r_30_15_x0_4 r_30_15_x0_5 x0_6 x0_7 x0_8 x0_9 r_30_15_x0_10 x0_11 r_30_15_x0_12 x0_13 x0_14 x1_1 a2 x3_0 x3_1 x3_2)) (As := [.int (2 : Int32), .int (3 : Int32)]) (rest := []) ⟨hx, hb, hml, hown, ht0⟩ (c_X3_tellOnce l G h0 h1 y0_1 h3 y0_3 _ x0_4 x0_5 x0_6 x0_7 x0_8 x0_9 x0_10 x0_11 x0_12 x0_13 x0_14 F (2 : Int32) (3 : Int32) _ _ _ _ hc_r_30_15) yk_X3_tellOnce wd_710 ⟨rfl, rfl, by decide, by decide⟩ ⟨Nat.le_refl _, Nat.le_refl _⟩ hX hK hP hD hS hA [0] [1, 2, 3] [3, 0, 1, 2] (va_recv hK hP (ci := 3) (q0 := 0) rfl rfl) rfl rfl (by decide) rfl rfl rfl rfl rfl hl.1 rfl (Nat.le_of_ble_eq_true rfl) dX3_takeLine_30 (fun H locs hP hD hS => ?_)
      refine lv_goto (tgt := 121) hx hb dX3_takeLine_33 (by decide) ?_
      cases hf
      exact ret_v hx hb hr hlk hK hP hD hS dX3_takeLine_121
  · have hf := of_neg hf c2
    refine lv_aload_n hx hb dX3_takeLine_9 rfl (lv_at hl 0 rfl) ?_
    refine lv_iconst (v := (1 : Int32)) hx hb dX3_takeLine_10 (by decide) ?_
    refine lv_iconst (v := (2 : Int32)) hx hb dX3_takeLine_11 (by decide) ?_
    obtain ⟨⟨r_12_16_x0_4, r_12_16_x0_5, r_12_16_x0_10, r_12_16_x0_12⟩, hc_r_12_16, hf⟩ := of_bnd hf
    refine cl_Vv (w2 := (wW_X3_takeLine G h0 h1 h2 h3 y0_1 y0_3 y3_3 y3_4 y3_5 r_12_16_x0_4 r_12_16_x0_5 x0_6 x0_7 x0_8 x0_9 r_12_16_x0_10 x0_11 r_12_16_x0_12 x0_13 x0_14 x1_1 a2 x3_0 x3_1 x3_2)) (As := [.int (1 : Int32), .int (2 : Int32)]) (rest := []) ⟨hx, hb, hml, hown, ht0⟩ (c_X3_tellOnce l G h0 h1 y0_1 h3 y0_3 _ x0_4 x0_5 x0_6 x0_7 x0_8 x0_9 x0_10 x0_11 x0_12 x0_13 x0_14 F (1 : Int32) (2 : Int32) _ _ _ _ hc_r_12_16) yk_X3_tellOnce wd_710 ⟨rfl, rfl, by decide, by decide⟩ ⟨Nat.le_refl _, Nat.le_refl _⟩ hX hK hP hD hS hA [0] [1, 2, 3] [3, 0, 1, 2] (va_recv hK hP (ci := 3) (q0 := 0) rfl rfl) rfl rfl (by decide) rfl rfl rfl rfl rfl hl.1 rfl (Nat.le_of_ble_eq_true rfl) dX3_takeLine_12 (fun H locs hP hD hS => ?_)
    refine lv_goto (tgt := 121) hx hb dX3_takeLine_15 (by decide) ?_
    cases hf
    exact ret_v hx hb hr hlk hK hP hD hS dX3_takeLine_121
theorem yk_X3_takeLine : ykV yX3_takeLine RX3 cX3_takeLine 1 none 0 := ⟨wd_707, wd_17, wd_128, wd_708, rfl, by decide +kernel, by decide +kernel, by decide +kernel⟩
theorem dX3_takeSign_0 : decode cX3_takeSign 0 = .ok (.aload_n 0, 1) := by decide +kernel
theorem dX3_takeSign_1 : decode cX3_takeSign 1 = .ok (.getfield 65, 3) := by decide +kernel
theorem dX3_takeSign_4 : decode cX3_takeSign 4 = .ok (.iconst 3, 1) := by decide +kernel
theorem dX3_takeSign_5 : decode cX3_takeSign 5 = .ok (.if_icmp .ne 11, 3) := by decide +kernel
theorem dX3_takeSign_8 : decode cX3_takeSign 8 = .ok (.aload_n 0, 1) := by decide +kernel
theorem dX3_takeSign_9 : decode cX3_takeSign 9 = .ok (.iconst 0, 1) := by decide +kernel
theorem dX3_takeSign_10 : decode cX3_takeSign 10 = .ok (.putfield 68, 3) := by decide +kernel
theorem dX3_takeSign_13 : decode cX3_takeSign 13 = .ok (.goto 8, 3) := by decide +kernel
theorem dX3_takeSign_16 : decode cX3_takeSign 16 = .ok (.aload_n 0, 1) := by decide +kernel
theorem dX3_takeSign_17 : decode cX3_takeSign 17 = .ok (.iconst 1, 1) := by decide +kernel
theorem dX3_takeSign_18 : decode cX3_takeSign 18 = .ok (.invokevirtual 61, 3) := by decide +kernel
theorem dX3_takeSign_21 : decode cX3_takeSign 21 = .ok (.return_, 1) := by decide +kernel
def wW_X3_takeSign (G : GG) (h0 y0_0 y0_1 y0_2 y0_3 : Nat) (x0_4 : Int32) (x0_5 : Int32) (x0_6 : Int32) (x0_7 : Int32) (x0_8 : Int32) (x0_9 : Int32) (x0_10 : Int32) (x0_11 : Int32) (x0_12 : Int32) (x0_13 : Int32) (x0_14 : Int32) : va_W := [(h0, .inr (3, [.ref y0_0, .ref y0_1, .ref y0_2, .ref y0_3, .int x0_4, .int x0_5, .int x0_6, .int x0_7, .int x0_8, .int x0_9, .int x0_10, .int x0_11, .int x0_12, .int x0_13, .int x0_14]))]
set_option maxHeartbeats 4000000 in
set_option maxRecDepth 100000 in
theorem c_X3_takeSign (l : Launch) (G : GG) (h0 y0_0 y0_1 y0_2 y0_3 : Nat) (sz : Nat) (x0_4 : Int32) (x0_5 : Int32) (x0_6 : Int32) (x0_7 : Int32) (x0_8 : Int32) (x0_9 : Int32) (x0_10 : Int32) (x0_11 : Int32) (x0_12 : Int32) (x0_13 : Int32) (x0_14 : Int32) (F : Nat)   (e_x0_4 : Int32) (e_x0_5 : Int32) (e_x0_10 : Int32) (hf : p_X3_takeSign F x0_4 x0_5 x0_7 x0_8 x0_10  = some (e_x0_4, e_x0_5, e_x0_10)) : Met l yX3_takeSign (.code yX3_takeSign cX3_takeSign 1 none :: gtbl) ({ frames := 1, cells := 0, slots := 0, locals := 21 } : Room) (PcS G [.ref h0] (wW_X3_takeSign G h0 y0_0 y0_1 y0_2 y0_3 x0_4 x0_5 x0_6 x0_7 x0_8 x0_9 x0_10 x0_11 x0_12 x0_13 x0_14) sz) (QvS G (va_A (wW_X3_takeSign G h0 y0_0 y0_1 y0_2 y0_3 x0_4 x0_5 x0_6 x0_7 x0_8 x0_9 x0_10 x0_11 x0_12 x0_13 x0_14) sz) (wW_X3_takeSign G h0 y0_0 y0_1 y0_2 y0_3 e_x0_4 e_x0_5 x0_6 x0_7 x0_8 x0_9 e_x0_10 x0_11 x0_12 x0_13 x0_14)) 0 0 (va_A (wW_X3_takeSign G h0 y0_0 y0_1 y0_2 y0_3 x0_4 x0_5 x0_6 x0_7 x0_8 x0_9 x0_10 x0_11 x0_12 x0_13 x0_14) sz) := by
  refine met_start (by decide) (Nat.le_of_ble_eq_true rfl) ?_
  intro p e s m below meth c hC hr hlk hnm hK hP hD hA hS hX ls hl
  obtain ⟨hx, hb, hml, hown, ht0⟩ := hC
  have hown : s.vm.findClass RX3 = some m.cls := hown
  generalize va_A (wW_X3_takeSign G h0 y0_0 y0_1 y0_2 y0_3 x0_4 x0_5 x0_6 x0_7 x0_8 x0_9 x0_10 x0_11 x0_12 x0_13 x0_14) sz = A at hD hA hS hX ⊢
  have hl : lv_has ls 1 [(0, .ref h0)] := hl
  have hf : p_X3_takeSign F x0_4 x0_5 x0_7 x0_8 x0_10  = some (e_x0_4, e_x0_5, e_x0_10) := hf
  refine lv_aload_n hx hb dX3_takeSign_0 rfl (lv_at hl 0 rfl) ?_
  refine va_get (ci := 3) (v := .int x0_8) (C := RX3) (T := TX3) (N := 15) hx hb ht0 iX3 hown hK hP 0 rfl rfl 8 (by decide) (ht0 _ wd_261) (fun _ h9 => h9) rfl dX3_takeSign_1 ?_
  refine lv_iconst (v := (3 : Int32)) hx hb dX3_takeSign_4 (by decide) ?_
  refine lv_icmp_ne (tgt := 16) hx hb dX3_takeSign_5 (by decide) (fun c1 => ?_) (fun c1 => ?_)
  · have hf := of_neg hf c1
    refine lv_aload_n hx hb dX3_takeSign_16 rfl (lv_at hl 0 rfl) ?_
    refine lv_iconst (v := (1 : Int32)) hx hb dX3_takeSign_17 (by decide) ?_
    obtain ⟨⟨r_18_1_x0_4, r_18_1_x0_5⟩, hc_r_18_1, hf⟩ := of_bnd hf
    refine cl_Vv (w2 := (wW_X3_takeSign G h0 y0_0 y0_1 y0_2 y0_3 r_18_1_x0_4 r_18_1_x0_5 x0_6 x0_7 x0_8 x0_9 x0_10 x0_11 x0_12 x0_13 x0_14)) (As := [.int (1 : Int32)]) (rest := []) ⟨hx, hb, hml, hown, ht0⟩ (c_X3_fail l G h0 y0_0 y0_1 y0_2 y0_3 _ x0_4 x0_5 x0_6 x0_7 x0_8 x0_9 x0_10 x0_11 x0_12 x0_13 x0_14 F (1 : Int32) _ _ hc_r_18_1) yk_X3_fail wd_697 ⟨rfl, rfl, by decide, by decide⟩ ⟨Nat.le_refl _, Nat.le_refl _⟩ hX hK hP hD hS hA [0] [] [0] (va_recv hK hP (ci := 3) (q0 := 0) rfl rfl) rfl rfl (by decide) rfl rfl rfl rfl rfl hl.1 rfl (Nat.le_of_ble_eq_true rfl) dX3_takeSign_18 (fun H locs hP hD hS => ?_)
    cases hf
    exact ret_v hx hb hr hlk hK hP hD hS dX3_takeSign_21
  · have hf := of_pos hf c1
    refine lv_aload_n hx hb dX3_takeSign_8 rfl (lv_at hl 0 rfl) ?_
    refine lv_iconst (v := (0 : Int32)) hx hb dX3_takeSign_9 (by decide) ?_
    refine va_put (ci := 3) (v := .int (0 : Int32)) (ty := .int) (C := RX3) (T := TX3) (N := 15) hx hb ht0 iX3 tyX3 tyX3_ok nmX3 hown hK hP hD hS 0 rfl rfl 10 (by decide) (ht0 _ wd_263) (fun _ h9 => h9) rfl rfl rfl rfl (Nat.le_of_ble_eq_true rfl) dX3_takeSign_10 (fun H locs hP hD hS => ?_)
    have hP : va_P G.1 vwCl (wW_X3_takeSign G h0 y0_0 y0_1 y0_2 y0_3 x0_4 x0_5 x0_6 x0_7 x0_8 x0_9 (0 : Int32) x0_11 x0_12 x0_13 x0_14) H := hP
    have hD : va_D A (wW_X3_takeSign G h0 y0_0 y0_1 y0_2 y0_3 x0_4 x0_5 x0_6 x0_7 x0_8 x0_9 (0 : Int32) x0_11 x0_12 x0_13 x0_14) := hD
    refine lv_goto (tgt := 21) hx hb dX3_takeSign_13 (by decide) ?_
    cases hf
    exact ret_v hx hb hr hlk hK hP hD hS dX3_takeSign_21
theorem yk_X3_takeSign : ykV yX3_takeSign RX3 cX3_takeSign 1 none 0 := ⟨wd_719, wd_19, wd_128, wd_720, rfl, by decide +kernel, by decide +kernel, by decide +kernel⟩
theorem dX3_takeWay_0 : decode cX3_takeWay 0 = .ok (.aload_n 0, 1) := by decide +kernel
theorem dX3_takeWay_1 : decode cX3_takeWay 1 = .ok (.iconst 1, 1) := by decide +kernel
theorem dX3_takeWay_2 : decode cX3_takeWay 2 = .ok (.putfield 68, 3) := by decide +kernel
theorem dX3_takeWay_5 : decode cX3_takeWay 5 = .ok (.aload_n 0, 1) := by decide +kernel
theorem dX3_takeWay_6 : decode cX3_takeWay 6 = .ok (.ldc 182, 2) := by decide +kernel
theorem dX3_takeWay_8 : decode cX3_takeWay 8 = .ok (.invokevirtual 76, 3) := by decide +kernel
theorem dX3_takeWay_11 : decode cX3_takeWay 11 = .ok (.ifCond .eq 11, 3) := by decide +kernel
theorem dX3_takeWay_14 : decode cX3_takeWay 14 = .ok (.aload_n 0, 1) := by decide +kernel
theorem dX3_takeWay_15 : decode cX3_takeWay 15 = .ok (.iconst 0, 1) := by decide +kernel
theorem dX3_takeWay_16 : decode cX3_takeWay 16 = .ok (.putfield 50, 3) := by decide +kernel
theorem dX3_takeWay_19 : decode cX3_takeWay 19 = .ok (.goto 42, 3) := by decide +kernel
theorem dX3_takeWay_22 : decode cX3_takeWay 22 = .ok (.aload_n 0, 1) := by decide +kernel
theorem dX3_takeWay_23 : decode cX3_takeWay 23 = .ok (.ldc 184, 2) := by decide +kernel
theorem dX3_takeWay_25 : decode cX3_takeWay 25 = .ok (.invokevirtual 76, 3) := by decide +kernel
theorem dX3_takeWay_28 : decode cX3_takeWay 28 = .ok (.ifCond .eq 11, 3) := by decide +kernel
theorem dX3_takeWay_31 : decode cX3_takeWay 31 = .ok (.aload_n 0, 1) := by decide +kernel
theorem dX3_takeWay_32 : decode cX3_takeWay 32 = .ok (.iconst 1, 1) := by decide +kernel
theorem dX3_takeWay_33 : decode cX3_takeWay 33 = .ok (.putfield 50, 3) := by decide +kernel
theorem dX3_takeWay_36 : decode cX3_takeWay 36 = .ok (.goto 25, 3) := by decide +kernel
theorem dX3_takeWay_39 : decode cX3_takeWay 39 = .ok (.aload_n 0, 1) := by decide +kernel
theorem dX3_takeWay_40 : decode cX3_takeWay 40 = .ok (.ldc 186, 2) := by decide +kernel
theorem dX3_takeWay_42 : decode cX3_takeWay 42 = .ok (.invokevirtual 76, 3) := by decide +kernel
theorem dX3_takeWay_45 : decode cX3_takeWay 45 = .ok (.ifCond .eq 11, 3) := by decide +kernel
theorem dX3_takeWay_48 : decode cX3_takeWay 48 = .ok (.aload_n 0, 1) := by decide +kernel
theorem dX3_takeWay_49 : decode cX3_takeWay 49 = .ok (.iconst 2, 1) := by decide +kernel
theorem dX3_takeWay_50 : decode cX3_takeWay 50 = .ok (.putfield 50, 3) := by decide +kernel
theorem dX3_takeWay_53 : decode cX3_takeWay 53 = .ok (.goto 8, 3) := by decide +kernel
theorem dX3_takeWay_56 : decode cX3_takeWay 56 = .ok (.aload_n 0, 1) := by decide +kernel
theorem dX3_takeWay_57 : decode cX3_takeWay 57 = .ok (.iconst 1, 1) := by decide +kernel
theorem dX3_takeWay_58 : decode cX3_takeWay 58 = .ok (.invokevirtual 61, 3) := by decide +kernel
theorem dX3_takeWay_61 : decode cX3_takeWay 61 = .ok (.return_, 1) := by decide +kernel
def wW_X3_takeWay (G : GG) (h0 h1 h2 y0_1 y0_2 y0_3 : Nat) (x0_4 : Int32) (x0_5 : Int32) (x0_6 : Int32) (x0_7 : Int32) (x0_8 : Int32) (x0_9 : Int32) (x0_10 : Int32) (x0_11 : Int32) (x0_12 : Int32) (x0_13 : Int32) (x0_14 : Int32) (x1_1 : Int32) (a2 : Nat → Int32) : va_W := [(h0, .inr (3, [.ref h1, .ref y0_1, .ref y0_2, .ref y0_3, .int x0_4, .int x0_5, .int x0_6, .int x0_7, .int x0_8, .int x0_9, .int x0_10, .int x0_11, .int x0_12, .int x0_13, .int x0_14])), (h1, .inr (7, [.ref h2, .int x1_1])), (h2, .inl (G.2.1, 600, .inl a2))]
set_option maxHeartbeats 4000000 in
set_option maxRecDepth 100000 in
theorem c_X3_takeWay (l : Launch) (G : GG) (h0 h1 h2 y0_1 y0_2 y0_3 : Nat) (sz : Nat) (x0_4 : Int32) (x0_5 : Int32) (x0_6 : Int32) (x0_7 : Int32) (x0_8 : Int32) (x0_9 : Int32) (x0_10 : Int32) (x0_11 : Int32) (x0_12 : Int32) (x0_13 : Int32) (x0_14 : Int32) (x1_1 : Int32) (a2 : Nat → Int32) (F : Nat)   (e_x0_4 : Int32) (e_x0_5 : Int32) (e_x0_10 : Int32) (e_x0_11 : Int32) (hf : p_X3_takeWay F x0_4 x0_5 x0_6 x0_7 x0_8 x0_10 x0_11 x1_1 a2  = some (e_x0_4, e_x0_5, e_x0_10, e_x0_11)) : Met l yX3_takeWay (.code yX3_takeWay cX3_takeWay 1 none :: gtbl) ({ frames := 5, cells := 0, slots := 0, locals := 107 } : Room) (PcS G [.ref h0] (wW_X3_takeWay G h0 h1 h2 y0_1 y0_2 y0_3 x0_4 x0_5 x0_6 x0_7 x0_8 x0_9 x0_10 x0_11 x0_12 x0_13 x0_14 x1_1 a2) sz) (QvS G (va_A (wW_X3_takeWay G h0 h1 h2 y0_1 y0_2 y0_3 x0_4 x0_5 x0_6 x0_7 x0_8 x0_9 x0_10 x0_11 x0_12 x0_13 x0_14 x1_1 a2) sz) (wW_X3_takeWay G h0 h1 h2 y0_1 y0_2 y0_3 e_x0_4 e_x0_5 x0_6 x0_7 x0_8 x0_9 e_x0_10 e_x0_11 x0_12 x0_13 x0_14 x1_1 a2)) 0 0 (va_A (wW_X3_takeWay G h0 h1 h2 y0_1 y0_2 y0_3 x0_4 x0_5 x0_6 x0_7 x0_8 x0_9 x0_10 x0_11 x0_12 x0_13 x0_14 x1_1 a2) sz) := by
  refine met_start (by decide) (Nat.le_of_ble_eq_true rfl) ?_
  intro p e s m below meth c hC hr hlk hnm hK hP hD hA hS hX ls hl
  obtain ⟨hx, hb, hml, hown, ht0⟩ := hC
  have hown : s.vm.findClass RX3 = some m.cls := hown
  generalize va_A (wW_X3_takeWay G h0 h1 h2 y0_1 y0_2 y0_3 x0_4 x0_5 x0_6 x0_7 x0_8 x0_9 x0_10 x0_11 x0_12 x0_13 x0_14 x1_1 a2) sz = A at hD hA hS hX ⊢
  have hl : lv_has ls 1 [(0, .ref h0)] := hl
  have hf : p_X3_takeWay F x0_4 x0_5 x0_6 x0_7 x0_8 x0_10 x0_11 x1_1 a2  = some (e_x0_4, e_x0_5, e_x0_10, e_x0_11) := hf
  refine lv_aload_n hx hb dX3_takeWay_0 rfl (lv_at hl 0 rfl) ?_
  refine lv_iconst (v := (1 : Int32)) hx hb dX3_takeWay_1 (by decide) ?_
  refine va_put (ci := 3) (v := .int (1 : Int32)) (ty := .int) (C := RX3) (T := TX3) (N := 15) hx hb ht0 iX3 tyX3 tyX3_ok nmX3 hown hK hP hD hS 0 rfl rfl 10 (by decide) (ht0 _ wd_263) (fun _ h9 => h9) rfl rfl rfl rfl (Nat.le_of_ble_eq_true rfl) dX3_takeWay_2 (fun H locs hP hD hS => ?_)
  have hP : va_P G.1 vwCl (wW_X3_takeWay G h0 h1 h2 y0_1 y0_2 y0_3 x0_4 x0_5 x0_6 x0_7 x0_8 x0_9 (1 : Int32) x0_11 x0_12 x0_13 x0_14 x1_1 a2) H := hP
  have hD : va_D A (wW_X3_takeWay G h0 h1 h2 y0_1 y0_2 y0_3 x0_4 x0_5 x0_6 x0_7 x0_8 x0_9 (1 : Int32) x0_11 x0_12 x0_13 x0_14 x1_1 a2) := hD
  refine lv_aload_n hx hb dX3_takeWay_5 rfl (lv_at hl 0 rfl) ?_
  refine va_ldcS hx hb hown (hX.2.1.1 6 (by decide)) dX3_takeWay_6 ?_
  obtain ⟨r_8_0, hc_r_8_0, hf⟩ := of_bnd hf
  refine cl_Vi (w2 := (wW_X3_takeWay G h0 h1 h2 y0_1 y0_2 y0_3 x0_4 x0_5 x0_6 x0_7 x0_8 x0_9 (1 : Int32) x0_11 x0_12 x0_13 x0_14 x1_1 a2)) (As := [.ref (gK G 6)]) (rest := []) ⟨hx, hb, hml, hown, ht0⟩ (c_X3_tokenIs l G h0 h1 h2 y0_1 y0_2 y0_3 _ x0_4 x0_5 x0_6 x0_7 x0_8 x0_9 (1 : Int32) x0_11 x0_12 x0_13 x0_14 x1_1 a2 F 6 (by decide) _ hc_r_8_0) yk_X3_tokenIs wd_643 ⟨rfl, rfl, by decide, by decide⟩ ⟨Nat.le_refl _, Nat.le_refl _⟩ hX hK hP hD hS hA [0, 1, 2] [] [0, 1, 2] (va_recv hK hP (ci := 3) (q0 := 0) rfl rfl) rfl rfl (by decide) rfl rfl rfl rfl rfl hl.1 rfl (Nat.le_of_ble_eq_true rfl) dX3_takeWay_8 (fun H locs hP hD hS => ?_)
  refine lv_if_eq (tgt := 22) hx hb dX3_takeWay_11 (by decide) (fun c2 => ?_) (fun c2 => ?_)
  · have hf := of_pos hf c2
    refine lv_aload_n hx hb dX3_takeWay_22 rfl (lv_at hl 0 rfl) ?_
    refine va_ldcS hx hb hown (hX.2.1.1 7 (by decide)) dX3_takeWay_23 ?_
    obtain ⟨r_25_2, hc_r_25_2, hf⟩ := of_bnd hf
    refine cl_Vi (w2 := (wW_X3_takeWay G h0 h1 h2 y0_1 y0_2 y0_3 x0_4 x0_5 x0_6 x0_7 x0_8 x0_9 (1 : Int32) x0_11 x0_12 x0_13 x0_14 x1_1 a2)) (As := [.ref (gK G 7)]) (rest := []) ⟨hx, hb, hml, hown, ht0⟩ (c_X3_tokenIs l G h0 h1 h2 y0_1 y0_2 y0_3 _ x0_4 x0_5 x0_6 x0_7 x0_8 x0_9 (1 : Int32) x0_11 x0_12 x0_13 x0_14 x1_1 a2 F 7 (by decide) _ hc_r_25_2) yk_X3_tokenIs wd_643 ⟨rfl, rfl, by decide, by decide⟩ ⟨Nat.le_refl _, Nat.le_refl _⟩ hX hK hP hD hS hA [0, 1, 2] [] [0, 1, 2] (va_recv hK hP (ci := 3) (q0 := 0) rfl rfl) rfl rfl (by decide) rfl rfl rfl rfl rfl hl.1 rfl (Nat.le_of_ble_eq_true rfl) dX3_takeWay_25 (fun H locs hP hD hS => ?_)
    refine lv_if_eq (tgt := 39) hx hb dX3_takeWay_28 (by decide) (fun c4 => ?_) (fun c4 => ?_)
    · have hf := of_pos hf c4
      refine lv_aload_n hx hb dX3_takeWay_39 rfl (lv_at hl 0 rfl) ?_
      refine va_ldcS hx hb hown (hX.2.1.1 8 (by decide)) dX3_takeWay_40 ?_
      obtain ⟨r_42_4, hc_r_42_4, hf⟩ := of_bnd hf
      refine cl_Vi (w2 := (wW_X3_takeWay G h0 h1 h2 y0_1 y0_2 y0_3 x0_4 x0_5 x0_6 x0_7 x0_8 x0_9 (1 : Int32) x0_11 x0_12 x0_13 x0_14 x1_1 a2)) (As := [.ref (gK G 8)]) (rest := []) ⟨hx, hb, hml, hown, ht0⟩ (c_X3_tokenIs l G h0 h1 h2 y0_1 y0_2 y0_3 _ x0_4 x0_5 x0_6 x0_7 x0_8 x0_9 (1 : Int32) x0_11 x0_12 x0_13 x0_14 x1_1 a2 F 8 (by decide) _ hc_r_42_4) yk_X3_tokenIs wd_643 ⟨rfl, rfl, by decide, by decide⟩ ⟨Nat.le_refl _, Nat.le_refl _⟩ hX hK hP hD hS hA [0, 1, 2] [] [0, 1, 2] (va_recv hK hP (ci := 3) (q0 := 0) rfl rfl) rfl rfl (by decide) rfl rfl rfl rfl rfl hl.1 rfl (Nat.le_of_ble_eq_true rfl) dX3_takeWay_42 (fun H locs hP hD hS => ?_)
      refine lv_if_eq (tgt := 56) hx hb dX3_takeWay_45 (by decide) (fun c6 => ?_) (fun c6 => ?_)
      · have hf := of_pos hf c6
        refine lv_aload_n hx hb dX3_takeWay_56 rfl (lv_at hl 0 rfl) ?_
        refine lv_iconst (v := (1 : Int32)) hx hb dX3_takeWay_57 (by decide) ?_
        obtain ⟨⟨r_58_6_x0_4, r_58_6_x0_5⟩, hc_r_58_6, hf⟩ := of_bnd hf
        refine cl_Vv (w2 := (wW_X3_takeWay G h0 h1 h2 y0_1 y0_2 y0_3 r_58_6_x0_4 r_58_6_x0_5 x0_6 x0_7 x0_8 x0_9 (1 : Int32) x0_11 x0_12 x0_13 x0_14 x1_1 a2)) (As := [.int (1 : Int32)]) (rest := []) ⟨hx, hb, hml, hown, ht0⟩ (c_X3_fail l G h0 h1 y0_1 y0_2 y0_3 _ x0_4 x0_5 x0_6 x0_7 x0_8 x0_9 (1 : Int32) x0_11 x0_12 x0_13 x0_14 F (1 : Int32) _ _ hc_r_58_6) yk_X3_fail wd_697 ⟨rfl, rfl, by decide, by decide⟩ ⟨Nat.le_refl _, Nat.le_refl _⟩ hX hK hP hD hS hA [0] [1, 2] [2, 0, 1] (va_recv hK hP (ci := 3) (q0 := 0) rfl rfl) rfl rfl (by decide) rfl rfl rfl rfl rfl hl.1 rfl (Nat.le_of_ble_eq_true rfl) dX3_takeWay_58 (fun H locs hP hD hS => ?_)
        cases hf
        exact ret_v hx hb hr hlk hK hP hD hS dX3_takeWay_61
      · have hf := of_neg hf c6
        refine lv_aload_n hx hb dX3_takeWay_48 rfl (lv_at hl 0 rfl) ?_
        refine lv_iconst (v := (2 : Int32)) hx hb dX3_takeWay_49 (by decide) ?_
        refine va_put (ci := 3) (v := .int (2 : Int32)) (ty := .int) (C := RX3) (T := TX3) (N := 15) hx hb ht0 iX3 tyX3 tyX3_ok nmX3 hown hK hP hD hS 0 rfl rfl 11 (by decide) (ht0 _ wd_264) (fun _ h9 => h9) rfl rfl rfl rfl (Nat.le_of_ble_eq_true rfl) dX3_takeWay_50 (fun H locs hP hD hS => ?_)
        have hP : va_P G.1 vwCl (wW_X3_takeWay G h0 h1 h2 y0_1 y0_2 y0_3 x0_4 x0_5 x0_6 x0_7 x0_8 x0_9 (1 : Int32) (2 : Int32) x0_12 x0_13 x0_14 x1_1 a2) H := hP
        have hD : va_D A (wW_X3_takeWay G h0 h1 h2 y0_1 y0_2 y0_3 x0_4 x0_5 x0_6 x0_7 x0_8 x0_9 (1 : Int32) (2 : Int32) x0_12 x0_13 x0_14 x1_1 a2) := hD
        refine lv_goto (tgt := 61) hx hb dX3_takeWay_53 (by decide) ?_
        cases hf
        exact ret_v hx hb hr hlk hK hP hD hS dX3_takeWay_61
    · have hf := of_neg hf c4
      refine lv_aload_n hx hb dX3_takeWay_31 rfl (lv_at hl 0 rfl) ?_
      refine lv_iconst (v := (1 : Int32)) hx hb dX3_takeWay_32 (by decide) ?_
      refine va_put (ci := 3) (v := .int (1 : Int32)) (ty := .int) (C := RX3) (T := TX3) (N := 15) hx hb ht0 iX3 tyX3 tyX3_ok nmX3 hown hK hP hD hS 0 rfl rfl 11 (by decide) (ht0 _ wd_264) (fun _ h9 => h9) rfl rfl rfl rfl (Nat.le_of_ble_eq_true rfl) dX3_takeWay_33 (fun H locs hP hD hS => ?_)
      have hP : va_P G.1 vwCl (wW_X3_takeWay G h0 h1 h2 y0_1 y0_2 y0_3 x0_4 x0_5 x0_6 x0_7 x0_8 x0_9 (1 : Int32) (1 : Int32) x0_12 x0_13 x0_14 x1_1 a2) H := hP
      have hD : va_D A (wW_X3_takeWay G h0 h1 h2 y0_1 y0_2 y0_3 x0_4 x0_5 x0_6 x0_7 x0_8 x0_9 (1 : Int32) (1 : Int32) x0_12 x0_13 x0_14 x1_1 a2) := hD
      refine lv_goto (tgt := 61) hx hb dX3_takeWay_36 (by decide) ?_
      cases hf
      exact ret_v hx hb hr hlk hK hP hD hS dX3_takeWay_61
  · have hf := of_neg hf c2
    refine lv_aload_n hx hb dX3_takeWay_14 rfl (lv_at hl 0 rfl) ?_
    refine lv_iconst (v := (0 : Int32)) hx hb dX3_takeWay_15 (by decide) ?_
    refine va_put (ci := 3) (v := .int (0 : Int32)) (ty := .int) (C := RX3) (T := TX3) (N := 15) hx hb ht0 iX3 tyX3 tyX3_ok nmX3 hown hK hP hD hS 0 rfl rfl 11 (by decide) (ht0 _ wd_264) (fun _ h9 => h9) rfl rfl rfl rfl (Nat.le_of_ble_eq_true rfl) dX3_takeWay_16 (fun H locs hP hD hS => ?_)
    have hP : va_P G.1 vwCl (wW_X3_takeWay G h0 h1 h2 y0_1 y0_2 y0_3 x0_4 x0_5 x0_6 x0_7 x0_8 x0_9 (1 : Int32) (0 : Int32) x0_12 x0_13 x0_14 x1_1 a2) H := hP
    have hD : va_D A (wW_X3_takeWay G h0 h1 h2 y0_1 y0_2 y0_3 x0_4 x0_5 x0_6 x0_7 x0_8 x0_9 (1 : Int32) (0 : Int32) x0_12 x0_13 x0_14 x1_1 a2) := hD
    refine lv_goto (tgt := 61) hx hb dX3_takeWay_19 (by decide) ?_
    cases hf
    exact ret_v hx hb hr hlk hK hP hD hS dX3_takeWay_61
theorem yk_X3_takeWay : ykV yX3_takeWay RX3 cX3_takeWay 1 none 0 := ⟨wd_723, wd_20, wd_128, wd_724, rfl, by decide +kernel, by decide +kernel, by decide +kernel⟩
theorem dX3_isNumberWithin_0 : decode cX3_isNumberWithin 0 = .ok (.aload_n 0, 1) := by decide +kernel
theorem dX3_isNumberWithin_1 : decode cX3_isNumberWithin 1 = .ok (.getfield 65, 3) := by decide +kernel
theorem dX3_isNumberWithin_4 : decode cX3_isNumberWithin 4 = .ok (.iconst 2, 1) := by decide +kernel
theorem dX3_isNumberWithin_5 : decode cX3_isNumberWithin 5 = .ok (.if_icmp .eq 10, 3) := by decide +kernel
theorem dX3_isNumberWithin_8 : decode cX3_isNumberWithin 8 = .ok (.aload_n 0, 1) := by decide +kernel
theorem dX3_isNumberWithin_9 : decode cX3_isNumberWithin 9 = .ok (.iconst 1, 1) := by decide +kernel
theorem dX3_isNumberWithin_10 : decode cX3_isNumberWithin 10 = .ok (.invokevirtual 61, 3) := by decide +kernel
theorem dX3_isNumberWithin_13 : decode cX3_isNumberWithin 13 = .ok (.iconst 0, 1) := by decide +kernel
theorem dX3_isNumberWithin_14 : decode cX3_isNumberWithin 14 = .ok (.ireturn, 1) := by decide +kernel
theorem dX3_isNumberWithin_15 : decode cX3_isNumberWithin 15 = .ok (.aload_n 0, 1) := by decide +kernel
theorem dX3_isNumberWithin_16 : decode cX3_isNumberWithin 16 = .ok (.getfield 123, 3) := by decide +kernel
theorem dX3_isNumberWithin_19 : decode cX3_isNumberWithin 19 = .ok (.iload_n 1, 1) := by decide +kernel
theorem dX3_isNumberWithin_20 : decode cX3_isNumberWithin 20 = .ok (.if_icmp .lt 11, 3) := by decide +kernel
theorem dX3_isNumberWithin_23 : decode cX3_isNumberWithin 23 = .ok (.aload_n 0, 1) := by decide +kernel
theorem dX3_isNumberWithin_24 : decode cX3_isNumberWithin 24 = .ok (.getfield 123, 3) := by decide +kernel
theorem dX3_isNumberWithin_27 : decode cX3_isNumberWithin 27 = .ok (.iload_n 2, 1) := by decide +kernel
theorem dX3_isNumberWithin_28 : decode cX3_isNumberWithin 28 = .ok (.if_icmp .le 10, 3) := by decide +kernel
theorem dX3_isNumberWithin_31 : decode cX3_isNumberWithin 31 = .ok (.aload_n 0, 1) := by decide +kernel
theorem dX3_isNumberWithin_32 : decode cX3_isNumberWithin 32 = .ok (.iconst 2, 1) := by decide +kernel
theorem dX3_isNumberWithin_33 : decode cX3_isNumberWithin 33 = .ok (.invokevirtual 61, 3) := by decide +kernel
theorem dX3_isNumberWithin_36 : decode cX3_isNumberWithin 36 = .ok (.iconst 0, 1) := by decide +kernel
theorem dX3_isNumberWithin_37 : decode cX3_isNumberWithin 37 = .ok (.ireturn, 1) := by decide +kernel
theorem dX3_isNumberWithin_38 : decode cX3_isNumberWithin 38 = .ok (.aload_n 0, 1) := by decide +kernel
theorem dX3_isNumberWithin_39 : decode cX3_isNumberWithin 39 = .ok (.iload_n 3, 1) := by decide +kernel
theorem dX3_isNumberWithin_40 : decode cX3_isNumberWithin 40 = .ok (.putfield 68, 3) := by decide +kernel
theorem dX3_isNumberWithin_43 : decode cX3_isNumberWithin 43 = .ok (.iconst 1, 1) := by decide +kernel
theorem dX3_isNumberWithin_44 : decode cX3_isNumberWithin 44 = .ok (.ireturn, 1) := by decide +kernel
def wW_X3_isNumberWithin (G : GG) (h0 y0_0 y0_1 y0_2 y0_3 : Nat) (x0_4 : Int32) (x0_5 : Int32) (x0_6 : Int32) (x0_7 : Int32) (x0_8 : Int32) (x0_9 : Int32) (x0_10 : Int32) (x0_11 : Int32) (x0_12 : Int32) (x0_13 : Int32) (x0_14 : Int32) : va_W := [(h0, .inr (3, [.ref y0_0, .ref y0_1, .ref y0_2, .ref y0_3, .int x0_4, .int x0_5, .int x0_6, .int x0_7, .int x0_8, .int x0_9, .int x0_10, .int x0_11, .int x0_12, .int x0_13, .int x0_14]))]
set_option maxHeartbeats 4000000 in
set_option maxRecDepth 100000 in
theorem c_X3_isNumberWithin (l : Launch) (G : GG) (h0 y0_0 y0_1 y0_2 y0_3 : Nat) (sz : Nat) (x0_4 : Int32) (x0_5 : Int32) (x0_6 : Int32) (x0_7 : Int32) (x0_8 : Int32) (x0_9 : Int32) (x0_10 : Int32) (x0_11 : Int32) (x0_12 : Int32) (x0_13 : Int32) (x0_14 : Int32) (F : Nat) (b1 : Int32) (b2 : Int32) (b3 : Int32)  (r0 : Int32) (e_x0_4 : Int32) (e_x0_5 : Int32) (e_x0_10 : Int32) (hf : p_X3_isNumberWithin F x0_4 x0_5 x0_7 x0_8 x0_9 x0_10 b1 b2 b3 = some (r0, e_x0_4, e_x0_5, e_x0_10)) : Met l yX3_isNumberWithin (.code yX3_isNumberWithin cX3_isNumberWithin 4 (some .boolean) :: gtbl) ({ frames := 1, cells := 0, slots := 0, locals := 21 } : Room) (PcS G [.ref h0, .int b1, .int b2, .int b3] (wW_X3_isNumberWithin G h0 y0_0 y0_1 y0_2 y0_3 x0_4 x0_5 x0_6 x0_7 x0_8 x0_9 x0_10 x0_11 x0_12 x0_13 x0_14) sz) (QiS G r0 (va_A (wW_X3_isNumberWithin G h0 y0_0 y0_1 y0_2 y0_3 x0_4 x0_5 x0_6 x0_7 x0_8 x0_9 x0_10 x0_11 x0_12 x0_13 x0_14) sz) (wW_X3_isNumberWithin G h0 y0_0 y0_1 y0_2 y0_3 e_x0_4 e_x0_5 x0_6 x0_7 x0_8 x0_9 e_x0_10 x0_11 x0_12 x0_13 x0_14)) 0 0 (va_A (wW_X3_isNumberWithin G h0 y0_0 y0_1 y0_2 y0_3 x0_4 x0_5 x0_6 x0_7 x0_8 x0_9 x0_10 x0_11 x0_12 x0_13 x0_14) sz) := by
  refine met_start (by decide) (Nat.le_of_ble_eq_true rfl) ?_
  intro p e s m below meth c hC hr hlk hnm hK hP hD hA hS hX ls hl
  obtain ⟨hx, hb, hml, hown, ht0⟩ := hC
  have hown : s.vm.findClass RX3 = some m.cls := hown
  generalize va_A (wW_X3_isNumberWithin G h0 y0_0 y0_1 y0_2 y0_3 x0_4 x0_5 x0_6 x0_7 x0_8 x0_9 x0_10 x0_11 x0_12 x0_13 x0_14) sz = A at hD hA hS hX ⊢
  have hl : lv_has ls 4 [(0, .ref h0), (1, .int b1), (2, .int b2), (3, .int b3)] := hl
  have hf : p_X3_isNumberWithin F x0_4 x0_5 x0_7 x0_8 x0_9 x0_10 b1 b2 b3 = some (r0, e_x0_4, e_x0_5, e_x0_10) := hf
  have kJ31 : ∀ (x0_4_31 : Int32) (x0_5_31 : Int32) (x0_10_31 : Int32), p_X3_isNumberWithin_J31 F x0_7 x0_8 x0_9 x0_4_31 x0_5_31 x0_10_31 = some (r0, e_x0_4, e_x0_5, e_x0_10) → ∀ (H : Heap) (locs : List Loc), va_P G.1 vwCl (wW_X3_isNumberWithin G h0 y0_0 y0_1 y0_2 y0_3 x0_4_31 x0_5_31 x0_6 x0_7 x0_8 x0_9 x0_10_31 x0_11 x0_12 x0_13 x0_14) H → va_D A (wW_X3_isNumberWithin G h0 y0_0 y0_1 y0_2 y0_3 x0_4_31 x0_5_31 x0_6 x0_7 x0_8 x0_9 x0_10_31 x0_11 x0_12 x0_13 x0_14) → va_S A s.heap H locs → ∀ ls : Array Slot, lv_has ls 4 [(0, .ref h0)] → W p l e ({ frames := 1, cells := 0, slots := 0, locals := 21 } : Room) s m (List.toArray [.ref h0, .int b1, .int b2, .int b3]) below meth c H locs 0 0 (MQ below (QiS G r0 A (wW_X3_isNumberWithin G h0 y0_0 y0_1 y0_2 y0_3 e_x0_4 e_x0_5 x0_6 x0_7 x0_8 x0_9 e_x0_10 x0_11 x0_12 x0_13 x0_14)) (List.toArray [.ref h0, .int b1, .int b2, .int b3]) s 0 0 A) (F0 m 31 ls []) := by
    intro x0_4_31 x0_5_31 x0_10_31 hf H locs hP hD hS ls hl
    refine lv_aload_n hx hb dX3_isNumberWithin_31 rfl (lv_at hl 0 rfl) ?_
    refine lv_iconst (v := (2 : Int32)) hx hb dX3_isNumberWithin_32 (by decide) ?_
    obtain ⟨⟨r_33_0_x0_4, r_33_0_x0_5⟩, hc_r_33_0, hf⟩ := of_bnd hf
    refine cl_Vv (w2 := (wW_X3_isNumberWithin G h0 y0_0 y0_1 y0_2 y0_3 r_33_0_x0_4 r_33_0_x0_5 x0_6 x0_7 x0_8 x0_9 x0_10_31 x0_11 x0_12 x0_13 x0_14)) (As := [.int (2 : Int32)]) (rest := []) ⟨hx, hb, hml, hown, ht0⟩ (c_X3_fail l G h0 y0_0 y0_1 y0_2 y0_3 _ x0_4_31 x0_5_31 x0_6 x0_7 x0_8 x0_9 x0_10_31 x0_11 x0_12 x0_13 x0_14 F (2 : Int32) _ _ hc_r_33_0) yk_X3_fail wd_697 ⟨rfl, rfl, by decide, by decide⟩ ⟨Nat.le_refl _, Nat.le_refl _⟩ hX hK hP hD hS hA [0] [] [0] (va_recv hK hP (ci := 3) (q0 := 0) rfl rfl) rfl rfl (by decide) rfl rfl rfl rfl rfl hl.1 rfl (Nat.le_of_ble_eq_true rfl) dX3_isNumberWithin_33 (fun H locs hP hD hS => ?_)
    refine lv_iconst (v := (0 : Int32)) hx hb dX3_isNumberWithin_36 (by decide) ?_
    cases hf
    exact ret_z hx hb hr hlk hK hP hD hS (by decide) dX3_isNumberWithin_37
  refine lv_aload_n hx hb dX3_isNumberWithin_0 rfl (lv_at hl 0 rfl) ?_
  refine va_get (ci := 3) (v := .int x0_8) (C := RX3) (T := TX3) (N := 15) hx hb ht0 iX3 hown hK hP 0 rfl rfl 8 (by decide) (ht0 _ wd_261) (fun _ h9 => h9) rfl dX3_isNumberWithin_1 ?_
  refine lv_iconst (v := (2 : Int32)) hx hb dX3_isNumberWithin_4 (by decide) ?_
  refine lv_icmp_eq (tgt := 15) hx hb dX3_isNumberWithin_5 (by decide) (fun c2 => ?_) (fun c2 => ?_)
  · have hf := of_pos hf c2
    refine lv_aload_n hx hb dX3_isNumberWithin_15 rfl (lv_at hl 0 rfl) ?_
    refine va_get (ci := 3) (v := .int x0_9) (C := RX3) (T := TX3) (N := 15) hx hb ht0 iX3 hown hK hP 0 rfl rfl 9 (by decide) (ht0 _ wd_262) (fun _ h9 => h9) rfl dX3_isNumberWithin_16 ?_
    refine lv_iload_n hx hb dX3_isNumberWithin_19 rfl (lv_at hl 1 rfl) ?_
    refine lv_icmp_lt (tgt := 31) hx hb dX3_isNumberWithin_20 (by decide) (fun c3 => ?_) (fun c3 => ?_)
    · have hf := of_pos hf c3
      exact kJ31 _ _ _ hf _ _ hP hD hS _ (lv_sub hl [0] rfl)
    · have hf := of_neg hf c3
      refine lv_aload_n hx hb dX3_isNumberWithin_23 rfl (lv_at hl 0 rfl) ?_
      refine va_get (ci := 3) (v := .int x0_9) (C := RX3) (T := TX3) (N := 15) hx hb ht0 iX3 hown hK hP 0 rfl rfl 9 (by decide) (ht0 _ wd_262) (fun _ h9 => h9) rfl dX3_isNumberWithin_24 ?_
      refine lv_iload_n hx hb dX3_isNumberWithin_27 rfl (lv_at hl 2 rfl) ?_
      refine lv_icmp_le (tgt := 38) hx hb dX3_isNumberWithin_28 (by decide) (fun c4 => ?_) (fun c4 => ?_)
      · have hf := of_pos hf c4
        refine lv_aload_n hx hb dX3_isNumberWithin_38 rfl (lv_at hl 0 rfl) ?_
        refine lv_iload_n hx hb dX3_isNumberWithin_39 rfl (lv_at hl 3 rfl) ?_
        refine va_put (ci := 3) (v := .int b3) (ty := .int) (C := RX3) (T := TX3) (N := 15) hx hb ht0 iX3 tyX3 tyX3_ok nmX3 hown hK hP hD hS 0 rfl rfl 10 (by decide) (ht0 _ wd_263) (fun _ h9 => h9) rfl rfl rfl rfl (Nat.le_of_ble_eq_true rfl) dX3_isNumberWithin_40 (fun H locs hP hD hS => ?_)
        have hP : va_P G.1 vwCl (wW_X3_isNumberWithin G h0 y0_0 y0_1 y0_2 y0_3 x0_4 x0_5 x0_6 x0_7 x0_8 x0_9 b3 x0_11 x0_12 x0_13 x0_14) H := hP
        have hD : va_D A (wW_X3_isNumberWithin G h0 y0_0 y0_1 y0_2 y0_3 x0_4 x0_5 x0_6 x0_7 x0_8 x0_9 b3 x0_11 x0_12 x0_13 x0_14) := hD
        refine lv_iconst (v := (1 : Int32)) hx hb dX3_isNumberWithin_43 (by decide) ?_
        cases hf
        exact ret_z hx hb hr hlk hK hP hD hS (by decide) dX3_isNumberWithin_44
      · have hf := of_neg hf c4
        exact kJ31 _ _ _ hf _ _ hP hD hS _ (lv_sub hl [0] rfl)
  · have hf := of_neg hf c2
    refine lv_aload_n hx hb dX3_isNumberWithin_8 rfl (lv_at hl 0 rfl) ?_
    refine lv_iconst (v := (1 : Int32)) hx hb dX3_isNumberWithin_9 (by decide) ?_
    obtain ⟨⟨r_10_4_x0_4, r_10_4_x0_5⟩, hc_r_10_4, hf⟩ := of_bnd hf
    refine cl_Vv (w2 := (wW_X3_isNumberWithin G h0 y0_0 y0_1 y0_2 y0_3 r_10_4_x0_4 r_10_4_x0_5 x0_6 x0_7 x0_8 x0_9 x0_10 x0_11 x0_12 x0_13 x0_14)) (As := [.int (1 : Int32)]) (rest := []) ⟨hx, hb, hml, hown, ht0⟩ (c_X3_fail l G h0 y0_0 y0_1 y0_2 y0_3 _ x0_4 x0_5 x0_6 x0_7 x0_8 x0_9 x0_10 x0_11 x0_12 x0_13 x0_14 F (1 : Int32) _ _ hc_r_10_4) yk_X3_fail wd_697 ⟨rfl, rfl, by decide, by decide⟩ ⟨Nat.le_refl _, Nat.le_refl _⟩ hX hK hP hD hS hA [0] [] [0] (va_recv hK hP (ci := 3) (q0 := 0) rfl rfl) rfl rfl (by decide) rfl rfl rfl rfl rfl hl.1 rfl (Nat.le_of_ble_eq_true rfl) dX3_isNumberWithin_10 (fun H locs hP hD hS => ?_)
    refine lv_iconst (v := (0 : Int32)) hx hb dX3_isNumberWithin_13 (by decide) ?_
    cases hf
    exact ret_z hx hb hr hlk hK hP hD hS (by decide) dX3_isNumberWithin_14
theorem yk_X3_isNumberWithin : ykV yX3_isNumberWithin RX3 cX3_isNumberWithin 4 (some .boolean) 3 := ⟨wd_730, wd_21, wd_128, wd_731, rfl, by decide +kernel, by decide +kernel, by decide +kernel⟩
theorem dX3_takeColumn_0 : decode cX3_takeColumn 0 = .ok (.aload_n 0, 1) := by decide +kernel
theorem dX3_takeColumn_1 : decode cX3_takeColumn 1 = .ok (.getfield 28, 3) := by decide +kernel
theorem dX3_takeColumn_4 : decode cX3_takeColumn 4 = .ok (.aload_n 0, 1) := by decide +kernel
theorem dX3_takeColumn_5 : decode cX3_takeColumn 5 = .ok (.getfield 123, 3) := by decide +kernel
theorem dX3_takeColumn_8 : decode cX3_takeColumn 8 = .ok (.invokevirtual 188, 3) := by decide +kernel
theorem dX3_takeColumn_11 : decode cX3_takeColumn 11 = .ok (.istore_n 1, 1) := by decide +kernel
theorem dX3_takeColumn_12 : decode cX3_takeColumn 12 = .ok (.aload_n 0, 1) := by decide +kernel
theorem dX3_takeColumn_13 : decode cX3_takeColumn 13 = .ok (.getfield 28, 3) := by decide +kernel
theorem dX3_takeColumn_16 : decode cX3_takeColumn 16 = .ok (.aload_n 0, 1) := by decide +kernel
theorem dX3_takeColumn_17 : decode cX3_takeColumn 17 = .ok (.getfield 123, 3) := by decide +kernel
theorem dX3_takeColumn_20 : decode cX3_takeColumn 20 = .ok (.invokevirtual 191, 3) := by decide +kernel
theorem dX3_takeColumn_23 : decode cX3_takeColumn 23 = .ok (.ifCond .eq 16, 3) := by decide +kernel
theorem dX3_takeColumn_26 : decode cX3_takeColumn 26 = .ok (.iload_n 1, 1) := by decide +kernel
theorem dX3_takeColumn_27 : decode cX3_takeColumn 27 = .ok (.iconst (-1), 1) := by decide +kernel
theorem dX3_takeColumn_28 : decode cX3_takeColumn 28 = .ok (.if_icmp .eq 17, 3) := by decide +kernel
theorem dX3_takeColumn_31 : decode cX3_takeColumn 31 = .ok (.iload_n 1, 1) := by decide +kernel
theorem dX3_takeColumn_32 : decode cX3_takeColumn 32 = .ok (.aload_n 0, 1) := by decide +kernel
theorem dX3_takeColumn_33 : decode cX3_takeColumn 33 = .ok (.getfield 161, 3) := by decide +kernel
theorem dX3_takeColumn_36 : decode cX3_takeColumn 36 = .ok (.if_icmp .eq 9, 3) := by decide +kernel
theorem dX3_takeColumn_39 : decode cX3_takeColumn 39 = .ok (.aload_n 0, 1) := by decide +kernel
theorem dX3_takeColumn_40 : decode cX3_takeColumn 40 = .ok (.iconst 2, 1) := by decide +kernel
theorem dX3_takeColumn_41 : decode cX3_takeColumn 41 = .ok (.invokevirtual 61, 3) := by decide +kernel
theorem dX3_takeColumn_44 : decode cX3_takeColumn 44 = .ok (.return_, 1) := by decide +kernel
theorem dX3_takeColumn_45 : decode cX3_takeColumn 45 = .ok (.aload_n 0, 1) := by decide +kernel
theorem dX3_takeColumn_46 : decode cX3_takeColumn 46 = .ok (.getfield 28, 3) := by decide +kernel
theorem dX3_takeColumn_49 : decode cX3_takeColumn 49 = .ok (.aload_n 0, 1) := by decide +kernel
theorem dX3_takeColumn_50 : decode cX3_takeColumn 50 = .ok (.getfield 161, 3) := by decide +kernel
theorem dX3_takeColumn_53 : decode cX3_takeColumn 53 = .ok (.aload_n 0, 1) := by decide +kernel
theorem dX3_takeColumn_54 : decode cX3_takeColumn 54 = .ok (.getfield 123, 3) := by decide +kernel
theorem dX3_takeColumn_57 : decode cX3_takeColumn 57 = .ok (.invokevirtual 194, 3) := by decide +kernel
theorem dX3_takeColumn_60 : decode cX3_takeColumn 60 = .ok (.return_, 1) := by decide +kernel
def wW_X3_takeColumn (G : GG) (h0 h1 h2 h3 h4 y0_0 y0_1 y0_3 : Nat) (x0_4 : Int32) (x0_5 : Int32) (x0_6 : Int32) (x0_7 : Int32) (x0_8 : Int32) (x0_9 : Int32) (x0_10 : Int32) (x0_11 : Int32) (x0_12 : Int32) (x0_13 : Int32) (x0_14 : Int32) (x1_0 : Int32) (x1_1 : Int32) (x1_2 : Int32) (a2 : Nat → Int32) (a3 : Nat → Int32) (a4 : Nat → Int32) : va_W := [(h0, .inr (3, [.ref y0_0, .ref y0_1, .ref h1, .ref y0_3, .int x0_4, .int x0_5, .int x0_6, .int x0_7, .int x0_8, .int x0_9, .int x0_10, .int x0_11, .int x0_12, .int x0_13, .int x0_14])), (h1, .inr (1, [.int x1_0, .int x1_1, .int x1_2, .ref h2, .ref h3, .ref h4])), (h2, .inl (G.2.1, 32, .inl a2)), (h3, .inl (G.2.1, 256, .inl a3)), (h4, .inl (G.2.1, 256, .inl a4))]
set_option maxHeartbeats 4000000 in
set_option maxRecDepth 100000 in
theorem c_X3_takeColumn (l : Launch) (G : GG) (h0 h1 h2 h3 h4 y0_0 y0_1 y0_3 : Nat) (sz : Nat) (x0_4 : Int32) (x0_5 : Int32) (x0_6 : Int32) (x0_7 : Int32) (x0_8 : Int32) (x0_9 : Int32) (x0_10 : Int32) (x0_11 : Int32) (x0_12 : Int32) (x0_13 : Int32) (x0_14 : Int32) (x1_0 : Int32) (x1_1 : Int32) (x1_2 : Int32) (a2 : Nat → Int32) (a3 : Nat → Int32) (a4 : Nat → Int32) (F : Nat)   (e_x0_4 : Int32) (e_x0_5 : Int32) (e_a2 : Nat → Int32) (e_a3 : Nat → Int32) (e_a4 : Nat → Int32) (hf : p_X3_takeColumn F x0_4 x0_5 x0_7 x0_9 x0_14 x1_0 x1_1 a2 a3 a4  = some (e_x0_4, e_x0_5, e_a2, e_a3, e_a4)) : Met l yX3_takeColumn (.code yX3_takeColumn cX3_takeColumn 2 none :: gtbl) ({ frames := 3, cells := 0, slots := 0, locals := 66 } : Room) (PcS G [.ref h0] (wW_X3_takeColumn G h0 h1 h2 h3 h4 y0_0 y0_1 y0_3 x0_4 x0_5 x0_6 x0_7 x0_8 x0_9 x0_10 x0_11 x0_12 x0_13 x0_14 x1_0 x1_1 x1_2 a2 a3 a4) sz) (QvS G (va_A (wW_X3_takeColumn G h0 h1 h2 h3 h4 y0_0 y0_1 y0_3 x0_4 x0_5 x0_6 x0_7 x0_8 x0_9 x0_10 x0_11 x0_12 x0_13 x0_14 x1_0 x1_1 x1_2 a2 a3 a4) sz) (wW_X3_takeColumn G h0 h1 h2 h3 h4 y0_0 y0_1 y0_3 e_x0_4 e_x0_5 x0_6 x0_7 x0_8 x0_9 x0_10 x0_11 x0_12 x0_13 x0_14 x1_0 x1_1 x1_2 e_a2 e_a3 e_a4)) 0 0 (va_A (wW_X3_takeColumn G h0 h1 h2 h3 h4 y0_0 y0_1 y0_3 x0_4 x0_5 x0_6 x0_7 x0_8 x0_9 x0_10 x0_11 x0_12 x0_13 x0_14 x1_0 x1_1 x1_2 a2 a3 a4) sz) := by
  refine met_start (by decide) (Nat.le_of_ble_eq_true rfl) ?_
  intro p e s m below meth c hC hr hlk hnm hK hP hD hA hS hX ls hl
  obtain ⟨hx, hb, hml, hown, ht0⟩ := hC
  have hown : s.vm.findClass RX3 = some m.cls := hown
  generalize va_A (wW_X3_takeColumn G h0 h1 h2 h3 h4 y0_0 y0_1 y0_3 x0_4 x0_5 x0_6 x0_7 x0_8 x0_9 x0_10 x0_11 x0_12 x0_13 x0_14 x1_0 x1_1 x1_2 a2 a3 a4) sz = A at hD hA hS hX ⊢
  have hl : lv_has ls 2 [(0, .ref h0)] := hl
  have hf : p_X3_takeColumn F x0_4 x0_5 x0_7 x0_9 x0_14 x1_0 x1_1 a2 a3 a4  = some (e_x0_4, e_x0_5, e_a2, e_a3, e_a4) := hf
  have kJ39 : ∀ (x0_4_39 : Int32) (x0_5_39 : Int32) (a2_39 : Nat → Int32) (a3_39 : Nat → Int32) (a4_39 : Nat → Int32), p_X3_takeColumn_J39 F x0_7 x0_9 x0_14 x1_0 x1_1 x0_4_39 x0_5_39 a2_39 a3_39 a4_39 = some (e_x0_4, e_x0_5, e_a2, e_a3, e_a4) → ∀ (H : Heap) (locs : List Loc), va_P G.1 vwCl (wW_X3_takeColumn G h0 h1 h2 h3 h4 y0_0 y0_1 y0_3 x0_4_39 x0_5_39 x0_6 x0_7 x0_8 x0_9 x0_10 x0_11 x0_12 x0_13 x0_14 x1_0 x1_1 x1_2 a2_39 a3_39 a4_39) H → va_D A (wW_X3_takeColumn G h0 h1 h2 h3 h4 y0_0 y0_1 y0_3 x0_4_39 x0_5_39 x0_6 x0_7 x0_8 x0_9 x0_10 x0_11 x0_12 x0_13 x0_14 x1_0 x1_1 x1_2 a2_39 a3_39 a4_39) → va_S A s.heap H locs → ∀ ls : Array Slot, lv_has ls 2 [(0, .ref h0)] → W p l e ({ frames := 3, cells := 0, slots := 0, locals := 66 } : Room) s m (List.toArray [.ref h0]) below meth c H locs 0 0 (MQ below (QvS G A (wW_X3_takeColumn G h0 h1 h2 h3 h4 y0_0 y0_1 y0_3 e_x0_4 e_x0_5 x0_6 x0_7 x0_8 x0_9 x0_10 x0_11 x0_12 x0_13 x0_14 x1_0 x1_1 x1_2 e_a2 e_a3 e_a4)) (List.toArray [.ref h0]) s 0 0 A) (F0 m 39 ls []) := by
    intro x0_4_39 x0_5_39 a2_39 a3_39 a4_39 hf H locs hP hD hS ls hl
    refine lv_aload_n hx hb dX3_takeColumn_39 rfl (lv_at hl 0 rfl) ?_
    refine lv_iconst (v := (2 : Int32)) hx hb dX3_takeColumn_40 (by decide) ?_
    obtain ⟨⟨r_41_0_x0_4, r_41_0_x0_5⟩, hc_r_41_0, hf⟩ := of_bnd hf
    refine cl_Vv (w2 := (wW_X3_takeColumn G h0 h1 h2 h3 h4 y0_0 y0_1 y0_3 r_41_0_x0_4 r_41_0_x0_5 x0_6 x0_7 x0_8 x0_9 x0_10 x0_11 x0_12 x0_13 x0_14 x1_0 x1_1 x1_2 a2_39 a3_39 a4_39)) (As := [.int (2 : Int32)]) (rest := []) ⟨hx, hb, hml, hown, ht0⟩ (c_X3_fail l G h0 y0_0 y0_1 h1 y0_3 _ x0_4_39 x0_5_39 x0_6 x0_7 x0_8 x0_9 x0_10 x0_11 x0_12 x0_13 x0_14 F (2 : Int32) _ _ hc_r_41_0) yk_X3_fail wd_697 ⟨rfl, rfl, by decide, by decide⟩ ⟨Nat.le_refl _, Nat.le_refl _⟩ hX hK hP hD hS hA [0] [1, 2, 3, 4] [4, 0, 1, 2, 3] (va_recv hK hP (ci := 3) (q0 := 0) rfl rfl) rfl rfl (by decide) rfl rfl rfl rfl rfl hl.1 rfl (Nat.le_of_ble_eq_true rfl) dX3_takeColumn_41 (fun H locs hP hD hS => ?_)
    cases hf
    exact ret_v hx hb hr hlk hK hP hD hS dX3_takeColumn_44
  have kJ45 : ∀ (x0_4_45 : Int32) (x0_5_45 : Int32) (a2_45 : Nat → Int32) (a3_45 : Nat → Int32) (a4_45 : Nat → Int32), p_X3_takeColumn_J45 F x0_7 x0_9 x0_14 x1_0 x1_1 x0_4_45 x0_5_45 a2_45 a3_45 a4_45 = some (e_x0_4, e_x0_5, e_a2, e_a3, e_a4) → ∀ (H : Heap) (locs : List Loc), va_P G.1 vwCl (wW_X3_takeColumn G h0 h1 h2 h3 h4 y0_0 y0_1 y0_3 x0_4_45 x0_5_45 x0_6 x0_7 x0_8 x0_9 x0_10 x0_11 x0_12 x0_13 x0_14 x1_0 x1_1 x1_2 a2_45 a3_45 a4_45) H → va_D A (wW_X3_takeColumn G h0 h1 h2 h3 h4 y0_0 y0_1 y0_3 x0_4_45 x0_5_45 x0_6 x0_7 x0_8 x0_9 x0_10 x0_11 x0_12 x0_13 x0_14 x1_0 x1_1 x1_2 a2_45 a3_45 a4_45) → va_S A s.heap H locs → ∀ ls : Array Slot, lv_has ls 2 [(0, .ref h0)] → W p l e ({ frames := 3, cells := 0, slots := 0, locals := 66 } : Room) s m (List.toArray [.ref h0]) below meth c H locs 0 0 (MQ below (QvS G A (wW_X3_takeColumn G h0 h1 h2 h3 h4 y0_0 y0_1 y0_3 e_x0_4 e_x0_5 x0_6 x0_7 x0_8 x0_9 x0_10 x0_11 x0_12 x0_13 x0_14 x1_0 x1_1 x1_2 e_a2 e_a3 e_a4)) (List.toArray [.ref h0]) s 0 0 A) (F0 m 45 ls []) := by
    intro x0_4_45 x0_5_45 a2_45 a3_45 a4_45 hf H locs hP hD hS ls hl
    refine lv_aload_n hx hb dX3_takeColumn_45 rfl (lv_at hl 0 rfl) ?_
    refine va_get (ci := 3) (v := .ref h1) (C := RX3) (T := TX3) (N := 15) hx hb ht0 iX3 hown hK hP 0 rfl rfl 2 (by decide) (ht0 _ wd_251) (fun _ h9 => h9) rfl dX3_takeColumn_46 ?_
    refine lv_aload_n hx hb dX3_takeColumn_49 rfl (lv_at hl 0 rfl) ?_
    refine va_get (ci := 3) (v := .int x0_14) (C := RX3) (T := TX3) (N := 15) hx hb ht0 iX3 hown hK hP 0 rfl rfl 14 (by decide) (ht0 _ wd_267) (fun _ h9 => h9) rfl dX3_takeColumn_50 ?_
    refine lv_aload_n hx hb dX3_takeColumn_53 rfl (lv_at hl 0 rfl) ?_
    refine va_get (ci := 3) (v := .int x0_9) (C := RX3) (T := TX3) (N := 15) hx hb ht0 iX3 hown hK hP 0 rfl rfl 9 (by decide) (ht0 _ wd_262) (fun _ h9 => h9) rfl dX3_takeColumn_54 ?_
    obtain ⟨⟨r_57_1_a1, r_57_1_a2, r_57_1_a3⟩, hc_r_57_1, hf⟩ := of_bnd hf
    refine cl_Vv (w2 := (wW_X3_takeColumn G h0 h1 h2 h3 h4 y0_0 y0_1 y0_3 x0_4_45 x0_5_45 x0_6 x0_7 x0_8 x0_9 x0_10 x0_11 x0_12 x0_13 x0_14 x1_0 x1_1 x1_2 r_57_1_a1 r_57_1_a2 r_57_1_a3)) (As := [.int x0_14, .int x0_9]) (rest := []) ⟨hx, hb, hml, hown, ht0⟩ (c_X1_giveColumn l G h1 h2 h3 h4 _ x1_0 x1_1 x1_2 a2_45 a3_45 a4_45 F x0_14 x0_9 _ _ _ hc_r_57_1) yk_X1_giveColumn wd_745 ⟨rfl, rfl, by decide, by decide⟩ ⟨Nat.le_refl _, Nat.le_refl _⟩ hX hK hP hD hS hA [1, 2, 3, 4] [0] [0, 1, 2, 3, 4] (va_recv hK hP (ci := 1) (q0 := 1) rfl rfl) rfl rfl (by decide) rfl rfl rfl rfl rfl hl.1 rfl (Nat.le_of_ble_eq_true rfl) dX3_takeColumn_57 (fun H locs hP hD hS => ?_)
    cases hf
    exact ret_v hx hb hr hlk hK hP hD hS dX3_takeColumn_60
  refine lv_aload_n hx hb dX3_takeColumn_0 rfl (lv_at hl 0 rfl) ?_
  refine va_get (ci := 3) (v := .ref h1) (C := RX3) (T := TX3) (N := 15) hx hb ht0 iX3 hown hK hP 0 rfl rfl 2 (by decide) (ht0 _ wd_251) (fun _ h9 => h9) rfl dX3_takeColumn_1 ?_
  refine lv_aload_n hx hb dX3_takeColumn_4 rfl (lv_at hl 0 rfl) ?_
  refine va_get (ci := 3) (v := .int x0_9) (C := RX3) (T := TX3) (N := 15) hx hb ht0 iX3 hown hK hP 0 rfl rfl 9 (by decide) (ht0 _ wd_262) (fun _ h9 => h9) rfl dX3_takeColumn_5 ?_
  obtain ⟨r_8_2, hc_r_8_2, hf⟩ := of_bnd hf
  refine cl_Vi (w2 := (wW_X3_takeColumn G h0 h1 h2 h3 h4 y0_0 y0_1 y0_3 x0_4 x0_5 x0_6 x0_7 x0_8 x0_9 x0_10 x0_11 x0_12 x0_13 x0_14 x1_0 x1_1 x1_2 a2 a3 a4)) (As := [.int x0_9]) (rest := []) ⟨hx, hb, hml, hown, ht0⟩ (c_X1_placeWith l G h1 h3 h2 h4 _ x1_0 x1_1 x1_2 a3 F x0_9 _ hc_r_8_2) yk_X1_placeWith wd_736 ⟨rfl, rfl, by decide, by decide⟩ ⟨Nat.le_refl _, Nat.le_refl _⟩ hX hK hP hD hS hA [1, 3] [0, 2, 4] [0, 3, 1, 4, 2] (va_recv hK hP (ci := 1) (q0 := 1) rfl rfl) rfl rfl (by decide) rfl rfl rfl rfl rfl hl.1 rfl (Nat.le_of_ble_eq_true rfl) dX3_takeColumn_8 (fun H locs hP hD hS => ?_)
  refine lv_istore_n (lv' := [(1, .int r_8_2), (0, .ref h0)]) hx hb dX3_takeColumn_11 rfl hl (by decide) rfl (fun ls hl => ?_)
  refine lv_aload_n hx hb dX3_takeColumn_12 rfl (lv_at hl 1 rfl) ?_
  refine va_get (ci := 3) (v := .ref h1) (C := RX3) (T := TX3) (N := 15) hx hb ht0 iX3 hown hK hP 0 rfl rfl 2 (by decide) (ht0 _ wd_251) (fun _ h9 => h9) rfl dX3_takeColumn_13 ?_
  refine lv_aload_n hx hb dX3_takeColumn_16 rfl (lv_at hl 1 rfl) ?_
  refine va_get (ci := 3) (v := .int x0_9) (C := RX3) (T := TX3) (N := 15) hx hb ht0 iX3 hown hK hP 0 rfl rfl 9 (by decide) (ht0 _ wd_262) (fun _ h9 => h9) rfl dX3_takeColumn_17 ?_
  obtain ⟨r_20_3, hc_r_20_3, hf⟩ := of_bnd hf
  refine cl_Vi (w2 := (wW_X3_takeColumn G h0 h1 h2 h3 h4 y0_0 y0_1 y0_3 x0_4 x0_5 x0_6 x0_7 x0_8 x0_9 x0_10 x0_11 x0_12 x0_13 x0_14 x1_0 x1_1 x1_2 a2 a3 a4)) (As := [.int x0_9]) (rest := []) ⟨hx, hb, hml, hown, ht0⟩ (c_X1_isDataColumn l G h1 h2 h3 h4 _ x1_0 x1_1 x1_2 F x0_9 _ hc_r_20_3) yk_X1_isDataColumn wd_740 ⟨rfl, rfl, by decide, by decide⟩ ⟨Nat.le_refl _, Nat.le_refl _⟩ hX hK hP hD hS hA [1] [0, 2, 3, 4] [0, 4, 1, 2, 3] (va_recv hK hP (ci := 1) (q0 := 1) rfl rfl) rfl rfl (by decide) rfl rfl rfl rfl rfl hl.1 rfl (Nat.le_of_ble_eq_true rfl) dX3_takeColumn_20 (fun H locs hP hD hS => ?_)
  refine lv_if_eq (tgt := 39) hx hb dX3_takeColumn_23 (by decide) (fun c5 => ?_) (fun c5 => ?_)
  · have hf := of_pos hf c5
    exact kJ39 _ _ _ _ _ hf _ _ hP hD hS _ (lv_sub hl [1] rfl)
  · have hf := of_neg hf c5
    refine lv_iload_n hx hb dX3_takeColumn_26 rfl (lv_at hl 0 rfl) ?_
    refine lv_iconst (v := (-1 : Int32)) hx hb dX3_takeColumn_27 (by decide) ?_
    refine lv_icmp_eq (tgt := 45) hx hb dX3_takeColumn_28 (by decide) (fun c6 => ?_) (fun c6 => ?_)
    · have hf := of_pos hf c6
      exact kJ45 _ _ _ _ _ hf _ _ hP hD hS _ (lv_sub hl [1] rfl)
    · have hf := of_neg hf c6
      refine lv_iload_n hx hb dX3_takeColumn_31 rfl (lv_at hl 0 rfl) ?_
      refine lv_aload_n hx hb dX3_takeColumn_32 rfl (lv_at hl 1 rfl) ?_
      refine va_get (ci := 3) (v := .int x0_14) (C := RX3) (T := TX3) (N := 15) hx hb ht0 iX3 hown hK hP 0 rfl rfl 14 (by decide) (ht0 _ wd_267) (fun _ h9 => h9) rfl dX3_takeColumn_33 ?_
      refine lv_icmp_eq (tgt := 45) hx hb dX3_takeColumn_36 (by decide) (fun c7 => ?_) (fun c7 => ?_)
      · have hf := of_pos hf c7
        exact kJ45 _ _ _ _ _ hf _ _ hP hD hS _ (lv_sub hl [1] rfl)
      · have hf := of_neg hf c7
        exact kJ39 _ _ _ _ _ hf _ _ hP hD hS _ (lv_sub hl [1] rfl)
theorem yk_X3_takeColumn : ykV yX3_takeColumn RX3 cX3_takeColumn 2 none 0 := ⟨wd_734, wd_22, wd_128, wd_735, rfl, by decide +kernel, by decide +kernel, by decide +kernel⟩
theorem dX3_takeToken_0 : decode cX3_takeToken 0 = .ok (.aload_n 0, 1) := by decide +kernel
theorem dX3_takeToken_1 : decode cX3_takeToken 1 = .ok (.getfield 68, 3) := by decide +kernel
theorem dX3_takeToken_4 : decode cX3_takeToken 4 = .ok (.tableswitch 191 0 7 #[48, 55, 69, 94, 62, 119, 149, 168], 48) := by decide +kernel
theorem dX3_takeToken_52 : decode cX3_takeToken 52 = .ok (.aload_n 0, 1) := by decide +kernel
theorem dX3_takeToken_53 : decode cX3_takeToken 53 = .ok (.invokevirtual 142, 3) := by decide +kernel
theorem dX3_takeToken_56 : decode cX3_takeToken 56 = .ok (.goto 168, 3) := by decide +kernel
theorem dX3_takeToken_59 : decode cX3_takeToken 59 = .ok (.aload_n 0, 1) := by decide +kernel
theorem dX3_takeToken_60 : decode cX3_takeToken 60 = .ok (.invokevirtual 145, 3) := by decide +kernel
theorem dX3_takeToken_63 : decode cX3_takeToken 63 = .ok (.goto 161, 3) := by decide +kernel
theorem dX3_takeToken_66 : decode cX3_takeToken 66 = .ok (.aload_n 0, 1) := by decide +kernel
theorem dX3_takeToken_67 : decode cX3_takeToken 67 = .ok (.invokevirtual 148, 3) := by decide +kernel
theorem dX3_takeToken_70 : decode cX3_takeToken 70 = .ok (.goto 154, 3) := by decide +kernel
theorem dX3_takeToken_73 : decode cX3_takeToken 73 = .ok (.aload_n 0, 1) := by decide +kernel
theorem dX3_takeToken_74 : decode cX3_takeToken 74 = .ok (.iconst 4, 1) := by decide +kernel
theorem dX3_takeToken_75 : decode cX3_takeToken 75 = .ok (.bipush 24, 2) := by decide +kernel
theorem dX3_takeToken_77 : decode cX3_takeToken 77 = .ok (.iconst 1, 1) := by decide +kernel
theorem dX3_takeToken_78 : decode cX3_takeToken 78 = .ok (.invokevirtual 151, 3) := by decide +kernel
theorem dX3_takeToken_81 : decode cX3_takeToken 81 = .ok (.ifCond .eq 143, 3) := by decide +kernel
theorem dX3_takeToken_84 : decode cX3_takeToken 84 = .ok (.aload_n 0, 1) := by decide +kernel
theorem dX3_takeToken_85 : decode cX3_takeToken 85 = .ok (.getfield 28, 3) := by decide +kernel
theorem dX3_takeToken_88 : decode cX3_takeToken 88 = .ok (.aload_n 0, 1) := by decide +kernel
theorem dX3_takeToken_89 : decode cX3_takeToken 89 = .ok (.getfield 123, 3) := by decide +kernel
theorem dX3_takeToken_92 : decode cX3_takeToken 92 = .ok (.putfield 155, 3) := by decide +kernel
theorem dX3_takeToken_95 : decode cX3_takeToken 95 = .ok (.goto 129, 3) := by decide +kernel
theorem dX3_takeToken_98 : decode cX3_takeToken 98 = .ok (.aload_n 0, 1) := by decide +kernel
theorem dX3_takeToken_99 : decode cX3_takeToken 99 = .ok (.iconst 4, 1) := by decide +kernel
theorem dX3_takeToken_100 : decode cX3_takeToken 100 = .ok (.bipush 8, 2) := by decide +kernel
theorem dX3_takeToken_102 : decode cX3_takeToken 102 = .ok (.iconst 1, 1) := by decide +kernel
theorem dX3_takeToken_103 : decode cX3_takeToken 103 = .ok (.invokevirtual 151, 3) := by decide +kernel
theorem dX3_takeToken_106 : decode cX3_takeToken 106 = .ok (.ifCond .eq 118, 3) := by decide +kernel
theorem dX3_takeToken_109 : decode cX3_takeToken 109 = .ok (.aload_n 0, 1) := by decide +kernel
theorem dX3_takeToken_110 : decode cX3_takeToken 110 = .ok (.getfield 28, 3) := by decide +kernel
theorem dX3_takeToken_113 : decode cX3_takeToken 113 = .ok (.aload_n 0, 1) := by decide +kernel
theorem dX3_takeToken_114 : decode cX3_takeToken 114 = .ok (.getfield 123, 3) := by decide +kernel
theorem dX3_takeToken_117 : decode cX3_takeToken 117 = .ok (.putfield 158, 3) := by decide +kernel
theorem dX3_takeToken_120 : decode cX3_takeToken 120 = .ok (.goto 104, 3) := by decide +kernel
theorem dX3_takeToken_123 : decode cX3_takeToken 123 = .ok (.aload_n 0, 1) := by decide +kernel
theorem dX3_takeToken_124 : decode cX3_takeToken 124 = .ok (.iconst 0, 1) := by decide +kernel
theorem dX3_takeToken_125 : decode cX3_takeToken 125 = .ok (.aload_n 0, 1) := by decide +kernel
theorem dX3_takeToken_126 : decode cX3_takeToken 126 = .ok (.getfield 28, 3) := by decide +kernel
theorem dX3_takeToken_129 : decode cX3_takeToken 129 = .ok (.getfield 155, 3) := by decide +kernel
theorem dX3_takeToken_132 : decode cX3_takeToken 132 = .ok (.iconst 1, 1) := by decide +kernel
theorem dX3_takeToken_133 : decode cX3_takeToken 133 = .ok (.isub, 1) := by decide +kernel
theorem dX3_takeToken_134 : decode cX3_takeToken 134 = .ok (.bipush 6, 2) := by decide +kernel
theorem dX3_takeToken_136 : decode cX3_takeToken 136 = .ok (.invokevirtual 151, 3) := by decide +kernel
theorem dX3_takeToken_139 : decode cX3_takeToken 139 = .ok (.ifCond .eq 85, 3) := by decide +kernel
theorem dX3_takeToken_142 : decode cX3_takeToken 142 = .ok (.aload_n 0, 1) := by decide +kernel
theorem dX3_takeToken_143 : decode cX3_takeToken 143 = .ok (.aload_n 0, 1) := by decide +kernel
theorem dX3_takeToken_144 : decode cX3_takeToken 144 = .ok (.getfield 123, 3) := by decide +kernel
theorem dX3_takeToken_147 : decode cX3_takeToken 147 = .ok (.putfield 161, 3) := by decide +kernel
theorem dX3_takeToken_150 : decode cX3_takeToken 150 = .ok (.goto 74, 3) := by decide +kernel
theorem dX3_takeToken_153 : decode cX3_takeToken 153 = .ok (.aload_n 0, 1) := by decide +kernel
theorem dX3_takeToken_154 : decode cX3_takeToken 154 = .ok (.iconst 0, 1) := by decide +kernel
theorem dX3_takeToken_155 : decode cX3_takeToken 155 = .ok (.sipush 255, 3) := by decide +kernel
theorem dX3_takeToken_158 : decode cX3_takeToken 158 = .ok (.iconst 1, 1) := by decide +kernel
theorem dX3_takeToken_159 : decode cX3_takeToken 159 = .ok (.invokevirtual 151, 3) := by decide +kernel
theorem dX3_takeToken_162 : decode cX3_takeToken 162 = .ok (.ifCond .eq 62, 3) := by decide +kernel
theorem dX3_takeToken_165 : decode cX3_takeToken 165 = .ok (.aload_n 0, 1) := by decide +kernel
theorem dX3_takeToken_166 : decode cX3_takeToken 166 = .ok (.invokevirtual 164, 3) := by decide +kernel
theorem dX3_takeToken_169 : decode cX3_takeToken 169 = .ok (.goto 55, 3) := by decide +kernel
theorem dX3_takeToken_172 : decode cX3_takeToken 172 = .ok (.aload_n 0, 1) := by decide +kernel
theorem dX3_takeToken_173 : decode cX3_takeToken 173 = .ok (.iconst 0, 1) := by decide +kernel
theorem dX3_takeToken_174 : decode cX3_takeToken 174 = .ok (.bipush 15, 2) := by decide +kernel
theorem dX3_takeToken_176 : decode cX3_takeToken 176 = .ok (.bipush 8, 2) := by decide +kernel
theorem dX3_takeToken_178 : decode cX3_takeToken 178 = .ok (.invokevirtual 151, 3) := by decide +kernel
theorem dX3_takeToken_181 : decode cX3_takeToken 181 = .ok (.ifCond .eq 43, 3) := by decide +kernel
theorem dX3_takeToken_184 : decode cX3_takeToken 184 = .ok (.aload_n 0, 1) := by decide +kernel
theorem dX3_takeToken_185 : decode cX3_takeToken 185 = .ok (.aload_n 0, 1) := by decide +kernel
theorem dX3_takeToken_186 : decode cX3_takeToken 186 = .ok (.getfield 123, 3) := by decide +kernel
theorem dX3_takeToken_189 : decode cX3_takeToken 189 = .ok (.putfield 161, 3) := by decide +kernel
theorem dX3_takeToken_192 : decode cX3_takeToken 192 = .ok (.goto 32, 3) := by decide +kernel
theorem dX3_takeToken_195 : decode cX3_takeToken 195 = .ok (.aload_n 0, 1) := by decide +kernel
theorem dX3_takeToken_196 : decode cX3_takeToken 196 = .ok (.iconst 0, 1) := by decide +kernel
theorem dX3_takeToken_197 : decode cX3_takeToken 197 = .ok (.aload_n 0, 1) := by decide +kernel
theorem dX3_takeToken_198 : decode cX3_takeToken 198 = .ok (.getfield 28, 3) := by decide +kernel
theorem dX3_takeToken_201 : decode cX3_takeToken 201 = .ok (.invokevirtual 167, 3) := by decide +kernel
theorem dX3_takeToken_204 : decode cX3_takeToken 204 = .ok (.iconst 1, 1) := by decide +kernel
theorem dX3_takeToken_205 : decode cX3_takeToken 205 = .ok (.invokevirtual 151, 3) := by decide +kernel
theorem dX3_takeToken_208 : decode cX3_takeToken 208 = .ok (.ifCond .eq 16, 3) := by decide +kernel
theorem dX3_takeToken_211 : decode cX3_takeToken 211 = .ok (.aload_n 0, 1) := by decide +kernel
theorem dX3_takeToken_212 : decode cX3_takeToken 212 = .ok (.getfield 32, 3) := by decide +kernel
theorem dX3_takeToken_215 : decode cX3_takeToken 215 = .ok (.aload_n 0, 1) := by decide +kernel
theorem dX3_takeToken_216 : decode cX3_takeToken 216 = .ok (.getfield 161, 3) := by decide +kernel
theorem dX3_takeToken_219 : decode cX3_takeToken 219 = .ok (.aload_n 0, 1) := by decide +kernel
theorem dX3_takeToken_220 : decode cX3_takeToken 220 = .ok (.getfield 123, 3) := by decide +kernel
theorem dX3_takeToken_223 : decode cX3_takeToken 223 = .ok (.iastore, 1) := by decide +kernel
theorem dX3_takeToken_224 : decode cX3_takeToken 224 = .ok (.return_, 1) := by decide +kernel
def wW_X3_takeToken (G : GG) (h0 h1 h2 h3 h4 h5 h6 h7 y0_1 : Nat) (x0_4 : Int32) (x0_5 : Int32) (x0_6 : Int32) (x0_7 : Int32) (x0_8 : Int32) (x0_9 : Int32) (x0_10 : Int32) (x0_11 : Int32) (x0_12 : Int32) (x0_13 : Int32) (x0_14 : Int32) (x1_1 : Int32) (a2 : Nat → Int32) (x3_0 : Int32) (x3_1 : Int32) (x3_2 : Int32) (a4 : Nat → Int32) (a5 : Nat → Int32) (a6 : Nat → Int32) (a7 : Nat → Int32) : va_W := [(h0, .inr (3, [.ref h1, .ref y0_1, .ref h3, .ref h7, .int x0_4, .int x0_5, .int x0_6, .int x0_7, .int x0_8, .int x0_9, .int x0_10, .int x0_11, .int x0_12, .int x0_13, .int x0_14])), (h1, .inr (7, [.ref h2, .int x1_1])), (h2, .inl (G.2.1, 600, .inl a2)), (h3, .inr (1, [.int x3_0, .int x3_1, .int x3_2, .ref h4, .ref h5, .ref h6])), (h4, .inl (G.2.1, 32, .inl a4)), (h5, .inl (G.2.1, 256, .inl a5)), (h6, .inl (G.2.1, 256, .inl a6)), (h7, .inl (G.2.1, 16, .inl a7))]
set_option maxHeartbeats 4000000 in
set_option maxRecDepth 100000 in
theorem c_X3_takeToken (l : Launch) (G : GG) (h0 h1 h2 h3 h4 h5 h6 h7 y0_1 : Nat) (sz : Nat) (x0_4 : Int32) (x0_5 : Int32) (x0_6 : Int32) (x0_7 : Int32) (x0_8 : Int32) (x0_9 : Int32) (x0_10 : Int32) (x0_11 : Int32) (x0_12 : Int32) (x0_13 : Int32) (x0_14 : Int32) (x1_1 : Int32) (a2 : Nat → Int32) (x3_0 : Int32) (x3_1 : Int32) (x3_2 : Int32) (a4 : Nat → Int32) (a5 : Nat → Int32) (a6 : Nat → Int32) (a7 : Nat → Int32) (F : Nat)   (e_x0_4 : Int32) (e_x0_5 : Int32) (e_x0_10 : Int32) (e_x0_11 : Int32) (e_x0_12 : Int32) (e_x0_14 : Int32) (e_x3_0 : Int32) (e_x3_1 : Int32) (e_x3_2 : Int32) (e_a4 : Nat → Int32) (e_a5 : Nat → Int32) (e_a6 : Nat → Int32) (e_a7 : Nat → Int32) (hf : p_X3_takeToken F x0_4 x0_5 x0_6 x0_7 x0_8 x0_9 x0_10 x0_11 x0_12 x0_13 x0_14 x1_1 a2 x3_0 x3_1 x3_2 a4 a5 a6 a7  = some (e_x0_4, e_x0_5, e_x0_10, e_x0_11, e_x0_12, e_x0_14, e_x3_0, e_x3_1, e_x3_2, e_a4, e_a5, e_a6, e_a7)) : Met l yX3_takeToken (.code yX3_takeToken cX3_takeToken 1 none :: gtbl) ({ frames := 6, cells := 0, slots := 0, locals := 127 } : Room) (PcS G [.ref h0] (wW_X3_takeToken G h0 h1 h2 h3 h4 h5 h6 h7 y0_1 x0_4 x0_5 x0_6 x0_7 x0_8 x0_9 x0_10 x0_11 x0_12 x0_13 x0_14 x1_1 a2 x3_0 x3_1 x3_2 a4 a5 a6 a7) sz) (QvS G (va_A (wW_X3_takeToken G h0 h1 h2 h3 h4 h5 h6 h7 y0_1 x0_4 x0_5 x0_6 x0_7 x0_8 x0_9 x0_10 x0_11 x0_12 x0_13 x0_14 x1_1 a2 x3_0 x3_1 x3_2 a4 a5 a6 a7) sz) (wW_X3_takeToken G h0 h1 h2 h3 h4 h5 h6 h7 y0_1 e_x0_4 e_x0_5 x0_6 x0_7 x0_8 x0_9 e_x0_10 e_x0_11 e_x0_12 x0_13 e_x0_14 x1_1 a2 e_x3_0 e_x3_1 e_x3_2 e_a4 e_a5 e_a6 e_a7)) 0 0 (va_A (wW_X3_takeToken G h0 h1 h2 h3 h4 h5 h6 h7 y0_1 x0_4 x0_5 x0_6 x0_7 x0_8 x0_9 x0_10 x0_11 x0_12 x0_13 x0_14 x1_1 a2 x3_0 x3_1 x3_2 a4 a5 a6 a7) sz) := by
  refine met_start (by decide) (Nat.le_of_ble_eq_true rfl) ?_
  intro p e s m below meth c hC hr hlk hnm hK hP hD hA hS hX ls hl
  obtain ⟨hx, hb, hml, hown, ht0⟩ := hC
  have hown : s.vm.findClass RX3 = some m.cls := hown
  generalize va_A (wW_X3_takeToken G h0 h1 h2 h3 h4 h5 h6 h7 y0_1 x0_4 x0_5 x0_6 x0_7 x0_8 x0_9 x0_10 x0_11 x0_12 x0_13 x0_14 x1_1 a2 x3_0 x3_1 x3_2 a4 a5 a6 a7) sz = A at hD hA hS hX ⊢
  have hl : lv_has ls 1 [(0, .ref h0)] := hl
  have hf : p_X3_takeToken F x0_4 x0_5 x0_6 x0_7 x0_8 x0_9 x0_10 x0_11 x0_12 x0_13 x0_14 x1_1 a2 x3_0 x3_1 x3_2 a4 a5 a6 a7  = some (e_x0_4, e_x0_5, e_x0_10, e_x0_11, e_x0_12, e_x0_14, e_x3_0, e_x3_1, e_x3_2, e_a4, e_a5, e_a6, e_a7) := hf
  refine lv_aload_n hx hb dX3_takeToken_0 rfl (lv_at hl 0 rfl) ?_
  refine va_get (ci := 3) (v := .int x0_10) (C := RX3) (T := TX3) (N := 15) hx hb ht0 iX3 hown hK hP 0 rfl rfl 10 (by decide) (ht0 _ wd_263) (fun _ h9 => h9) rfl dX3_takeToken_1 ?_
  by_cases c1 : x0_10 = (0 : Int32)
  · have hf := of_pos hf c1
    refine lv_tableIn (off := 48) (tgt := 52) hx hb dX3_takeToken_4 (by rw [c1]; decide) (by rw [c1]; decide) (by rw [c1]; rfl) (by decide) ?_
    refine lv_aload_n hx hb dX3_takeToken_52 rfl (lv_at hl 0 rfl) ?_
    obtain ⟨⟨r_53_1_x0_4, r_53_1_x0_5, r_53_1_x0_10, r_53_1_x0_12, r_53_1_x3_2⟩, hc_r_53_1, hf⟩ := of_bnd hf
    refine cl_Vv (w2 := (wW_X3_takeToken G h0 h1 h2 h3 h4 h5 h6 h7 y0_1 r_53_1_x0_4 r_53_1_x0_5 x0_6 x0_7 x0_8 x0_9 r_53_1_x0_10 x0_11 r_53_1_x0_12 x0_13 x0_14 x1_1 a2 x3_0 x3_1 r_53_1_x3_2 a4 a5 a6 a7)) (As := []) (rest := []) ⟨hx, hb, hml, hown, ht0⟩ (c_X3_takeLine l G h0 h1 h2 h3 y0_1 h7 h4 h5 h6 _ x0_4 x0_5 x0_6 x0_7 x0_8 x0_9 x0_10 x0_11 x0_12 x0_13 x0_14 x1_1 a2 x3_0 x3_1 x3_2 F _ _ _ _ _ hc_r_53_1) yk_X3_takeLine wd_705 ⟨rfl, rfl, by decide, by decide⟩ ⟨Nat.le_refl _, Nat.le_refl _⟩ hX hK hP hD hS hA [0, 1, 2, 3] [4, 5, 6, 7] [4, 5, 6, 7, 0, 1, 2, 3] (va_recv hK hP (ci := 3) (q0 := 0) rfl rfl) rfl rfl (by decide) rfl rfl rfl rfl rfl hl.1 rfl (Nat.le_of_ble_eq_true rfl) dX3_takeToken_53 (fun H locs hP hD hS => ?_)
    refine lv_goto (tgt := 224) hx hb dX3_takeToken_56 (by decide) ?_
    cases hf
    exact ret_v hx hb hr hlk hK hP hD hS dX3_takeToken_224
  have hf := of_neg hf c1
  by_cases c3 : x0_10 = (1 : Int32)
  · have hf := of_pos hf c3
    refine lv_tableIn (off := 55) (tgt := 59) hx hb dX3_takeToken_4 (by rw [c3]; decide) (by rw [c3]; decide) (by rw [c3]; rfl) (by decide) ?_
    refine lv_aload_n hx hb dX3_takeToken_59 rfl (lv_at hl 0 rfl) ?_
    obtain ⟨⟨r_60_3_x0_4, r_60_3_x0_5, r_60_3_x0_10⟩, hc_r_60_3, hf⟩ := of_bnd hf
    refine cl_Vv (w2 := (wW_X3_takeToken G h0 h1 h2 h3 h4 h5 h6 h7 y0_1 r_60_3_x0_4 r_60_3_x0_5 x0_6 x0_7 x0_8 x0_9 r_60_3_x0_10 x0_11 x0_12 x0_13 x0_14 x1_1 a2 x3_0 x3_1 x3_2 a4 a5 a6 a7)) (As := []) (rest := []) ⟨hx, hb, hml, hown, ht0⟩ (c_X3_takeSign l G h0 h1 y0_1 h3 h7 _ x0_4 x0_5 x0_6 x0_7 x0_8 x0_9 x0_10 x0_11 x0_12 x0_13 x0_14 F _ _ _ hc_r_60_3) yk_X3_takeSign wd_717 ⟨rfl, rfl, by decide, by decide⟩ ⟨Nat.le_refl _, Nat.le_refl _⟩ hX hK hP hD hS hA [0] [1, 2, 3, 4, 5, 6, 7] [7, 0, 1, 2, 3, 4, 5, 6] (va_recv hK hP (ci := 3) (q0 := 0) rfl rfl) rfl rfl (by decide) rfl rfl rfl rfl rfl hl.1 rfl (Nat.le_of_ble_eq_true rfl) dX3_takeToken_60 (fun H locs hP hD hS => ?_)
    refine lv_goto (tgt := 224) hx hb dX3_takeToken_63 (by decide) ?_
    cases hf
    exact ret_v hx hb hr hlk hK hP hD hS dX3_takeToken_224
  have hf := of_neg hf c3
  by_cases c5 : x0_10 = (2 : Int32)
  · have hf := of_pos hf c5
    refine lv_tableIn (off := 69) (tgt := 73) hx hb dX3_takeToken_4 (by rw [c5]; decide) (by rw [c5]; decide) (by rw [c5]; rfl) (by decide) ?_
    refine lv_aload_n hx hb dX3_takeToken_73 rfl (lv_at hl 0 rfl) ?_
    refine lv_iconst (v := (4 : Int32)) hx hb dX3_takeToken_74 (by decide) ?_
    refine lv_bipush (v := (24 : Int32)) hx hb dX3_takeToken_75 (by decide) ?_
    refine lv_iconst (v := (1 : Int32)) hx hb dX3_takeToken_77 (by decide) ?_
    obtain ⟨⟨r_78_5, r_78_5_x0_4, r_78_5_x0_5, r_78_5_x0_10⟩, hc_r_78_5, hf⟩ := of_bnd hf
    refine cl_Vi (w2 := (wW_X3_takeToken G h0 h1 h2 h3 h4 h5 h6 h7 y0_1 r_78_5_x0_4 r_78_5_x0_5 x0_6 x0_7 x0_8 x0_9 r_78_5_x0_10 x0_11 x0_12 x0_13 x0_14 x1_1 a2 x3_0 x3_1 x3_2 a4 a5 a6 a7)) (As := [.int (4 : Int32), .int (24 : Int32), .int (1 : Int32)]) (rest := []) ⟨hx, hb, hml, hown, ht0⟩ (c_X3_isNumberWithin l G h0 h1 y0_1 h3 h7 _ x0_4 x0_5 x0_6 x0_7 x0_8 x0_9 x0_10 x0_11 x0_12 x0_13 x0_14 F (4 : Int32) (24 : Int32) (1 : Int32) _ _ _ _ hc_r_78_5) yk_X3_isNumberWithin wd_728 ⟨rfl, rfl, by decide, by decide⟩ ⟨Nat.le_refl _, Nat.le_refl _⟩ hX hK hP hD hS hA [0] [1, 2, 3, 4, 5, 6, 7] [7, 0, 1, 2, 3, 4, 5, 6] (va_recv hK hP (ci := 3) (q0 := 0) rfl rfl) rfl rfl (by decide) rfl rfl rfl rfl rfl hl.1 rfl (Nat.le_of_ble_eq_true rfl) dX3_takeToken_78 (fun H locs hP hD hS => ?_)
    refine lv_if_eq (tgt := 224) hx hb dX3_takeToken_81 (by decide) (fun c7 => ?_) (fun c7 => ?_)
    · have hf := of_pos hf c7
      cases hf
      exact ret_v hx hb hr hlk hK hP hD hS dX3_takeToken_224
    · have hf := of_neg hf c7
      refine lv_aload_n hx hb dX3_takeToken_84 rfl (lv_at hl 0 rfl) ?_
      refine va_get (ci := 3) (v := .ref h3) (C := RX3) (T := TX3) (N := 15) hx hb ht0 iX3 hown hK hP 0 rfl rfl 2 (by decide) (ht0 _ wd_251) (fun _ h9 => h9) rfl dX3_takeToken_85 ?_
      refine lv_aload_n hx hb dX3_takeToken_88 rfl (lv_at hl 0 rfl) ?_
      refine va_get (ci := 3) (v := .int x0_9) (C := RX3) (T := TX3) (N := 15) hx hb ht0 iX3 hown hK hP 0 rfl rfl 9 (by decide) (ht0 _ wd_262) (fun _ h9 => h9) rfl dX3_takeToken_89 ?_
      refine va_put (ci := 1) (v := .int x0_9) (ty := .int) (C := RX1) (T := TX1) (N := 6) hx hb ht0 iX1 tyX1 tyX1_ok nmX1 hown hK hP hD hS 3 rfl rfl 0 (by decide) (ht0 _ wd_213) (fun _ h9 => h9) rfl rfl rfl rfl (Nat.le_of_ble_eq_true rfl) dX3_takeToken_92 (fun H locs hP hD hS => ?_)
      have hP : va_P G.1 vwCl (wW_X3_takeToken G h0 h1 h2 h3 h4 h5 h6 h7 y0_1 r_78_5_x0_4 r_78_5_x0_5 x0_6 x0_7 x0_8 x0_9 r_78_5_x0_10 x0_11 x0_12 x0_13 x0_14 x1_1 a2 x0_9 x3_1 x3_2 a4 a5 a6 a7) H := hP
      have hD : va_D A (wW_X3_takeToken G h0 h1 h2 h3 h4 h5 h6 h7 y0_1 r_78_5_x0_4 r_78_5_x0_5 x0_6 x0_7 x0_8 x0_9 r_78_5_x0_10 x0_11 x0_12 x0_13 x0_14 x1_1 a2 x0_9 x3_1 x3_2 a4 a5 a6 a7) := hD
      refine lv_goto (tgt := 224) hx hb dX3_takeToken_95 (by decide) ?_
      cases hf
      exact ret_v hx hb hr hlk hK hP hD hS dX3_takeToken_224
  have hf := of_neg hf c5
  by_cases c8 : x0_10 = (3 : Int32)
  · have hf := of_pos hf c8
    refine lv_tableIn (off := 94) (tgt := 98) hx hb dX3_takeToken_4 (by rw [c8]; decide) (by rw [c8]; decide) (by rw [c8]; rfl) (by decide) ?_
    refine lv_aload_n hx hb dX3_takeToken_98 rfl (lv_at hl 0 rfl) ?_
    refine lv_iconst (v := (4 : Int32)) hx hb dX3_takeToken_99 (by decide) ?_
    refine lv_bipush (v := (8 : Int32)) hx hb dX3_takeToken_100 (by decide) ?_
    refine lv_iconst (v := (1 : Int32)) hx hb dX3_takeToken_102 (by decide) ?_
    obtain ⟨⟨r_103_8, r_103_8_x0_4, r_103_8_x0_5, r_103_8_x0_10⟩, hc_r_103_8, hf⟩ := of_bnd hf
    refine cl_Vi (w2 := (wW_X3_takeToken G h0 h1 h2 h3 h4 h5 h6 h7 y0_1 r_103_8_x0_4 r_103_8_x0_5 x0_6 x0_7 x0_8 x0_9 r_103_8_x0_10 x0_11 x0_12 x0_13 x0_14 x1_1 a2 x3_0 x3_1 x3_2 a4 a5 a6 a7)) (As := [.int (4 : Int32), .int (8 : Int32), .int (1 : Int32)]) (rest := []) ⟨hx, hb, hml, hown, ht0⟩ (c_X3_isNumberWithin l G h0 h1 y0_1 h3 h7 _ x0_4 x0_5 x0_6 x0_7 x0_8 x0_9 x0_10 x0_11 x0_12 x0_13 x0_14 F (4 : Int32) (8 : Int32) (1 : Int32) _ _ _ _ hc_r_103_8) yk_X3_isNumberWithin wd_728 ⟨rfl, rfl, by decide, by decide⟩ ⟨Nat.le_refl _, Nat.le_refl _⟩ hX hK hP hD hS hA [0] [1, 2, 3, 4, 5, 6, 7] [7, 0, 1, 2, 3, 4, 5, 6] (va_recv hK hP (ci := 3) (q0 := 0) rfl rfl) rfl rfl (by decide) rfl rfl rfl rfl rfl hl.1 rfl (Nat.le_of_ble_eq_true rfl) dX3_takeToken_103 (fun H locs hP hD hS => ?_)
    refine lv_if_eq (tgt := 224) hx hb dX3_takeToken_106 (by decide) (fun c10 => ?_) (fun c10 => ?_)
    · have hf := of_pos hf c10
      cases hf
      exact ret_v hx hb hr hlk hK hP hD hS dX3_takeToken_224
    · have hf := of_neg hf c10
      refine lv_aload_n hx hb dX3_takeToken_109 rfl (lv_at hl 0 rfl) ?_
      refine va_get (ci := 3) (v := .ref h3) (C := RX3) (T := TX3) (N := 15) hx hb ht0 iX3 hown hK hP 0 rfl rfl 2 (by decide) (ht0 _ wd_251) (fun _ h9 => h9) rfl dX3_takeToken_110 ?_
      refine lv_aload_n hx hb dX3_takeToken_113 rfl (lv_at hl 0 rfl) ?_
      refine va_get (ci := 3) (v := .int x0_9) (C := RX3) (T := TX3) (N := 15) hx hb ht0 iX3 hown hK hP 0 rfl rfl 9 (by decide) (ht0 _ wd_262) (fun _ h9 => h9) rfl dX3_takeToken_114 ?_
      refine va_put (ci := 1) (v := .int x0_9) (ty := .int) (C := RX1) (T := TX1) (N := 6) hx hb ht0 iX1 tyX1 tyX1_ok nmX1 hown hK hP hD hS 3 rfl rfl 1 (by decide) (ht0 _ wd_219) (fun _ h9 => h9) rfl rfl rfl rfl (Nat.le_of_ble_eq_true rfl) dX3_takeToken_117 (fun H locs hP hD hS => ?_)
      have hP : va_P G.1 vwCl (wW_X3_takeToken G h0 h1 h2 h3 h4 h5 h6 h7 y0_1 r_103_8_x0_4 r_103_8_x0_5 x0_6 x0_7 x0_8 x0_9 r_103_8_x0_10 x0_11 x0_12 x0_13 x0_14 x1_1 a2 x3_0 x0_9 x3_2 a4 a5 a6 a7) H := hP
      have hD : va_D A (wW_X3_takeToken G h0 h1 h2 h3 h4 h5 h6 h7 y0_1 r_103_8_x0_4 r_103_8_x0_5 x0_6 x0_7 x0_8 x0_9 r_103_8_x0_10 x0_11 x0_12 x0_13 x0_14 x1_1 a2 x3_0 x0_9 x3_2 a4 a5 a6 a7) := hD
      refine lv_goto (tgt := 224) hx hb dX3_takeToken_120 (by decide) ?_
      cases hf
      exact ret_v hx hb hr hlk hK hP hD hS dX3_takeToken_224
  have hf := of_neg hf c8
  by_cases c11 : x0_10 = (4 : Int32)
  · have hf := of_pos hf c11
    refine lv_tableIn (off := 62) (tgt := 66) hx hb dX3_takeToken_4 (by rw [c11]; decide) (by rw [c11]; decide) (by rw [c11]; rfl) (by decide) ?_
    refine lv_aload_n hx hb dX3_takeToken_66 rfl (lv_at hl 0 rfl) ?_
    obtain ⟨⟨r_67_11_x0_4, r_67_11_x0_5, r_67_11_x0_10, r_67_11_x0_11⟩, hc_r_67_11, hf⟩ := of_bnd hf
    refine cl_Vv (w2 := (wW_X3_takeToken G h0 h1 h2 h3 h4 h5 h6 h7 y0_1 r_67_11_x0_4 r_67_11_x0_5 x0_6 x0_7 x0_8 x0_9 r_67_11_x0_10 r_67_11_x0_11 x0_12 x0_13 x0_14 x1_1 a2 x3_0 x3_1 x3_2 a4 a5 a6 a7)) (As := []) (rest := []) ⟨hx, hb, hml, hown, ht0⟩ (c_X3_takeWay l G h0 h1 h2 y0_1 h3 h7 _ x0_4 x0_5 x0_6 x0_7 x0_8 x0_9 x0_10 x0_11 x0_12 x0_13 x0_14 x1_1 a2 F _ _ _ _ hc_r_67_11) yk_X3_takeWay wd_721 ⟨rfl, rfl, by decide, by decide⟩ ⟨Nat.le_refl _, Nat.le_refl _⟩ hX hK hP hD hS hA [0, 1, 2] [3, 4, 5, 6, 7] [5, 6, 7, 0, 1, 2, 3, 4] (va_recv hK hP (ci := 3) (q0 := 0) rfl rfl) rfl rfl (by decide) rfl rfl rfl rfl rfl hl.1 rfl (Nat.le_of_ble_eq_true rfl) dX3_takeToken_67 (fun H locs hP hD hS => ?_)
    refine lv_goto (tgt := 224) hx hb dX3_takeToken_70 (by decide) ?_
    cases hf
    exact ret_v hx hb hr hlk hK hP hD hS dX3_takeToken_224
  have hf := of_neg hf c11
  by_cases c13 : x0_10 = (5 : Int32)
  · have hf := of_pos hf c13
    refine lv_tableIn (off := 119) (tgt := 123) hx hb dX3_takeToken_4 (by rw [c13]; decide) (by rw [c13]; decide) (by rw [c13]; rfl) (by decide) ?_
    refine lv_aload_n hx hb dX3_takeToken_123 rfl (lv_at hl 0 rfl) ?_
    refine lv_iconst (v := (0 : Int32)) hx hb dX3_takeToken_124 (by decide) ?_
    refine lv_aload_n hx hb dX3_takeToken_125 rfl (lv_at hl 0 rfl) ?_
    refine va_get (ci := 3) (v := .ref h3) (C := RX3) (T := TX3) (N := 15) hx hb ht0 iX3 hown hK hP 0 rfl rfl 2 (by decide) (ht0 _ wd_251) (fun _ h9 => h9) rfl dX3_takeToken_126 ?_
    refine va_get (ci := 1) (v := .int x3_0) (C := RX1) (T := TX1) (N := 6) hx hb ht0 iX1 hown hK hP 3 rfl rfl 0 (by decide) (ht0 _ wd_213) (fun _ h9 => h9) rfl dX3_takeToken_129 ?_
    refine lv_iconst (v := (1 : Int32)) hx hb dX3_takeToken_132 (by decide) ?_
    refine lv_isub hx hb dX3_takeToken_133 ?_
    refine lv_bipush (v := (6 : Int32)) hx hb dX3_takeToken_134 (by decide) ?_
    obtain ⟨⟨r_136_13, r_136_13_x0_4, r_136_13_x0_5, r_136_13_x0_10⟩, hc_r_136_13, hf⟩ := of_bnd hf
    refine cl_Vi (w2 := (wW_X3_takeToken G h0 h1 h2 h3 h4 h5 h6 h7 y0_1 r_136_13_x0_4 r_136_13_x0_5 x0_6 x0_7 x0_8 x0_9 r_136_13_x0_10 x0_11 x0_12 x0_13 x0_14 x1_1 a2 x3_0 x3_1 x3_2 a4 a5 a6 a7)) (As := [.int (0 : Int32), .int (x3_0 - (1 : Int32)), .int (6 : Int32)]) (rest := []) ⟨hx, hb, hml, hown, ht0⟩ (c_X3_isNumberWithin l G h0 h1 y0_1 h3 h7 _ x0_4 x0_5 x0_6 x0_7 x0_8 x0_9 x0_10 x0_11 x0_12 x0_13 x0_14 F (0 : Int32) (x3_0 - (1 : Int32)) (6 : Int32) _ _ _ _ hc_r_136_13) yk_X3_isNumberWithin wd_728 ⟨rfl, rfl, by decide, by decide⟩ ⟨Nat.le_refl _, Nat.le_refl _⟩ hX hK hP hD hS hA [0] [1, 2, 3, 4, 5, 6, 7] [7, 0, 1, 2, 3, 4, 5, 6] (va_recv hK hP (ci := 3) (q0 := 0) rfl rfl) rfl rfl (by decide) rfl rfl rfl rfl rfl hl.1 rfl (Nat.le_of_ble_eq_true rfl) dX3_takeToken_136 (fun H locs hP hD hS => ?_)
    refine lv_if_eq (tgt := 224) hx hb dX3_takeToken_139 (by decide) (fun c15 => ?_) (fun c15 => ?_)
    · have hf := of_pos hf c15
      cases hf
      exact ret_v hx hb hr hlk hK hP hD hS dX3_takeToken_224
    · have hf := of_neg hf c15
      refine lv_aload_n hx hb dX3_takeToken_142 rfl (lv_at hl 0 rfl) ?_
      refine lv_aload_n hx hb dX3_takeToken_143 rfl (lv_at hl 0 rfl) ?_
      refine va_get (ci := 3) (v := .int x0_9) (C := RX3) (T := TX3) (N := 15) hx hb ht0 iX3 hown hK hP 0 rfl rfl 9 (by decide) (ht0 _ wd_262) (fun _ h9 => h9) rfl dX3_takeToken_144 ?_
      refine va_put (ci := 3) (v := .int x0_9) (ty := .int) (C := RX3) (T := TX3) (N := 15) hx hb ht0 iX3 tyX3 tyX3_ok nmX3 hown hK hP hD hS 0 rfl rfl 14 (by decide) (ht0 _ wd_267) (fun _ h9 => h9) rfl rfl rfl rfl (Nat.le_of_ble_eq_true rfl) dX3_takeToken_147 (fun H locs hP hD hS => ?_)
      have hP : va_P G.1 vwCl (wW_X3_takeToken G h0 h1 h2 h3 h4 h5 h6 h7 y0_1 r_136_13_x0_4 r_136_13_x0_5 x0_6 x0_7 x0_8 x0_9 r_136_13_x0_10 x0_11 x0_12 x0_13 x0_9 x1_1 a2 x3_0 x3_1 x3_2 a4 a5 a6 a7) H := hP
      have hD : va_D A (wW_X3_takeToken G h0 h1 h2 h3 h4 h5 h6 h7 y0_1 r_136_13_x0_4 r_136_13_x0_5 x0_6 x0_7 x0_8 x0_9 r_136_13_x0_10 x0_11 x0_12 x0_13 x0_9 x1_1 a2 x3_0 x3_1 x3_2 a4 a5 a6 a7) := hD
      refine lv_goto (tgt := 224) hx hb dX3_takeToken_150 (by decide) ?_
      cases hf
      exact ret_v hx hb hr hlk hK hP hD hS dX3_takeToken_224
  have hf := of_neg hf c13
  by_cases c16 : x0_10 = (6 : Int32)
  · have hf := of_pos hf c16
    refine lv_tableIn (off := 149) (tgt := 153) hx hb dX3_takeToken_4 (by rw [c16]; decide) (by rw [c16]; decide) (by rw [c16]; rfl) (by decide) ?_
    refine lv_aload_n hx hb dX3_takeToken_153 rfl (lv_at hl 0 rfl) ?_
    refine lv_iconst (v := (0 : Int32)) hx hb dX3_takeToken_154 (by decide) ?_
    refine lv_sipush (v := (255 : Int32)) hx hb dX3_takeToken_155 (by decide) ?_
    refine lv_iconst (v := (1 : Int32)) hx hb dX3_takeToken_158 (by decide) ?_
    obtain ⟨⟨r_159_16, r_159_16_x0_4, r_159_16_x0_5, r_159_16_x0_10⟩, hc_r_159_16, hf⟩ := of_bnd hf
    refine cl_Vi (w2 := (wW_X3_takeToken G h0 h1 h2 h3 h4 h5 h6 h7 y0_1 r_159_16_x0_4 r_159_16_x0_5 x0_6 x0_7 x0_8 x0_9 r_159_16_x0_10 x0_11 x0_12 x0_13 x0_14 x1_1 a2 x3_0 x3_1 x3_2 a4 a5 a6 a7)) (As := [.int (0 : Int32), .int (255 : Int32), .int (1 : Int32)]) (rest := []) ⟨hx, hb, hml, hown, ht0⟩ (c_X3_isNumberWithin l G h0 h1 y0_1 h3 h7 _ x0_4 x0_5 x0_6 x0_7 x0_8 x0_9 x0_10 x0_11 x0_12 x0_13 x0_14 F (0 : Int32) (255 : Int32) (1 : Int32) _ _ _ _ hc_r_159_16) yk_X3_isNumberWithin wd_728 ⟨rfl, rfl, by decide, by decide⟩ ⟨Nat.le_refl _, Nat.le_refl _⟩ hX hK hP hD hS hA [0] [1, 2, 3, 4, 5, 6, 7] [7, 0, 1, 2, 3, 4, 5, 6] (va_recv hK hP (ci := 3) (q0 := 0) rfl rfl) rfl rfl (by decide) rfl rfl rfl rfl rfl hl.1 rfl (Nat.le_of_ble_eq_true rfl) dX3_takeToken_159 (fun H locs hP hD hS => ?_)
    refine lv_if_eq (tgt := 224) hx hb dX3_takeToken_162 (by decide) (fun c18 => ?_) (fun c18 => ?_)
    · have hf := of_pos hf c18
      cases hf
      exact ret_v hx hb hr hlk hK hP hD hS dX3_takeToken_224
    · have hf := of_neg hf c18
      refine lv_aload_n hx hb dX3_takeToken_165 rfl (lv_at hl 0 rfl) ?_
      obtain ⟨⟨r_166_18_x0_4, r_166_18_x0_5, r_166_18_a2, r_166_18_a3, r_166_18_a4⟩, hc_r_166_18, hf⟩ := of_bnd hf
      refine cl_Vv (w2 := (wW_X3_takeToken G h0 h1 h2 h3 h4 h5 h6 h7 y0_1 r_166_18_x0_4 r_166_18_x0_5 x0_6 x0_7 x0_8 x0_9 r_159_16_x0_10 x0_11 x0_12 x0_13 x0_14 x1_1 a2 x3_0 x3_1 x3_2 r_166_18_a2 r_166_18_a3 r_166_18_a4 a7)) (As := []) (rest := []) ⟨hx, hb, hml, hown, ht0⟩ (c_X3_takeColumn l G h0 h3 h4 h5 h6 h1 y0_1 h7 _ r_159_16_x0_4 r_159_16_x0_5 x0_6 x0_7 x0_8 x0_9 r_159_16_x0_10 x0_11 x0_12 x0_13 x0_14 x3_0 x3_1 x3_2 a4 a5 a6 F _ _ _ _ _ hc_r_166_18) yk_X3_takeColumn wd_732 ⟨rfl, rfl, by decide, by decide⟩ ⟨Nat.le_refl _, Nat.le_refl _⟩ hX hK hP hD hS hA [0, 3, 4, 5, 6] [1, 2, 7] [3, 0, 1, 4, 5, 6, 7, 2] (va_recv hK hP (ci := 3) (q0 := 0) rfl rfl) rfl rfl (by decide) rfl rfl rfl rfl rfl hl.1 rfl (Nat.le_of_ble_eq_true rfl) dX3_takeToken_166 (fun H locs hP hD hS => ?_)
      refine lv_goto (tgt := 224) hx hb dX3_takeToken_169 (by decide) ?_
      cases hf
      exact ret_v hx hb hr hlk hK hP hD hS dX3_takeToken_224
  have hf := of_neg hf c16
  by_cases c20 : x0_10 = (7 : Int32)
  · have hf := of_pos hf c20
    refine lv_tableIn (off := 168) (tgt := 172) hx hb dX3_takeToken_4 (by rw [c20]; decide) (by rw [c20]; decide) (by rw [c20]; rfl) (by decide) ?_
    refine lv_aload_n hx hb dX3_takeToken_172 rfl (lv_at hl 0 rfl) ?_
    refine lv_iconst (v := (0 : Int32)) hx hb dX3_takeToken_173 (by decide) ?_
    refine lv_bipush (v := (15 : Int32)) hx hb dX3_takeToken_174 (by decide) ?_
    refine lv_bipush (v := (8 : Int32)) hx hb dX3_takeToken_176 (by decide) ?_
    obtain ⟨⟨r_178_20, r_178_20_x0_4, r_178_20_x0_5, r_178_20_x0_10⟩, hc_r_178_20, hf⟩ := of_bnd hf
    refine cl_Vi (w2 := (wW_X3_takeToken G h0 h1 h2 h3 h4 h5 h6 h7 y0_1 r_178_20_x0_4 r_178_20_x0_5 x0_6 x0_7 x0_8 x0_9 r_178_20_x0_10 x0_11 x0_12 x0_13 x0_14 x1_1 a2 x3_0 x3_1 x3_2 a4 a5 a6 a7)) (As := [.int (0 : Int32), .int (15 : Int32), .int (8 : Int32)]) (rest := []) ⟨hx, hb, hml, hown, ht0⟩ (c_X3_isNumberWithin l G h0 h1 y0_1 h3 h7 _ x0_4 x0_5 x0_6 x0_7 x0_8 x0_9 x0_10 x0_11 x0_12 x0_13 x0_14 F (0 : Int32) (15 : Int32) (8 : Int32) _ _ _ _ hc_r_178_20) yk_X3_isNumberWithin wd_728 ⟨rfl, rfl, by decide, by decide⟩ ⟨Nat.le_refl _, Nat.le_refl _⟩ hX hK hP hD hS hA [0] [1, 2, 3, 4, 5, 6, 7] [7, 0, 1, 2, 3, 4, 5, 6] (va_recv hK hP (ci := 3) (q0 := 0) rfl rfl) rfl rfl (by decide) rfl rfl rfl rfl rfl hl.1 rfl (Nat.le_of_ble_eq_true rfl) dX3_takeToken_178 (fun H locs hP hD hS => ?_)
    refine lv_if_eq (tgt := 224) hx hb dX3_takeToken_181 (by decide) (fun c22 => ?_) (fun c22 => ?_)
    · have hf := of_pos hf c22
      cases hf
      exact ret_v hx hb hr hlk hK hP hD hS dX3_takeToken_224
    · have hf := of_neg hf c22
      refine lv_aload_n hx hb dX3_takeToken_184 rfl (lv_at hl 0 rfl) ?_
      refine lv_aload_n hx hb dX3_takeToken_185 rfl (lv_at hl 0 rfl) ?_
      refine va_get (ci := 3) (v := .int x0_9) (C := RX3) (T := TX3) (N := 15) hx hb ht0 iX3 hown hK hP 0 rfl rfl 9 (by decide) (ht0 _ wd_262) (fun _ h9 => h9) rfl dX3_takeToken_186 ?_
      refine va_put (ci := 3) (v := .int x0_9) (ty := .int) (C := RX3) (T := TX3) (N := 15) hx hb ht0 iX3 tyX3 tyX3_ok nmX3 hown hK hP hD hS 0 rfl rfl 14 (by decide) (ht0 _ wd_267) (fun _ h9 => h9) rfl rfl rfl rfl (Nat.le_of_ble_eq_true rfl) dX3_takeToken_189 (fun H locs hP hD hS => ?_)
      have hP : va_P G.1 vwCl (wW_X3_takeToken G h0 h1 h2 h3 h4 h5 h6 h7 y0_1 r_178_20_x0_4 r_178_20_x0_5 x0_6 x0_7 x0_8 x0_9 r_178_20_x0_10 x0_11 x0_12 x0_13 x0_9 x1_1 a2 x3_0 x3_1 x3_2 a4 a5 a6 a7) H := hP
      have hD : va_D A (wW_X3_takeToken G h0 h1 h2 h3 h4 h5 h6 h7 y0_1 r_178_20_x0_4 r_178_20_x0_5 x0_6 x0_7 x0_8 x0_9 r_178_20_x0_10 x0_11 x0_12 x0_13 x0_9 x1_1 a2 x3_0 x3_1 x3_2 a4 a5 a6 a7) := hD
      refine lv_goto (tgt := 224) hx hb dX3_takeToken_192 (by decide) ?_
      cases hf
      exact ret_v hx hb hr hlk hK hP hD hS dX3_takeToken_224
  have hf := of_neg hf c20
  refine lv_tableOut (tgt := 195) hx hb dX3_takeToken_4 (by have n0 := lv_neT (a := 0) c1 rfl; have n1 := lv_neT (a := 1) c3 rfl; have n2 := lv_neT (a := 2) c5 rfl; have n3 := lv_neT (a := 3) c8 rfl; have n4 := lv_neT (a := 4) c11 rfl; have n5 := lv_neT (a := 5) c13 rfl; have n6 := lv_neT (a := 6) c16 rfl; have n7 := lv_neT (a := 7) c20 rfl; omega) (by decide) ?_
  refine lv_aload_n hx hb dX3_takeToken_195 rfl (lv_at hl 0 rfl) ?_
  refine lv_iconst (v := (0 : Int32)) hx hb dX3_takeToken_196 (by decide) ?_
  refine lv_aload_n hx hb dX3_takeToken_197 rfl (lv_at hl 0 rfl) ?_
  refine va_get (ci := 3) (v := .ref h3) (C := RX3) (T := TX3) (N := 15) hx hb ht0 iX3 hown hK hP 0 rfl rfl 2 (by decide) (ht0 _ wd_251) (fun _ h9 => h9) rfl dX3_takeToken_198 ?_
  obtain ⟨r_201_22, hc_r_201_22, hf⟩ := of_bnd hf
  refine cl_Vi (w2 := (wW_X3_takeToken G h0 h1 h2 h3 h4 h5 h6 h7 y0_1 x0_4 x0_5 x0_6 x0_7 x0_8 x0_9 x0_10 x0_11 x0_12 x0_13 x0_14 x1_1 a2 x3_0 x3_1 x3_2 a4 a5 a6 a7)) (As := []) (rest := [.int (0 : Int32), .ref h0]) ⟨hx, hb, hml, hown, ht0⟩ (c_X1_dataMask l G h3 h4 h5 h6 _ x3_0 x3_1 x3_2 F _ hc_r_201_22) yk_X1_dataMask wd_750 ⟨rfl, rfl, by decide, by decide⟩ ⟨Nat.le_refl _, Nat.le_refl _⟩ hX hK hP hD hS hA [3] [0, 1, 2, 4, 5, 6, 7] [0, 1, 2, 7, 3, 4, 5, 6] (va_recv hK hP (ci := 1) (q0 := 3) rfl rfl) rfl rfl (by decide) rfl rfl rfl rfl rfl hl.1 rfl (Nat.le_of_ble_eq_true rfl) dX3_takeToken_201 (fun H locs hP hD hS => ?_)
  refine lv_iconst (v := (1 : Int32)) hx hb dX3_takeToken_204 (by decide) ?_
  obtain ⟨⟨r_205_23, r_205_23_x0_4, r_205_23_x0_5, r_205_23_x0_10⟩, hc_r_205_23, hf⟩ := of_bnd hf
  refine cl_Vi (w2 := (wW_X3_takeToken G h0 h1 h2 h3 h4 h5 h6 h7 y0_1 r_205_23_x0_4 r_205_23_x0_5 x0_6 x0_7 x0_8 x0_9 r_205_23_x0_10 x0_11 x0_12 x0_13 x0_14 x1_1 a2 x3_0 x3_1 x3_2 a4 a5 a6 a7)) (As := [.int (0 : Int32), .int r_201_22, .int (1 : Int32)]) (rest := []) ⟨hx, hb, hml, hown, ht0⟩ (c_X3_isNumberWithin l G h0 h1 y0_1 h3 h7 _ x0_4 x0_5 x0_6 x0_7 x0_8 x0_9 x0_10 x0_11 x0_12 x0_13 x0_14 F (0 : Int32) r_201_22 (1 : Int32) _ _ _ _ hc_r_205_23) yk_X3_isNumberWithin wd_728 ⟨rfl, rfl, by decide, by decide⟩ ⟨Nat.le_refl _, Nat.le_refl _⟩ hX hK hP hD hS hA [0] [1, 2, 3, 4, 5, 6, 7] [7, 0, 1, 2, 3, 4, 5, 6] (va_recv hK hP (ci := 3) (q0 := 0) rfl rfl) rfl rfl (by decide) rfl rfl rfl rfl rfl hl.1 rfl (Nat.le_of_ble_eq_true rfl) dX3_takeToken_205 (fun H locs hP hD hS => ?_)
  refine lv_if_eq (tgt := 224) hx hb dX3_takeToken_208 (by decide) (fun c25 => ?_) (fun c25 => ?_)
  · have hf := of_pos hf c25
    cases hf
    exact ret_v hx hb hr hlk hK hP hD hS dX3_takeToken_224
  · have hf := of_neg hf c25
    refine lv_aload_n hx hb dX3_takeToken_211 rfl (lv_at hl 0 rfl) ?_
    refine va_get (ci := 3) (v := .ref h7) (C := RX3) (T := TX3) (N := 15) hx hb ht0 iX3 hown hK hP 0 rfl rfl 3 (by decide) (ht0 _ wd_253) (fun _ h9 => h9) rfl dX3_takeToken_212 ?_
    refine lv_aload_n hx hb dX3_takeToken_215 rfl (lv_at hl 0 rfl) ?_
    refine va_get (ci := 3) (v := .int x0_14) (C := RX3) (T := TX3) (N := 15) hx hb ht0 iX3 hown hK hP 0 rfl rfl 14 (by decide) (ht0 _ wd_267) (fun _ h9 => h9) rfl dX3_takeToken_216 ?_
    refine lv_aload_n hx hb dX3_takeToken_219 rfl (lv_at hl 0 rfl) ?_
    refine va_get (ci := 3) (v := .int x0_9) (C := RX3) (T := TX3) (N := 15) hx hb ht0 iX3 hown hK hP 0 rfl rfl 9 (by decide) (ht0 _ wd_262) (fun _ h9 => h9) rfl dX3_takeToken_220 ?_
    obtain ⟨g26, hf⟩ := of_grd hf
    refine va_iast hx hb hK hP hD hS 7 0 rfl rfl g26 dX3_takeToken_223 (fun H locs hP hD hS => ?_)
    have hP : va_P G.1 vwCl (wW_X3_takeToken G h0 h1 h2 h3 h4 h5 h6 h7 y0_1 r_205_23_x0_4 r_205_23_x0_5 x0_6 x0_7 x0_8 x0_9 r_205_23_x0_10 x0_11 x0_12 x0_13 x0_14 x1_1 a2 x3_0 x3_1 x3_2 a4 a5 a6 (upd a7 x0_14.toNatClampNeg x0_9)) H := hP
    have hD : va_D A (wW_X3_takeToken G h0 h1 h2 h3 h4 h5 h6 h7 y0_1 r_205_23_x0_4 r_205_23_x0_5 x0_6 x0_7 x0_8 x0_9 r_205_23_x0_10 x0_11 x0_12 x0_13 x0_14 x1_1 a2 x3_0 x3_1 x3_2 a4 a5 a6 (upd a7 x0_14.toNatClampNeg x0_9)) := hD
    cases hf
    exact ret_v hx hb hr hlk hK hP hD hS dX3_takeToken_224
theorem yk_X3_takeToken : ykV yX3_takeToken RX3 cX3_takeToken 1 none 0 := ⟨wd_703, wd_16, wd_128, wd_704, rfl, by decide +kernel, by decide +kernel, by decide +kernel⟩
theorem dX3_parse_0 : decode cX3_parse 0 = .ok (.aload_n 0, 1) := by decide +kernel
theorem dX3_parse_1 : decode cX3_parse 1 = .ok (.invokevirtual 36, 3) := by decide +kernel
theorem dX3_parse_4 : decode cX3_parse 4 = .ok (.iconst 0, 1) := by decide +kernel
theorem dX3_parse_5 : decode cX3_parse 5 = .ok (.istore_n 1, 1) := by decide +kernel
theorem dX3_parse_6 : decode cX3_parse 6 = .ok (.iload_n 1, 1) := by decide +kernel
theorem dX3_parse_7 : decode cX3_parse 7 = .ok (.sipush 600, 3) := by decide +kernel
theorem dX3_parse_10 : decode cX3_parse 10 = .ok (.if_icmp .gt 87, 3) := by decide +kernel
theorem dX3_parse_13 : decode cX3_parse 13 = .ok (.aload_n 0, 1) := by decide +kernel
theorem dX3_parse_14 : decode cX3_parse 14 = .ok (.getfield 39, 3) := by decide +kernel
theorem dX3_parse_17 : decode cX3_parse 17 = .ok (.ifCond .ne 80, 3) := by decide +kernel
theorem dX3_parse_20 : decode cX3_parse 20 = .ok (.aload_n 0, 1) := by decide +kernel
theorem dX3_parse_21 : decode cX3_parse 21 = .ok (.invokevirtual 43, 3) := by decide +kernel
theorem dX3_parse_24 : decode cX3_parse 24 = .ok (.aload_n 0, 1) := by decide +kernel
theorem dX3_parse_25 : decode cX3_parse 25 = .ok (.invokevirtual 46, 3) := by decide +kernel
theorem dX3_parse_28 : decode cX3_parse 28 = .ok (.ifCond .eq 37, 3) := by decide +kernel
theorem dX3_parse_31 : decode cX3_parse 31 = .ok (.aload_n 0, 1) := by decide +kernel
theorem dX3_parse_32 : decode cX3_parse 32 = .ok (.aload_n 0, 1) := by decide +kernel
theorem dX3_parse_33 : decode cX3_parse 33 = .ok (.getfield 21, 3) := by decide +kernel
theorem dX3_parse_36 : decode cX3_parse 36 = .ok (.aload_n 0, 1) := by decide +kernel
theorem dX3_parse_37 : decode cX3_parse 37 = .ok (.getfield 28, 3) := by decide +kernel
theorem dX3_parse_40 : decode cX3_parse 40 = .ok (.aload_n 0, 1) := by decide +kernel
theorem dX3_parse_41 : decode cX3_parse 41 = .ok (.getfield 50, 3) := by decide +kernel
theorem dX3_parse_44 : decode cX3_parse 44 = .ok (.invokevirtual 53, 3) := by decide +kernel
theorem dX3_parse_47 : decode cX3_parse 47 = .ok (.putfield 57, 3) := by decide +kernel
theorem dX3_parse_50 : decode cX3_parse 50 = .ok (.aload_n 0, 1) := by decide +kernel
theorem dX3_parse_51 : decode cX3_parse 51 = .ok (.getfield 57, 3) := by decide +kernel
theorem dX3_parse_54 : decode cX3_parse 54 = .ok (.ifCond .ne 11, 3) := by decide +kernel
theorem dX3_parse_57 : decode cX3_parse 57 = .ok (.aload_n 0, 1) := by decide +kernel
theorem dX3_parse_58 : decode cX3_parse 58 = .ok (.iconst 4, 1) := by decide +kernel
theorem dX3_parse_59 : decode cX3_parse 59 = .ok (.invokevirtual 61, 3) := by decide +kernel
theorem dX3_parse_62 : decode cX3_parse 62 = .ok (.goto 35, 3) := by decide +kernel
theorem dX3_parse_65 : decode cX3_parse 65 = .ok (.aload_n 0, 1) := by decide +kernel
theorem dX3_parse_66 : decode cX3_parse 66 = .ok (.getfield 65, 3) := by decide +kernel
theorem dX3_parse_69 : decode cX3_parse 69 = .ok (.ifCond .ne 18, 3) := by decide +kernel
theorem dX3_parse_72 : decode cX3_parse 72 = .ok (.aload_n 0, 1) := by decide +kernel
theorem dX3_parse_73 : decode cX3_parse 73 = .ok (.getfield 68, 3) := by decide +kernel
theorem dX3_parse_76 : decode cX3_parse 76 = .ok (.ifCond .eq 21, 3) := by decide +kernel
theorem dX3_parse_79 : decode cX3_parse 79 = .ok (.aload_n 0, 1) := by decide +kernel
theorem dX3_parse_80 : decode cX3_parse 80 = .ok (.iconst 1, 1) := by decide +kernel
theorem dX3_parse_81 : decode cX3_parse 81 = .ok (.invokevirtual 61, 3) := by decide +kernel
theorem dX3_parse_84 : decode cX3_parse 84 = .ok (.goto 13, 3) := by decide +kernel
theorem dX3_parse_87 : decode cX3_parse 87 = .ok (.aload_n 0, 1) := by decide +kernel
theorem dX3_parse_88 : decode cX3_parse 88 = .ok (.invokevirtual 71, 3) := by decide +kernel
theorem dX3_parse_91 : decode cX3_parse 91 = .ok (.iinc 1 1, 3) := by decide +kernel
theorem dX3_parse_94 : decode cX3_parse 94 = .ok (.goto (-88), 3) := by decide +kernel
theorem dX3_parse_97 : decode cX3_parse 97 = .ok (.aload_n 0, 1) := by decide +kernel
theorem dX3_parse_98 : decode cX3_parse 98 = .ok (.getfield 39, 3) := by decide +kernel
theorem dX3_parse_101 : decode cX3_parse 101 = .ok (.ifCond .ne 7, 3) := by decide +kernel
theorem dX3_parse_104 : decode cX3_parse 104 = .ok (.iconst 1, 1) := by decide +kernel
theorem dX3_parse_105 : decode cX3_parse 105 = .ok (.goto 4, 3) := by decide +kernel
theorem dX3_parse_108 : decode cX3_parse 108 = .ok (.iconst 0, 1) := by decide +kernel
theorem dX3_parse_109 : decode cX3_parse 109 = .ok (.ireturn, 1) := by decide +kernel
def wW_X3_parse (G : GG) (h0 h1 h2 h3 h4 h5 h6 h7 h8 h9 h10 h11 h12 h13 : Nat) (x0_4 : Int32) (x0_5 : Int32) (x0_6 : Int32) (x0_7 : Int32) (x0_8 : Int32) (x0_9 : Int32) (x0_10 : Int32) (x0_11 : Int32) (x0_12 : Int32) (x0_13 : Int32) (x0_14 : Int32) (x1_1 : Int32) (a2 : Nat → Int32) (x3_1 : Int32) (a4 : Nat → Int32) (a5 : Nat → Int32) (a6 : Nat → Int32) (a7 : Nat → Int32) (a8 : Nat → Int32) (x9_0 : Int32) (x9_1 : Int32) (x9_2 : Int32) (a10 : Nat → Int32) (a11 : Nat → Int32) (a12 : Nat → Int32) (a13 : Nat → Int32) : va_W := [(h0, .inr (3, [.ref h1, .ref h3, .ref h9, .ref h13, .int x0_4, .int x0_5, .int x0_6, .int x0_7, .int x0_8, .int x0_9, .int x0_10, .int x0_11, .int x0_12, .int x0_13, .int x0_14])), (h1, .inr (7, [.ref h2, .int x1_1])), (h2, .inl (G.2.1, 600, .inl a2)), (h3, .inr (0, [.ref h4, .int x3_1, .ref h5, .ref h6, .ref h7, .ref h8])), (h4, .inl (G.2.1, 256, .inl a4)), (h5, .inl (G.2.2.1, 256, .inl a5)), (h6, .inl (G.2.2.1, 256, .inl a6)), (h7, .inl (G.2.1, 24, .inl a7)), (h8, .inl (G.2.1, 8, .inl a8)), (h9, .inr (1, [.int x9_0, .int x9_1, .int x9_2, .ref h10, .ref h11, .ref h12])), (h10, .inl (G.2.1, 32, .inl a10)), (h11, .inl (G.2.1, 256, .inl a11)), (h12, .inl (G.2.1, 256, .inl a12)), (h13, .inl (G.2.1, 16, .inl a13))]
set_option maxHeartbeats 4000000 in
set_option maxRecDepth 100000 in
theorem c_X3_parse (l : Launch) (G : GG) (h0 h1 h2 h3 h4 h5 h6 h7 h8 h9 h10 h11 h12 h13 : Nat) (sz : Nat) (x0_4 : Int32) (x0_5 : Int32) (x0_6 : Int32) (x0_7 : Int32) (x0_8 : Int32) (x0_9 : Int32) (x0_10 : Int32) (x0_11 : Int32) (x0_12 : Int32) (x0_13 : Int32) (x0_14 : Int32) (x1_1 : Int32) (a2 : Nat → Int32) (x3_1 : Int32) (a4 : Nat → Int32) (a5 : Nat → Int32) (a6 : Nat → Int32) (a7 : Nat → Int32) (a8 : Nat → Int32) (x9_0 : Int32) (x9_1 : Int32) (x9_2 : Int32) (a10 : Nat → Int32) (a11 : Nat → Int32) (a12 : Nat → Int32) (a13 : Nat → Int32) (F : Nat)   (r0 : Int32) (e_x0_4 : Int32) (e_x0_5 : Int32) (e_x0_6 : Int32) (e_x0_7 : Int32) (e_x0_8 : Int32) (e_x0_9 : Int32) (e_x0_10 : Int32) (e_x0_11 : Int32) (e_x0_12 : Int32) (e_x0_13 : Int32) (e_x0_14 : Int32) (e_x3_1 : Int32) (e_a4 : Nat → Int32) (e_a5 : Nat → Int32) (e_a6 : Nat → Int32) (e_a7 : Nat → Int32) (e_a8 : Nat → Int32) (e_x9_0 : Int32) (e_x9_1 : Int32) (e_x9_2 : Int32) (e_a10 : Nat → Int32) (e_a11 : Nat → Int32) (e_a12 : Nat → Int32) (e_a13 : Nat → Int32) (hf : p_X3_parse F x0_4 x0_5 x0_6 x0_7 x0_8 x0_9 x0_10 x0_11 x0_12 x0_13 x0_14 x1_1 a2 x3_1 a4 a5 a6 a7 a8 x9_0 x9_1 x9_2 a10 a11 a12 a13  = some (r0, e_x0_4, e_x0_5, e_x0_6, e_x0_7, e_x0_8, e_x0_9, e_x0_10, e_x0_11, e_x0_12, e_x0_13, e_x0_14, e_x3_1, e_a4, e_a5, e_a6, e_a7, e_a8, e_x9_0, e_x9_1, e_x9_2, e_a10, e_a11, e_a12, e_a13)) : Met l yX3_parse (.code yX3_parse cX3_parse 2 (some .boolean) :: gtbl) ({ frames := 7, cells := 0, slots := 0, locals := 147 } : Room) (PcS G [.ref h0] (wW_X3_parse G h0 h1 h2 h3 h4 h5 h6 h7 h8 h9 h10 h11 h12 h13 x0_4 x0_5 x0_6 x0_7 x0_8 x0_9 x0_10 x0_11 x0_12 x0_13 x0_14 x1_1 a2 x3_1 a4 a5 a6 a7 a8 x9_0 x9_1 x9_2 a10 a11 a12 a13) sz) (QiS G r0 (va_A (wW_X3_parse G h0 h1 h2 h3 h4 h5 h6 h7 h8 h9 h10 h11 h12 h13 x0_4 x0_5 x0_6 x0_7 x0_8 x0_9 x0_10 x0_11 x0_12 x0_13 x0_14 x1_1 a2 x3_1 a4 a5 a6 a7 a8 x9_0 x9_1 x9_2 a10 a11 a12 a13) sz) (wW_X3_parse G h0 h1 h2 h3 h4 h5 h6 h7 h8 h9 h10 h11 h12 h13 e_x0_4 e_x0_5 e_x0_6 e_x0_7 e_x0_8 e_x0_9 e_x0_10 e_x0_11 e_x0_12 e_x0_13 e_x0_14 x1_1 a2 e_x3_1 e_a4 e_a5 e_a6 e_a7 e_a8 e_x9_0 e_x9_1 e_x9_2 e_a10 e_a11 e_a12 e_a13)) 0 0 (va_A (wW_X3_parse G h0 h1 h2 h3 h4 h5 h6 h7 h8 h9 h10 h11 h12 h13 x0_4 x0_5 x0_6 x0_7 x0_8 x0_9 x0_10 x0_11 x0_12 x0_13 x0_14 x1_1 a2 x3_1 a4 a5 a6 a7 a8 x9_0 x9_1 x9_2 a10 a11 a12 a13) sz) := by
  refine met_start (by decide) (Nat.le_of_ble_eq_true rfl) ?_
  intro p e s m below meth c hC hr hlk hnm hK hP hD hA hS hX ls hl
  obtain ⟨hx, hb, hml, hown, ht0⟩ := hC
  have hown : s.vm.findClass RX3 = some m.cls := hown
  generalize va_A (wW_X3_parse G h0 h1 h2 h3 h4 h5 h6 h7 h8 h9 h10 h11 h12 h13 x0_4 x0_5 x0_6 x0_7 x0_8 x0_9 x0_10 x0_11 x0_12 x0_13 x0_14 x1_1 a2 x3_1 a4 a5 a6 a7 a8 x9_0 x9_1 x9_2 a10 a11 a12 a13) sz = A at hD hA hS hX ⊢
  have hl : lv_has ls 2 [(0, .ref h0)] := hl
  have hf : p_X3_parse F x0_4 x0_5 x0_6 x0_7 x0_8 x0_9 x0_10 x0_11 x0_12 x0_13 x0_14 x1_1 a2 x3_1 a4 a5 a6 a7 a8 x9_0 x9_1 x9_2 a10 a11 a12 a13  = some (r0, e_x0_4, e_x0_5, e_x0_6, e_x0_7, e_x0_8, e_x0_9, e_x0_10, e_x0_11, e_x0_12, e_x0_13, e_x0_14, e_x3_1, e_a4, e_a5, e_a6, e_a7, e_a8, e_x9_0, e_x9_1, e_x9_2, e_a10, e_a11, e_a12, e_a13) := hf
  have kJ97 : ∀ (x0_4_97 : Int32) (x0_5_97 : Int32) (x0_6_97 : Int32) (x0_7_97 : Int32) (x0_8_97 : Int32) (x0_9_97 : Int32) (x0_10_97 : Int32) (x0_11_97 : Int32) (x0_12_97 : Int32) (x0_13_97 : Int32) (x0_14_97 : Int32) (x3_1_97 : Int32) (a4_97 : Nat → Int32) (a5_97 : Nat → Int32) (a6_97 : Nat → Int32) (a7_97 : Nat → Int32) (a8_97 : Nat → Int32) (x9_0_97 : Int32) (x9_1_97 : Int32) (x9_2_97 : Int32) (a10_97 : Nat → Int32) (a11_97 : Nat → Int32) (a12_97 : Nat → Int32) (a13_97 : Nat → Int32), p_X3_parse_J97 F x1_1 a2 x0_4_97 x0_5_97 x0_6_97 x0_7_97 x0_8_97 x0_9_97 x0_10_97 x0_11_97 x0_12_97 x0_13_97 x0_14_97 x3_1_97 a4_97 a5_97 a6_97 a7_97 a8_97 x9_0_97 x9_1_97 x9_2_97 a10_97 a11_97 a12_97 a13_97 = some (r0, e_x0_4, e_x0_5, e_x0_6, e_x0_7, e_x0_8, e_x0_9, e_x0_10, e_x0_11, e_x0_12, e_x0_13, e_x0_14, e_x3_1, e_a4, e_a5, e_a6, e_a7, e_a8, e_x9_0, e_x9_1, e_x9_2, e_a10, e_a11, e_a12, e_a13) → ∀ (H : Heap) (locs : List Loc), va_P G.1 vwCl (wW_X3_parse G h0 h1 h2 h3 h4 h5 h6 h7 h8 h9 h10 h11 h12 h13 x0_4_97 x0_5_97 x0_6_97 x0_7_97 x0_8_97 x0_9_97 x0_10_97 x0_11_97 x0_12_97 x0_13_97 x0_14_97 x1_1 a2 x3_1_97 a4_97 a5_97 a6_97 a7_97 a8_97 x9_0_97 x9_1_97 x9_2_97 a10_97 a11_97 a12_97 a13_97) H → va_D A (wW_X3_parse G h0 h1 h2 h3 h4 h5 h6 h7 h8 h9 h10 h11 h12 h13 x0_4_97 x0_5_97 x0_6_97 x0_7_97 x0_8_97 x0_9_97 x0_10_97 x0_11_97 x0_12_97 x0_13_97 x0_14_97 x1_1 a2 x3_1_97 a4_97 a5_97 a6_97 a7_97 a8_97 x9_0_97 x9_1_97 x9_2_97 a10_97 a11_97 a12_97 a13_97) → va_S A s.heap H locs → ∀ ls : Array Slot, lv_has ls 2 [(0, .ref h0)] → W p l e ({ frames := 7, cells := 0, slots := 0, locals := 147 } : Room) s m (List.toArray [.ref h0]) below meth c H locs 0 0 (MQ below (QiS G r0 A (wW_X3_parse G h0 h1 h2 h3 h4 h5 h6 h7 h8 h9 h10 h11 h12 h13 e_x0_4 e_x0_5 e_x0_6 e_x0_7 e_x0_8 e_x0_9 e_x0_10 e_x0_11 e_x0_12 e_x0_13 e_x0_14 x1_1 a2 e_x3_1 e_a4 e_a5 e_a6 e_a7 e_a8 e_x9_0 e_x9_1 e_x9_2 e_a10 e_a11 e_a12 e_a13)) (List.toArray [.ref h0]) s 0 0 A) (F0 m 97 ls []) := by
    intro x0_4_97 x0_5_97 x0_6_97 x0_7_97 x0_8_97 x0_9_97 x0_10_97 x0_11_97 x0_12_97 x0_13_97 x0_14_97 x3_1_97 a4_97 a5_97 a6_97 a7_97 a8_97 x9_0_97 x9_1_97 x9_2_97 a10_97 a11_97 a12_97 a13_97 hf H locs hP hD hS ls hl
    refine lv_aload_n hx hb dX3_parse_97 rfl (lv_at hl 0 rfl) ?_
    refine va_get (ci := 3) (v := .int x0_4_97) (C := RX3) (T := TX3) (N := 15) hx hb ht0 iX3 hown hK hP 0 rfl rfl 4 (by decide) (ht0 _ wd_255) (fun _ h9 => h9) rfl dX3_parse_98 ?_
    refine lv_if_ne (tgt := 108) hx hb dX3_parse_101 (by decide) (fun c1 => ?_) (fun c1 => ?_)
    · have hf := of_neg hf c1
      refine lv_iconst (v := (0 : Int32)) hx hb dX3_parse_108 (by decide) ?_
      cases hf
      exact ret_z hx hb hr hlk hK hP hD hS (by decide) dX3_parse_109
    · have hf := of_pos hf c1
      refine lv_iconst (v := (1 : Int32)) hx hb dX3_parse_104 (by decide) ?_
      refine lv_goto (tgt := 109) hx hb dX3_parse_105 (by decide) ?_
      cases hf
      exact ret_z hx hb hr hlk hK hP hD hS (by decide) dX3_parse_109
  have kL6 : ∀ (n6 : Nat) (u6_1 : Int32) (x0_4_6 : Int32) (x0_5_6 : Int32) (x0_6_6 : Int32) (x0_7_6 : Int32) (x0_8_6 : Int32) (x0_9_6 : Int32) (x0_10_6 : Int32) (x0_11_6 : Int32) (x0_12_6 : Int32) (x0_13_6 : Int32) (x0_14_6 : Int32) (x3_1_6 : Int32) (a4_6 : Nat → Int32) (a5_6 : Nat → Int32) (a6_6 : Nat → Int32) (a7_6 : Nat → Int32) (a8_6 : Nat → Int32) (x9_0_6 : Int32) (x9_1_6 : Int32) (x9_2_6 : Int32) (a10_6 : Nat → Int32) (a11_6 : Nat → Int32) (a12_6 : Nat → Int32) (a13_6 : Nat → Int32), p_X3_parse_L6 F x1_1 a2 n6 u6_1 x0_4_6 x0_5_6 x0_6_6 x0_7_6 x0_8_6 x0_9_6 x0_10_6 x0_11_6 x0_12_6 x0_13_6 x0_14_6 x3_1_6 a4_6 a5_6 a6_6 a7_6 a8_6 x9_0_6 x9_1_6 x9_2_6 a10_6 a11_6 a12_6 a13_6 = some (r0, e_x0_4, e_x0_5, e_x0_6, e_x0_7, e_x0_8, e_x0_9, e_x0_10, e_x0_11, e_x0_12, e_x0_13, e_x0_14, e_x3_1, e_a4, e_a5, e_a6, e_a7, e_a8, e_x9_0, e_x9_1, e_x9_2, e_a10, e_a11, e_a12, e_a13) → ∀ (H : Heap) (locs : List Loc), va_P G.1 vwCl (wW_X3_parse G h0 h1 h2 h3 h4 h5 h6 h7 h8 h9 h10 h11 h12 h13 x0_4_6 x0_5_6 x0_6_6 x0_7_6 x0_8_6 x0_9_6 x0_10_6 x0_11_6 x0_12_6 x0_13_6 x0_14_6 x1_1 a2 x3_1_6 a4_6 a5_6 a6_6 a7_6 a8_6 x9_0_6 x9_1_6 x9_2_6 a10_6 a11_6 a12_6 a13_6) H → va_D A (wW_X3_parse G h0 h1 h2 h3 h4 h5 h6 h7 h8 h9 h10 h11 h12 h13 x0_4_6 x0_5_6 x0_6_6 x0_7_6 x0_8_6 x0_9_6 x0_10_6 x0_11_6 x0_12_6 x0_13_6 x0_14_6 x1_1 a2 x3_1_6 a4_6 a5_6 a6_6 a7_6 a8_6 x9_0_6 x9_1_6 x9_2_6 a10_6 a11_6 a12_6 a13_6) → va_S A s.heap H locs → ∀ ls : Array Slot, lv_has ls 2 [(0, .ref h0), (1, .int u6_1)] → W p l e ({ frames := 7, cells := 0, slots := 0, locals := 147 } : Room) s m (List.toArray [.ref h0]) below meth c H locs 0 0 (MQ below (QiS G r0 A (wW_X3_parse G h0 h1 h2 h3 h4 h5 h6 h7 h8 h9 h10 h11 h12 h13 e_x0_4 e_x0_5 e_x0_6 e_x0_7 e_x0_8 e_x0_9 e_x0_10 e_x0_11 e_x0_12 e_x0_13 e_x0_14 x1_1 a2 e_x3_1 e_a4 e_a5 e_a6 e_a7 e_a8 e_x9_0 e_x9_1 e_x9_2 e_a10 e_a11 e_a12 e_a13)) (List.toArray [.ref h0]) s 0 0 A) (F0 m 6 ls []) := by
    intro n6
    induction n6 with
    | zero =>
      intro u6_1 x0_4_6 x0_5_6 x0_6_6 x0_7_6 x0_8_6 x0_9_6 x0_10_6 x0_11_6 x0_12_6 x0_13_6 x0_14_6 x3_1_6 a4_6 a5_6 a6_6 a7_6 a8_6 x9_0_6 x9_1_6 x9_2_6 a10_6 a11_6 a12_6 a13_6 hf
      cases hf
    | succ n6 ih6 =>
      have kJ65 : ∀ (u65_1 : Int32) (x0_4_65 : Int32) (x0_5_65 : Int32) (x0_6_65 : Int32) (x0_7_65 : Int32) (x0_8_65 : Int32) (x0_9_65 : Int32) (x0_10_65 : Int32) (x0_11_65 : Int32) (x0_12_65 : Int32) (x0_13_65 : Int32) (x0_14_65 : Int32) (x3_1_65 : Int32) (a4_65 : Nat → Int32) (a5_65 : Nat → Int32) (a6_65 : Nat → Int32) (a7_65 : Nat → Int32) (a8_65 : Nat → Int32) (x9_0_65 : Int32) (x9_1_65 : Int32) (x9_2_65 : Int32) (a10_65 : Nat → Int32) (a11_65 : Nat → Int32) (a12_65 : Nat → Int32) (a13_65 : Nat → Int32), p_X3_parse_J65 F x1_1 a2 (p_X3_parse_L6 F x1_1 a2 n6) u65_1 x0_4_65 x0_5_65 x0_6_65 x0_7_65 x0_8_65 x0_9_65 x0_10_65 x0_11_65 x0_12_65 x0_13_65 x0_14_65 x3_1_65 a4_65 a5_65 a6_65 a7_65 a8_65 x9_0_65 x9_1_65 x9_2_65 a10_65 a11_65 a12_65 a13_65 = some (r0, e_x0_4, e_x0_5, e_x0_6, e_x0_7, e_x0_8, e_x0_9, e_x0_10, e_x0_11, e_x0_12, e_x0_13, e_x0_14, e_x3_1, e_a4, e_a5, e_a6, e_a7, e_a8, e_x9_0, e_x9_1, e_x9_2, e_a10, e_a11, e_a12, e_a13) → ∀ (H : Heap) (locs : List Loc), va_P G.1 vwCl (wW_X3_parse G h0 h1 h2 h3 h4 h5 h6 h7 h8 h9 h10 h11 h12 h13 x0_4_65 x0_5_65 x0_6_65 x0_7_65 x0_8_65 x0_9_65 x0_10_65 x0_11_65 x0_12_65 x0_13_65 x0_14_65 x1_1 a2 x3_1_65 a4_65 a5_65 a6_65 a7_65 a8_65 x9_0_65 x9_1_65 x9_2_65 a10_65 a11_65 a12_65 a13_65) H → va_D A (wW_X3_parse G h0 h1 h2 h3 h4 h5 h6 h7 h8 h9 h10 h11 h12 h13 x0_4_65 x0_5_65 x0_6_65 x0_7_65 x0_8_65 x0_9_65 x0_10_65 x0_11_65 x0_12_65 x0_13_65 x0_14_65 x1_1 a2 x3_1_65 a4_65 a5_65 a6_65 a7_65 a8_65 x9_0_65 x9_1_65 x9_2_65 a10_65 a11_65 a12_65 a13_65) → va_S A s.heap H locs → ∀ ls : Array Slot, lv_has ls 2 [(0, .ref h0), (1, .int u65_1)] → W p l e ({ frames := 7, cells := 0, slots := 0, locals := 147 } : Room) s m (List.toArray [.ref h0]) below meth c H locs 0 0 (MQ below (QiS G r0 A (wW_X3_parse G h0 h1 h2 h3 h4 h5 h6 h7 h8 h9 h10 h11 h12 h13 e_x0_4 e_x0_5 e_x0_6 e_x0_7 e_x0_8 e_x0_9 e_x0_10 e_x0_11 e_x0_12 e_x0_13 e_x0_14 x1_1 a2 e_x3_1 e_a4 e_a5 e_a6 e_a7 e_a8 e_x9_0 e_x9_1 e_x9_2 e_a10 e_a11 e_a12 e_a13)) (List.toArray [.ref h0]) s 0 0 A) (F0 m 65 ls []) := by
        intro u65_1 x0_4_65 x0_5_65 x0_6_65 x0_7_65 x0_8_65 x0_9_65 x0_10_65 x0_11_65 x0_12_65 x0_13_65 x0_14_65 x3_1_65 a4_65 a5_65 a6_65 a7_65 a8_65 x9_0_65 x9_1_65 x9_2_65 a10_65 a11_65 a12_65 a13_65 hf H locs hP hD hS ls hl
        refine lv_aload_n hx hb dX3_parse_65 rfl (lv_at hl 0 rfl) ?_
        refine va_get (ci := 3) (v := .int x0_8_65) (C := RX3) (T := TX3) (N := 15) hx hb ht0 iX3 hown hK hP 0 rfl rfl 8 (by decide) (ht0 _ wd_261) (fun _ h9 => h9) rfl dX3_parse_66 ?_
        refine lv_if_ne (tgt := 87) hx hb dX3_parse_69 (by decide) (fun c2 => ?_) (fun c2 => ?_)
        · have hf := of_neg hf c2
          refine lv_aload_n hx hb dX3_parse_87 rfl (lv_at hl 0 rfl) ?_
          obtain ⟨⟨r_88_2_x0_4, r_88_2_x0_5, r_88_2_x0_10, r_88_2_x0_11, r_88_2_x0_12, r_88_2_x0_14, r_88_2_x3_0, r_88_2_x3_1, r_88_2_x3_2, r_88_2_a4, r_88_2_a5, r_88_2_a6, r_88_2_a7⟩, hc_r_88_2, hf⟩ := of_bnd hf
          refine cl_Vv (w2 := (wW_X3_parse G h0 h1 h2 h3 h4 h5 h6 h7 h8 h9 h10 h11 h12 h13 r_88_2_x0_4 r_88_2_x0_5 x0_6_65 x0_7_65 x0_8_65 x0_9_65 r_88_2_x0_10 r_88_2_x0_11 r_88_2_x0_12 x0_13_65 r_88_2_x0_14 x1_1 a2 x3_1_65 a4_65 a5_65 a6_65 a7_65 a8_65 r_88_2_x3_0 r_88_2_x3_1 r_88_2_x3_2 r_88_2_a4 r_88_2_a5 r_88_2_a6 r_88_2_a7)) (As := []) (rest := []) ⟨hx, hb, hml, hown, ht0⟩ (c_X3_takeToken l G h0 h1 h2 h9 h10 h11 h12 h13 h3 _ x0_4_65 x0_5_65 x0_6_65 x0_7_65 x0_8_65 x0_9_65 x0_10_65 x0_11_65 x0_12_65 x0_13_65 x0_14_65 x1_1 a2 x9_0_65 x9_1_65 x9_2_65 a10_65 a11_65 a12_65 a13_65 F _ _ _ _ _ _ _ _ _ _ _ _ _ hc_r_88_2) yk_X3_takeToken wd_701 ⟨rfl, rfl, by decide, by decide⟩ ⟨Nat.le_refl _, Nat.le_refl _⟩ hX hK hP hD hS hA [0, 1, 2, 9, 10, 11, 12, 13] [3, 4, 5, 6, 7, 8] [6, 7, 8, 0, 1, 2, 3, 4, 5, 9, 10, 11, 12, 13] (va_recv hK hP (ci := 3) (q0 := 0) rfl rfl) rfl rfl (by decide) rfl rfl rfl rfl rfl hl.1 rfl (Nat.le_of_ble_eq_true rfl) dX3_parse_88 (fun H locs hP hD hS => ?_)
          refine lv_iinc (v := u65_1 + (1 : Int32)) (lv' := [(1, .int (u65_1 + (1 : Int32))), (0, .ref h0)]) hx hb dX3_parse_91 hl (k := 1) rfl (by rfl) (by decide) rfl (fun ls hl => ?_)
          refine lv_goto (tgt := 6) hx hb dX3_parse_94 (by decide) ?_
          exact ih6 _ _ _ _ _ _ _ _ _ _ _ _ _ _ _ _ _ _ _ _ _ _ _ _ _ hf _ _ hP hD hS _ (lv_sub hl [1, 0] rfl)
        · have hf := of_pos hf c2
          refine lv_aload_n hx hb dX3_parse_72 rfl (lv_at hl 0 rfl) ?_
          refine va_get (ci := 3) (v := .int x0_10_65) (C := RX3) (T := TX3) (N := 15) hx hb ht0 iX3 hown hK hP 0 rfl rfl 10 (by decide) (ht0 _ wd_263) (fun _ h9 => h9) rfl dX3_parse_73 ?_
          refine lv_if_eq (tgt := 97) hx hb dX3_parse_76 (by decide) (fun c4 => ?_) (fun c4 => ?_)
          · have hf := of_pos hf c4
            exact kJ97 _ _ _ _ _ _ _ _ _ _ _ _ _ _ _ _ _ _ _ _ _ _ _ _ hf _ _ hP hD hS _ (lv_sub hl [0] rfl)
          · have hf := of_neg hf c4
            refine lv_aload_n hx hb dX3_parse_79 rfl (lv_at hl 0 rfl) ?_
            refine lv_iconst (v := (1 : Int32)) hx hb dX3_parse_80 (by decide) ?_
            obtain ⟨⟨r_81_4_x0_4, r_81_4_x0_5⟩, hc_r_81_4, hf⟩ := of_bnd hf
            refine cl_Vv (w2 := (wW_X3_parse G h0 h1 h2 h3 h4 h5 h6 h7 h8 h9 h10 h11 h12 h13 r_81_4_x0_4 r_81_4_x0_5 x0_6_65 x0_7_65 x0_8_65 x0_9_65 x0_10_65 x0_11_65 x0_12_65 x0_13_65 x0_14_65 x1_1 a2 x3_1_65 a4_65 a5_65 a6_65 a7_65 a8_65 x9_0_65 x9_1_65 x9_2_65 a10_65 a11_65 a12_65 a13_65)) (As := [.int (1 : Int32)]) (rest := []) ⟨hx, hb, hml, hown, ht0⟩ (c_X3_fail l G h0 h1 h3 h9 h13 _ x0_4_65 x0_5_65 x0_6_65 x0_7_65 x0_8_65 x0_9_65 x0_10_65 x0_11_65 x0_12_65 x0_13_65 x0_14_65 F (1 : Int32) _ _ hc_r_81_4) yk_X3_fail wd_697 ⟨rfl, rfl, by decide, by decide⟩ ⟨Nat.le_refl _, Nat.le_refl _⟩ hX hK hP hD hS hA [0] [1, 2, 3, 4, 5, 6, 7, 8, 9, 10, 11, 12, 13] [13, 0, 1, 2, 3, 4, 5, 6, 7, 8, 9, 10, 11, 12] (va_recv hK hP (ci := 3) (q0 := 0) rfl rfl) rfl rfl (by decide) rfl rfl rfl rfl rfl hl.1 rfl (Nat.le_of_ble_eq_true rfl) dX3_parse_81 (fun H locs hP hD hS => ?_)
            refine lv_goto (tgt := 97) hx hb dX3_parse_84 (by decide) ?_
            exact kJ97 _ _ _ _ _ _ _ _ _ _ _ _ _ _ _ _ _ _ _ _ _ _ _ _ hf _ _ hP hD hS _ (lv_sub hl [0] rfl)
      intro u6_1 x0_4_6 x0_5_6 x0_6_6 x0_7_6 x0_8_6 x0_9_6 x0_10_6 x0_11_6 x0_12_6 x0_13_6 x0_14_6 x3_1_6 a4_6 a5_6 a6_6 a7_6 a8_6 x9_0_6 x9_1_6 x9_2_6 a10_6 a11_6 a12_6 a13_6 hf H locs hP hD hS ls hl
      have hf : p_X3_parse_L6b F x1_1 a2 (p_X3_parse_L6 F x1_1 a2 n6) u6_1 x0_4_6 x0_5_6 x0_6_6 x0_7_6 x0_8_6 x0_9_6 x0_10_6 x0_11_6 x0_12_6 x0_13_6 x0_14_6 x3_1_6 a4_6 a5_6 a6_6 a7_6 a8_6 x9_0_6 x9_1_6 x9_2_6 a10_6 a11_6 a12_6 a13_6 = some (r0, e_x0_4, e_x0_5, e_x0_6, e_x0_7, e_x0_8, e_x0_9, e_x0_10, e_x0_11, e_x0_12, e_x0_13, e_x0_14, e_x3_1, e_a4, e_a5, e_a6, e_a7, e_a8, e_x9_0, e_x9_1, e_x9_2, e_a10, e_a11, e_a12, e_a13) := hf
      refine lv_iload_n hx hb dX3_parse_6 rfl (lv_at hl 1 rfl) ?_
      refine lv_sipush (v := (600 : Int32)) hx hb dX3_parse_7 (by decide) ?_
      refine lv_icmp_gt (tgt := 97) hx hb dX3_parse_10 (by decide) (fun c6 => ?_) (fun c6 => ?_)
      · have hf := of_pos hf c6
        exact kJ97 _ _ _ _ _ _ _ _ _ _ _ _ _ _ _ _ _ _ _ _ _ _ _ _ hf _ _ hP hD hS _ (lv_sub hl [0] rfl)
      · have hf := of_neg hf c6
        refine lv_aload_n hx hb dX3_parse_13 rfl (lv_at hl 0 rfl) ?_
        refine va_get (ci := 3) (v := .int x0_4_6) (C := RX3) (T := TX3) (N := 15) hx hb ht0 iX3 hown hK hP 0 rfl rfl 4 (by decide) (ht0 _ wd_255) (fun _ h9 => h9) rfl dX3_parse_14 ?_
        refine lv_if_ne (tgt := 97) hx hb dX3_parse_17 (by decide) (fun c7 => ?_) (fun c7 => ?_)
        · have hf := of_neg hf c7
          exact kJ97 _ _ _ _ _ _ _ _ _ _ _ _ _ _ _ _ _ _ _ _ _ _ _ _ hf _ _ hP hD hS _ (lv_sub hl [0] rfl)
        · have hf := of_pos hf c7
          refine lv_aload_n hx hb dX3_parse_20 rfl (lv_at hl 0 rfl) ?_
          obtain ⟨⟨r_21_7_x0_6, r_21_7_x0_7, r_21_7_x0_8, r_21_7_x0_9⟩, hc_r_21_7, hf⟩ := of_bnd hf
          refine cl_Vv (w2 := (wW_X3_parse G h0 h1 h2 h3 h4 h5 h6 h7 h8 h9 h10 h11 h12 h13 x0_4_6 x0_5_6 r_21_7_x0_6 r_21_7_x0_7 r_21_7_x0_8 r_21_7_x0_9 x0_10_6 x0_11_6 x0_12_6 x0_13_6 x0_14_6 x1_1 a2 x3_1_6 a4_6 a5_6 a6_6 a7_6 a8_6 x9_0_6 x9_1_6 x9_2_6 a10_6 a11_6 a12_6 a13_6)) (As := []) (rest := []) ⟨hx, hb, hml, hown, ht0⟩ (c_X3_nextToken l G h0 h1 h2 h3 h9 h13 _ x0_4_6 x0_5_6 x0_6_6 x0_7_6 x0_8_6 x0_9_6 x0_10_6 x0_11_6 x0_12_6 x0_13_6 x0_14_6 x1_1 a2 F _ _ _ _ hc_r_21_7) yk_X3_nextToken wd_613 ⟨rfl, rfl, by decide, by decide⟩ ⟨Nat.le_refl _, Nat.le_refl _⟩ hX hK hP hD hS hA [0, 1, 2] [3, 4, 5, 6, 7, 8, 9, 10, 11, 12, 13] [11, 12, 13, 0, 1, 2, 3, 4, 5, 6, 7, 8, 9, 10] (va_recv hK hP (ci := 3) (q0 := 0) rfl rfl) rfl rfl (by decide) rfl rfl rfl rfl rfl hl.1 rfl (Nat.le_of_ble_eq_true rfl) dX3_parse_21 (fun H locs hP hD hS => ?_)
          refine lv_aload_n hx hb dX3_parse_24 rfl (lv_at hl 0 rfl) ?_
          obtain ⟨r_25_8, hc_r_25_8, hf⟩ := of_bnd hf
          refine cl_Vi (w2 := (wW_X3_parse G h0 h1 h2 h3 h4 h5 h6 h7 h8 h9 h10 h11 h12 h13 x0_4_6 x0_5_6 r_21_7_x0_6 r_21_7_x0_7 r_21_7_x0_8 r_21_7_x0_9 x0_10_6 x0_11_6 x0_12_6 x0_13_6 x0_14_6 x1_1 a2 x3_1_6 a4_6 a5_6 a6_6 a7_6 a8_6 x9_0_6 x9_1_6 x9_2_6 a10_6 a11_6 a12_6 a13_6)) (As := []) (rest := []) ⟨hx, hb, hml, hown, ht0⟩ (c_X3_endsHead l G h0 h1 h2 h3 h9 h13 _ x0_4_6 x0_5_6 r_21_7_x0_6 r_21_7_x0_7 r_21_7_x0_8 r_21_7_x0_9 x0_10_6 x0_11_6 x0_12_6 x0_13_6 x0_14_6 x1_1 a2 F _ hc_r_25_8) yk_X3_endsHead wd_638 ⟨rfl, rfl, by decide, by decide⟩ ⟨Nat.le_refl _, Nat.le_refl _⟩ hX hK hP hD hS hA [0, 1, 2] [3, 4, 5, 6, 7, 8, 9, 10, 11, 12, 13] [11, 12, 13, 0, 1, 2, 3, 4, 5, 6, 7, 8, 9, 10] (va_recv hK hP (ci := 3) (q0 := 0) rfl rfl) rfl rfl (by decide) rfl rfl rfl rfl rfl hl.1 rfl (Nat.le_of_ble_eq_true rfl) dX3_parse_25 (fun H locs hP hD hS => ?_)
          refine lv_if_eq (tgt := 65) hx hb dX3_parse_28 (by decide) (fun c10 => ?_) (fun c10 => ?_)
          · have hf := of_pos hf c10
            exact kJ65 _ _ _ _ _ _ _ _ _ _ _ _ _ _ _ _ _ _ _ _ _ _ _ _ _ hf _ _ hP hD hS _ (lv_sub hl [0, 1] rfl)
          · have hf := of_neg hf c10
            refine lv_aload_n hx hb dX3_parse_31 rfl (lv_at hl 0 rfl) ?_
            refine lv_aload_n hx hb dX3_parse_32 rfl (lv_at hl 0 rfl) ?_
            refine va_get (ci := 3) (v := .ref h3) (C := RX3) (T := TX3) (N := 15) hx hb ht0 iX3 hown hK hP 0 rfl rfl 1 (by decide) (ht0 _ wd_249) (fun _ h9 => h9) rfl dX3_parse_33 ?_
            refine lv_aload_n hx hb dX3_parse_36 rfl (lv_at hl 0 rfl) ?_
            refine va_get (ci := 3) (v := .ref h9) (C := RX3) (T := TX3) (N := 15) hx hb ht0 iX3 hown hK hP 0 rfl rfl 2 (by decide) (ht0 _ wd_251) (fun _ h9 => h9) rfl dX3_parse_37 ?_
            refine lv_aload_n hx hb dX3_parse_40 rfl (lv_at hl 0 rfl) ?_
            refine va_get (ci := 3) (v := .int x0_11_6) (C := RX3) (T := TX3) (N := 15) hx hb ht0 iX3 hown hK hP 0 rfl rfl 11 (by decide) (ht0 _ wd_264) (fun _ h9 => h9) rfl dX3_parse_41 ?_
            obtain ⟨⟨r_44_10, r_44_10_x0_1, r_44_10_a1, r_44_10_a2, r_44_10_a3, r_44_10_a4, r_44_10_a5, r_44_10_a7, r_44_10_a8, r_44_10_a9⟩, hc_r_44_10, hf⟩ := of_bnd hf
            refine cl_Vi (w2 := (wW_X3_parse G h0 h1 h2 h3 h4 h5 h6 h7 h8 h9 h10 h11 h12 h13 x0_4_6 x0_5_6 r_21_7_x0_6 r_21_7_x0_7 r_21_7_x0_8 r_21_7_x0_9 x0_10_6 x0_11_6 x0_12_6 x0_13_6 x0_14_6 x1_1 a2 r_44_10_x0_1 r_44_10_a1 r_44_10_a2 r_44_10_a3 r_44_10_a4 r_44_10_a5 x9_0_6 x9_1_6 x9_2_6 r_44_10_a7 r_44_10_a8 r_44_10_a9 a13_6)) (As := [.ref h9, .int x0_11_6]) (rest := [.ref h0]) ⟨hx, hb, hml, hown, ht0⟩ (c_X0_chooseColumns l G h3 h4 h5 h6 h7 h8 h9 h10 h11 h12 _ x3_1_6 a4_6 a5_6 a6_6 a7_6 a8_6 x9_0_6 x9_1_6 x9_2_6 a10_6 a11_6 a12_6 F x0_11_6 _ _ _ _ _ _ _ _ _ _ hc_r_44_10) yk_X0_chooseColumns wd_696 ⟨rfl, rfl, by decide, by decide⟩ ⟨Nat.le_refl _, Nat.le_refl _⟩ hX hK hP hD hS hA [3, 4, 5, 6, 7, 8, 9, 10, 11, 12] [0, 1, 2, 13] [0, 1, 2, 4, 5, 6, 7, 8, 9, 10, 11, 12, 13, 3] (va_recv hK hP (ci := 0) (q0 := 3) rfl rfl) rfl rfl (by decide) rfl rfl rfl rfl rfl hl.1 rfl (Nat.le_of_ble_eq_true rfl) dX3_parse_44 (fun H locs hP hD hS => ?_)
            obtain ⟨g12, hf⟩ := of_grd hf
            have g12 := Decidable.not_not.mp g12
            refine va_put (ci := 3) (v := .int r_44_10) (ty := .boolean) (C := RX3) (T := TX3) (N := 15) hx hb ht0 iX3 tyX3 tyX3_ok nmX3 hown hK hP hD hS 0 rfl rfl 13 (by decide) (ht0 _ wd_266) (fun _ h9 => h9) rfl rfl (bz_n g12) (bz_f g12) (Nat.le_of_ble_eq_true rfl) dX3_parse_47 (fun H locs hP hD hS => ?_)
            have hP : va_P G.1 vwCl (wW_X3_parse G h0 h1 h2 h3 h4 h5 h6 h7 h8 h9 h10 h11 h12 h13 x0_4_6 x0_5_6 r_21_7_x0_6 r_21_7_x0_7 r_21_7_x0_8 r_21_7_x0_9 x0_10_6 x0_11_6 x0_12_6 r_44_10 x0_14_6 x1_1 a2 r_44_10_x0_1 r_44_10_a1 r_44_10_a2 r_44_10_a3 r_44_10_a4 r_44_10_a5 x9_0_6 x9_1_6 x9_2_6 r_44_10_a7 r_44_10_a8 r_44_10_a9 a13_6) H := hP
            have hD : va_D A (wW_X3_parse G h0 h1 h2 h3 h4 h5 h6 h7 h8 h9 h10 h11 h12 h13 x0_4_6 x0_5_6 r_21_7_x0_6 r_21_7_x0_7 r_21_7_x0_8 r_21_7_x0_9 x0_10_6 x0_11_6 x0_12_6 r_44_10 x0_14_6 x1_1 a2 r_44_10_x0_1 r_44_10_a1 r_44_10_a2 r_44_10_a3 r_44_10_a4 r_44_10_a5 x9_0_6 x9_1_6 x9_2_6 r_44_10_a7 r_44_10_a8 r_44_10_a9 a13_6) := hD
            refine lv_aload_n hx hb dX3_parse_50 rfl (lv_at hl 0 rfl) ?_
            refine va_get (ci := 3) (v := .int r_44_10) (C := RX3) (T := TX3) (N := 15) hx hb ht0 iX3 hown hK hP 0 rfl rfl 13 (by decide) (ht0 _ wd_266) (fun _ h9 => h9) rfl dX3_parse_51 ?_
            refine lv_if_ne (tgt := 65) hx hb dX3_parse_54 (by decide) (fun c13 => ?_) (fun c13 => ?_)
            · have hf := of_neg hf c13
              exact kJ65 _ _ _ _ _ _ _ _ _ _ _ _ _ _ _ _ _ _ _ _ _ _ _ _ _ hf _ _ hP hD hS _ (lv_sub hl [0, 1] rfl)
            · have hf := of_pos hf c13
              refine lv_aload_n hx hb dX3_parse_57 rfl (lv_at hl 0 rfl) ?_
              refine lv_iconst (v := (4 : Int32)) hx hb dX3_parse_58 (by decide) ?_
              obtain ⟨⟨r_59_13_x0_4, r_59_13_x0_5⟩, hc_r_59_13, hf⟩ := of_bnd hf
              refine cl_Vv (w2 := (wW_X3_parse G h0 h1 h2 h3 h4 h5 h6 h7 h8 h9 h10 h11 h12 h13 r_59_13_x0_4 r_59_13_x0_5 r_21_7_x0_6 r_21_7_x0_7 r_21_7_x0_8 r_21_7_x0_9 x0_10_6 x0_11_6 x0_12_6 r_44_10 x0_14_6 x1_1 a2 r_44_10_x0_1 r_44_10_a1 r_44_10_a2 r_44_10_a3 r_44_10_a4 r_44_10_a5 x9_0_6 x9_1_6 x9_2_6 r_44_10_a7 r_44_10_a8 r_44_10_a9 a13_6)) (As := [.int (4 : Int32)]) (rest := []) ⟨hx, hb, hml, hown, ht0⟩ (c_X3_fail l G h0 h1 h3 h9 h13 _ x0_4_6 x0_5_6 r_21_7_x0_6 r_21_7_x0_7 r_21_7_x0_8 r_21_7_x0_9 x0_10_6 x0_11_6 x0_12_6 r_44_10 x0_14_6 F (4 : Int32) _ _ hc_r_59_13) yk_X3_fail wd_697 ⟨rfl, rfl, by decide, by decide⟩ ⟨Nat.le_refl _, Nat.le_refl _⟩ hX hK hP hD hS hA [0] [1, 2, 3, 4, 5, 6, 7, 8, 9, 10, 11, 12, 13] [13, 0, 1, 2, 3, 4, 5, 6, 7, 8, 9, 10, 11, 12] (va_recv hK hP (ci := 3) (q0 := 0) rfl rfl) rfl rfl (by decide) rfl rfl rfl rfl rfl hl.1 rfl (Nat.le_of_ble_eq_true rfl) dX3_parse_59 (fun H locs hP hD hS => ?_)
              refine lv_goto (tgt := 97) hx hb dX3_parse_62 (by decide) ?_
              exact kJ97 _ _ _ _ _ _ _ _ _ _ _ _ _ _ _ _ _ _ _ _ _ _ _ _ hf _ _ hP hD hS _ (lv_sub hl [0] rfl)
  refine lv_aload_n hx hb dX3_parse_0 rfl (lv_at hl 0 rfl) ?_
  obtain ⟨⟨r_1_14_x0_4, r_1_14_x0_5, r_1_14_x0_6, r_1_14_x0_10, r_1_14_x0_11, r_1_14_x0_12, r_1_14_x0_13, r_1_14_x1_0, r_1_14_x1_1, r_1_14_x1_2, r_1_14_a2⟩, hc_r_1_14, hf⟩ := of_bnd hf
  refine cl_Vv (w2 := (wW_X3_parse G h0 h1 h2 h3 h4 h5 h6 h7 h8 h9 h10 h11 h12 h13 r_1_14_x0_4 r_1_14_x0_5 r_1_14_x0_6 x0_7 x0_8 x0_9 r_1_14_x0_10 r_1_14_x0_11 r_1_14_x0_12 r_1_14_x0_13 x0_14 x1_1 a2 x3_1 a4 a5 a6 a7 a8 r_1_14_x1_0 r_1_14_x1_1 r_1_14_x1_2 a10 a11 a12 r_1_14_a2)) (As := []) (rest := []) ⟨hx, hb, hml, hown, ht0⟩ (c_X3_reset l G h0 h9 h13 h1 h3 h10 h11 h12 _ x0_4 x0_5 x0_6 x0_7 x0_8 x0_9 x0_10 x0_11 x0_12 x0_13 x0_14 x9_0 x9_1 x9_2 a13 F _ _ _ _ _ _ _ _ _ _ _ hc_r_1_14) yk_X3_reset wd_604 ⟨rfl, rfl, by decide, by decide⟩ ⟨Nat.le_refl _, Nat.le_refl _⟩ hX hK hP hD hS hA [0, 9, 13] [1, 2, 3, 4, 5, 6, 7, 8, 10, 11, 12] [11, 0, 1, 2, 3, 4, 5, 6, 7, 12, 8, 9, 10, 13] (va_recv hK hP (ci := 3) (q0 := 0) rfl rfl) rfl rfl (by decide) rfl rfl rfl rfl rfl hl.1 rfl (Nat.le_of_ble_eq_true rfl) dX3_parse_1 (fun H locs hP hD hS => ?_)
  refine lv_iconst (v := (0 : Int32)) hx hb dX3_parse_4 (by decide) ?_
  refine lv_istore_n (lv' := [(1, .int (0 : Int32)), (0, .ref h0)]) hx hb dX3_parse_5 rfl hl (by decide) rfl (fun ls hl => ?_)
  exact kL6 _ _ _ _ _ _ _ _ _ _ _ _ _ _ _ _ _ _ _ _ _ _ _ _ _ _ hf _ _ hP hD hS _ (lv_sub hl [1, 0] rfl)
theorem yk_X3_parse : ykV yX3_parse RX3 cX3_parse 2 (some .boolean) 0 := ⟨wd_601, wd_602, wd_128, wd_603, rfl, by decide +kernel, by decide +kernel, by decide +kernel⟩
