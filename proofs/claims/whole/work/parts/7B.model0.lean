/-! the reference is made -/
def ltrV : List Int32 := [100, 97, 116, 97, 32, 99, 104, 101, 99, 107, 115, 32, 119, 97, 121, 32, 102, 105, 114, 115, 116, 32, 98, 97, 108, 97, 110, 99, 101, 100, 32, 112, 97, 105, 114, 101, 100, 32, 112, 97, 105, 114, 115, 32, 99, 111, 108, 117, 109, 110, 32, 119, 111, 114, 100, 32]
def letF : Nat → AA
  | 0 => zA
  | i + 1 => upd (letF i) i (vp_nar .byte (ltrV.getD i 0))
theorem LT_letF : LT (letF 56) := by unfold LT; decide +kernel
def wM (G : GG) (h0 : Nat) (ma : Nat → Nat) (mi : Nat → Int32) (mf : Nat → AA) : va_W := [(h0, .inr (11, [.ref (ma 0), .ref (ma 1), .ref (ma 2), .ref (ma 3), .ref (ma 4), .int (mi 5), .ref (ma 6), .int (mi 7), .int (mi 8), .int (mi 9), .int (mi 10), .int (mi 11), .int (mi 12), .int (mi 13), .int (mi 14), .int (mi 15), .int (mi 16), .int (mi 17), .ref (ma 18), .int (mi 19), .int (mi 20), .ref (ma 21), .ref (ma 22), .ref (ma 23), .ref (ma 24), .ref (ma 25), .ref (ma 26), .int (mi 27), .int (mi 28), .int (mi 29), .int (mi 30), .int (mi 31), .int (mi 32), .ref (ma 33), .ref (ma 34), .int (mi 35), .int (mi 36), .int (mi 37), .ref (ma 38), .ref (ma 39), .ref (ma 40), .ref (ma 41), .ref (ma 42), .ref (ma 43), .int (mi 44), .ref (ma 45), .ref (ma 46), .ref (ma 47), .ref (ma 48), .int (mi 49), .int (mi 50)])), (ma 0, .inl (G.2.1, 121, .inl (mf 0))), (ma 1, .inl (G.2.1, 2, .inl (mf 1))), (ma 2, .inl (G.2.1, 2, .inl (mf 2))), (ma 3, .inl (G.2.1, 2, .inl (mf 3))), (ma 4, .inl (G.2.1, 242, .inl (mf 4))), (ma 6, .inl (G.2.2.2.1, 600, .inl (mf 6))), (ma 18, .inl (G.2.2.2.1, 56, .inl (mf 18))), (ma 21, .inl (G.2.1, 128, .inl (mf 21))), (ma 22, .inl (G.2.1, 32, .inl (mf 22))), (ma 23, .inl (G.2.1, 32, .inl (mf 23))), (ma 24, .inl (G.2.1, 8, .inl (mf 24))), (ma 25, .inl (G.2.2.1, 256, .inl (mf 25))), (ma 26, .inl (G.2.2.1, 256, .inl (mf 26))), (ma 33, .inl (G.2.1, 3, .inl (mf 33))), (ma 34, .inl (G.2.1, 256, .inl (mf 34))), (ma 38, .inl (G.2.1, 240, .inl (mf 38))), (ma 39, .inl (G.2.1, 240, .inl (mf 39))), (ma 40, .inl (G.2.1, 240, .inl (mf 40))), (ma 41, .inl (G.2.1, 240, .inl (mf 41))), (ma 42, .inl (G.2.1, 240, .inl (mf 42))), (ma 43, .inl (G.2.1, 260, .inl (mf 43))), (ma 45, .inl (G.2.1, 121, .inl (mf 45))), (ma 46, .inl (G.2.1, 1573, .inl (mf 46))), (ma 47, .inl (G.2.1, 242, .inl (mf 47))), (ma 48, .inl (G.2.2.1, 2, .inl (mf 48)))]
def wN_X11 (G : GG) (h0 : Nat) (mi : Nat → Int32) (mf : Nat → AA) (ma : Nat → Nat) : va_W := wM G h0 ma mi mf
theorem ykN_X11_init : ykN yX11_init cX11_init 1 := ⟨wd_1259, wd_142, wd_1260, ⟨by decide, by decide, by decide +kernel⟩, rfl⟩
set_option maxRecDepth 100000 in
set_option maxHeartbeats 4000000 in
theorem c_X11_init (l : Launch) (G : GG) (h0 sz F : Nat) (e1_x0_14 : Int32) (e1_x0_15 : Int32) (e1_x0_19 : Int32) (e1_x0_20 : Int32) (e1_a1 : Nat → Int32) (e1_a2 : Nat → Int32) (e1_a3 : Nat → Int32) (e1_a4 : Nat → Int32) (e2_x0_9 : Int32) (e2_x0_10 : Int32) (e2_x0_11 : Int32) (e2_x0_12 : Int32) (e2_x0_13 : Int32) (e2_x0_14 : Int32) (e2_x0_15 : Int32) (e2_x0_19 : Int32) (e2_x0_20 : Int32) (e2_x0_27 : Int32) (e2_x0_28 : Int32) (e2_a1 : Nat → Int32) (e2_a2 : Nat → Int32) (e2_a3 : Nat → Int32) (e2_a4 : Nat → Int32) (e2_a7 : Nat → Int32) (e2_a8 : Nat → Int32) (e2_a9 : Nat → Int32) (e2_a10 : Nat → Int32) (e2_a11 : Nat → Int32) (e2_a12 : Nat → Int32) (e3_x0_49 : Int32) (e3_x0_50 : Int32) (e3_a1 : Nat → Int32) (e3_a4 : Nat → Int32) (hf1 : p_X11_clearBank F 0 0 0 0 zA zA zA zA (0 : Int32) = some (e1_x0_14, e1_x0_15, e1_x0_19, e1_x0_20, e1_a1, e1_a2, e1_a3, e1_a4)) (hf2 : p_X11_finish F (0 : Int32) 0 0 0 0 0 e1_x0_14 e1_x0_15 e1_x0_19 e1_x0_20 0 0 e1_a1 e1_a2 e1_a3 e1_a4 zA (letF 56) zA zA zA zA zA zA (0 : Int32) = some (e2_x0_9, e2_x0_10, e2_x0_11, e2_x0_12, e2_x0_13, e2_x0_14, e2_x0_15, e2_x0_19, e2_x0_20, e2_x0_27, e2_x0_28, e2_a1, e2_a2, e2_a3, e2_a4, e2_a7, e2_a8, e2_a9, e2_a10, e2_a11, e2_a12)) (hf3 : p_X11_startAnew F 0 0 0 zA e2_a1 e2_a4 zA = some (e3_x0_49, e3_x0_50, e3_a1, e3_a4)) : Met l yX11_init (.code yX11_init cX11_init 1 none :: gtbl) ({ frames := 7, cells := 25, slots := 5394, locals := 161 } : Room) (PcN G [.ref h0] [(h0, .inr (11, [.null, .null, .null, .null, .null, .int 0, .null, .int 0, .int 0, .int 0, .int 0, .int 0, .int 0, .int 0, .int 0, .int 0, .int 0, .int 0, .null, .int 0, .int 0, .null, .null, .null, .null, .null, .null, .int 0, .int 0, .int 0, .int 0, .int 0, .int 0, .null, .null, .int 0, .int 0, .int 0, .null, .null, .null, .null, .null, .null, .int 0, .null, .null, .null, .null, .int 0, .int 0]))] sz) (QvN G (va_A [(h0, .inr (11, [.null, .null, .null, .null, .null, .int 0, .null, .int 0, .int 0, .int 0, .int 0, .int 0, .int 0, .int 0, .int 0, .int 0, .int 0, .int 0, .null, .int 0, .int 0, .null, .null, .null, .null, .null, .null, .int 0, .int 0, .int 0, .int 0, .int 0, .int 0, .null, .null, .int 0, .int 0, .int 0, .null, .null, .null, .null, .null, .null, .int 0, .null, .null, .null, .null, .int 0, .int 0]))] sz) (wN_X11 G h0 (gI [0, 0, 0, 0, 0, 0, 0, 0, (0 : Int32), e2_x0_9, e2_x0_10, e2_x0_11, e2_x0_12, e2_x0_13, e2_x0_14, e2_x0_15, 0, (-1 : Int32), 0, e2_x0_19, e2_x0_20, 0, 0, 0, 0, 0, 0, e2_x0_27, e2_x0_28, 0, 0, 0, 0, 0, 0, 0, 0, 0, 0, 0, 0, 0, 0, 0, 0, 0, 0, 0, 0, e3_x0_49, e3_x0_50]) (gA [e3_a1, e2_a1, e2_a2, e2_a3, e2_a4, zA, zA, zA, zA, zA, zA, zA, zA, zA, zA, zA, zA, zA, letF 56, zA, zA, e2_a7, e2_a8, e2_a9, e2_a10, e2_a11, e2_a12, zA, zA, zA, zA, zA, zA, zA, zA, zA, zA, zA, zA, zA, zA, zA, zA, zA, zA, zA, zA, zA, e3_a4, zA, zA]))) 25 5394 (va_A [(h0, .inr (11, [.null, .null, .null, .null, .null, .int 0, .null, .int 0, .int 0, .int 0, .int 0, .int 0, .int 0, .int 0, .int 0, .int 0, .int 0, .int 0, .null, .int 0, .int 0, .null, .null, .null, .null, .null, .null, .int 0, .int 0, .int 0, .int 0, .int 0, .int 0, .null, .null, .int 0, .int 0, .int 0, .null, .null, .null, .null, .null, .null, .int 0, .null, .null, .null, .null, .int 0, .int 0]))] sz) := by
  refine met_startN (by decide) (Nat.le_of_ble_eq_true rfl) ?_
  intro p e s m below meth c C hr hlk hin hK hP hD hA hS hX hO ls hl
  obtain ⟨hx, hb, hml, hown, ht0⟩ := C
  generalize va_A [(h0, .inr (11, [.null, .null, .null, .null, .null, .int 0, .null, .int 0, .int 0, .int 0, .int 0, .int 0, .int 0, .int 0, .int 0, .int 0, .int 0, .int 0, .null, .int 0, .int 0, .null, .null, .null, .null, .null, .null, .int 0, .int 0, .int 0, .int 0, .int 0, .int 0, .null, .null, .int 0, .int 0, .int 0, .null, .null, .null, .null, .null, .null, .int 0, .null, .null, .null, .null, .int 0, .int 0]))] sz = A at hD hA hS hX ⊢
  have hl : lv_has ls 1 [(0, .ref h0)] := hl
  refine lv_aload_n hx hb dX11_init_0 rfl (lv_at hl 0 rfl) ?_
  refine W.objInit hx hb hown (ht0 _ wd_1261) (ht0 _ wd_153) (ht0 _ wd_154) rfl (by rw [hml]; exact hl.1) rfl dX11_init_1 (Nat.le_of_ble_eq_true rfl) (Nat.le_of_ble_eq_true rfl) ?_
  refine W.eq (g2 := F0 m 4 ls []) rfl ?_
  refine lv_aload_n hx hb dX11_init_4 rfl (lv_at hl 0 rfl) ?_
  refine lv_bipush (v := (121 : Int32)) hx hb dX11_init_5 (by decide) ?_
  refine nw_I (n := (121 : Int32)) (N := 121) (rest := [.ref h0]) hx hb (ht0 _ wd_176) hK hP hD hS hA (by decide) (by decide) (by decide) (Nat.le_of_ble_eq_true rfl) (Nat.le_of_ble_eq_true rfl) dX11_init_7 (fun q7 H hP hD hS => ?_)
  refine W.widen (k := 1) (n := 121) (by decide) (by decide) ?_
  simp only [List.cons_append, List.nil_append, List.set_cons_zero, List.set_cons_succ] at hP hD
  refine va_putF (ci := 11) (v := .ref q7) (ty := (.array .int)) (C := RX11) (T := TX11) (N := 51) hx hb ht0 iX11 tyX11 tyX11_ok nmX11 hown hK hP hD hS 0 rfl rfl 0 (by decide) (ht0 _ wd_1406) (fun _ h9 => h9) rfl hin rfl rfl rfl rfl (Nat.le_of_ble_eq_true rfl) dX11_init_9 (fun H locs hP hD hS => ?_)
  simp only [List.cons_append, List.nil_append, List.set_cons_zero, List.set_cons_succ] at hP hD
  refine lv_aload_n hx hb dX11_init_12 rfl (lv_at hl 0 rfl) ?_
  refine lv_iconst (v := (2 : Int32)) hx hb dX11_init_13 (by decide) ?_
  refine nw_I (n := (2 : Int32)) (N := 2) (rest := [.ref h0]) hx hb (ht0 _ wd_176) hK hP hD hS hA (by decide) (by decide) (by decide) (Nat.le_of_ble_eq_true rfl) (Nat.le_of_ble_eq_true rfl) dX11_init_14 (fun q14 H hP hD hS => ?_)
  refine W.widen (k := 2) (n := 123) (by decide) (by decide) ?_
  simp only [List.cons_append, List.nil_append, List.set_cons_zero, List.set_cons_succ] at hP hD
  refine va_putF (ci := 11) (v := .ref q14) (ty := (.array .int)) (C := RX11) (T := TX11) (N := 51) hx hb ht0 iX11 tyX11 tyX11_ok nmX11 hown hK hP hD hS 0 rfl rfl 1 (by decide) (ht0 _ wd_1407) (fun _ h9 => h9) rfl hin rfl rfl rfl rfl (Nat.le_of_ble_eq_true rfl) dX11_init_16 (fun H locs hP hD hS => ?_)
  simp only [List.cons_append, List.nil_append, List.set_cons_zero, List.set_cons_succ] at hP hD
  refine lv_aload_n hx hb dX11_init_19 rfl (lv_at hl 0 rfl) ?_
  refine lv_iconst (v := (2 : Int32)) hx hb dX11_init_20 (by decide) ?_
  refine nw_I (n := (2 : Int32)) (N := 2) (rest := [.ref h0]) hx hb (ht0 _ wd_176) hK hP hD hS hA (by decide) (by decide) (by decide) (Nat.le_of_ble_eq_true rfl) (Nat.le_of_ble_eq_true rfl) dX11_init_21 (fun q21 H hP hD hS => ?_)
  refine W.widen (k := 3) (n := 125) (by decide) (by decide) ?_
  simp only [List.cons_append, List.nil_append, List.set_cons_zero, List.set_cons_succ] at hP hD
  refine va_putF (ci := 11) (v := .ref q21) (ty := (.array .int)) (C := RX11) (T := TX11) (N := 51) hx hb ht0 iX11 tyX11 tyX11_ok nmX11 hown hK hP hD hS 0 rfl rfl 2 (by decide) (ht0 _ wd_1408) (fun _ h9 => h9) rfl hin rfl rfl rfl rfl (Nat.le_of_ble_eq_true rfl) dX11_init_23 (fun H locs hP hD hS => ?_)
  simp only [List.cons_append, List.nil_append, List.set_cons_zero, List.set_cons_succ] at hP hD
  refine lv_aload_n hx hb dX11_init_26 rfl (lv_at hl 0 rfl) ?_
  refine lv_iconst (v := (2 : Int32)) hx hb dX11_init_27 (by decide) ?_
  refine nw_I (n := (2 : Int32)) (N := 2) (rest := [.ref h0]) hx hb (ht0 _ wd_176) hK hP hD hS hA (by decide) (by decide) (by decide) (Nat.le_of_ble_eq_true rfl) (Nat.le_of_ble_eq_true rfl) dX11_init_28 (fun q28 H hP hD hS => ?_)
  refine W.widen (k := 4) (n := 127) (by decide) (by decide) ?_
  simp only [List.cons_append, List.nil_append, List.set_cons_zero, List.set_cons_succ] at hP hD
  refine va_putF (ci := 11) (v := .ref q28) (ty := (.array .int)) (C := RX11) (T := TX11) (N := 51) hx hb ht0 iX11 tyX11 tyX11_ok nmX11 hown hK hP hD hS 0 rfl rfl 3 (by decide) (ht0 _ wd_1409) (fun _ h9 => h9) rfl hin rfl rfl rfl rfl (Nat.le_of_ble_eq_true rfl) dX11_init_30 (fun H locs hP hD hS => ?_)
  simp only [List.cons_append, List.nil_append, List.set_cons_zero, List.set_cons_succ] at hP hD
  refine lv_aload_n hx hb dX11_init_33 rfl (lv_at hl 0 rfl) ?_
  refine lv_sipush (v := (242 : Int32)) hx hb dX11_init_34 (by decide) ?_
  refine nw_I (n := (242 : Int32)) (N := 242) (rest := [.ref h0]) hx hb (ht0 _ wd_176) hK hP hD hS hA (by decide) (by decide) (by decide) (Nat.le_of_ble_eq_true rfl) (Nat.le_of_ble_eq_true rfl) dX11_init_37 (fun q37 H hP hD hS => ?_)
  refine W.widen (k := 5) (n := 369) (by decide) (by decide) ?_
  simp only [List.cons_append, List.nil_append, List.set_cons_zero, List.set_cons_succ] at hP hD
  refine va_putF (ci := 11) (v := .ref q37) (ty := (.array .int)) (C := RX11) (T := TX11) (N := 51) hx hb ht0 iX11 tyX11 tyX11_ok nmX11 hown hK hP hD hS 0 rfl rfl 4 (by decide) (ht0 _ wd_1410) (fun _ h9 => h9) rfl hin rfl rfl rfl rfl (Nat.le_of_ble_eq_true rfl) dX11_init_39 (fun H locs hP hD hS => ?_)
  simp only [List.cons_append, List.nil_append, List.set_cons_zero, List.set_cons_succ] at hP hD
  refine lv_aload_n hx hb dX11_init_42 rfl (lv_at hl 0 rfl) ?_
  refine lv_sipush (v := (600 : Int32)) hx hb dX11_init_43 (by decide) ?_
  refine nw_B (n := (600 : Int32)) (N := 600) (rest := [.ref h0]) hx hb (ht0 _ wd_782) hK hP hD hS hA (by decide) (by decide) (by decide) (Nat.le_of_ble_eq_true rfl) (Nat.le_of_ble_eq_true rfl) dX11_init_46 (fun q46 H hP hD hS => ?_)
  refine W.widen (k := 6) (n := 969) (by decide) (by decide) ?_
  simp only [List.cons_append, List.nil_append, List.set_cons_zero, List.set_cons_succ] at hP hD
  refine va_putF (ci := 11) (v := .ref q46) (ty := (.array .byte)) (C := RX11) (T := TX11) (N := 51) hx hb ht0 iX11 tyX11 tyX11_ok nmX11 hown hK hP hD hS 0 rfl rfl 6 (by decide) (ht0 _ wd_1412) (fun _ h9 => h9) rfl hin rfl rfl rfl rfl (Nat.le_of_ble_eq_true rfl) dX11_init_48 (fun H locs hP hD hS => ?_)
  simp only [List.cons_append, List.nil_append, List.set_cons_zero, List.set_cons_succ] at hP hD
  refine lv_aload_n hx hb dX11_init_51 rfl (lv_at hl 0 rfl) ?_
  refine lv_iconst (v := (-1 : Int32)) hx hb dX11_init_52 (by decide) ?_
  refine va_put (ci := 11) (v := .int (-1 : Int32)) (ty := .int) (C := RX11) (T := TX11) (N := 51) hx hb ht0 iX11 tyX11 tyX11_ok nmX11 hown hK hP hD hS 0 rfl rfl 17 (by decide) (ht0 _ wd_1423) (fun _ h9 => h9) rfl rfl rfl rfl (Nat.le_of_ble_eq_true rfl) dX11_init_53 (fun H locs hP hD hS => ?_)
  simp only [List.cons_append, List.nil_append, List.set_cons_zero, List.set_cons_succ] at hP hD
  refine lv_aload_n hx hb dX11_init_56 rfl (lv_at hl 0 rfl) ?_
  refine lv_bipush (v := (56 : Int32)) hx hb dX11_init_57 (by decide) ?_
  refine nw_B (n := (56 : Int32)) (N := 56) (rest := [.ref h0]) hx hb (ht0 _ wd_782) hK hP hD hS hA (by decide) (by decide) (by decide) (Nat.le_of_ble_eq_true rfl) (Nat.le_of_ble_eq_true rfl) dX11_init_59 (fun q59 H hP hD hS => ?_)
  refine W.widen (k := 7) (n := 1025) (by decide) (by decide) ?_
  simp only [List.cons_append, List.nil_append, List.set_cons_zero, List.set_cons_succ] at hP hD
  refine lv_dup hx hb dX11_init_61 rfl ?_
  refine lv_iconst (v := (0 : Int32)) hx hb dX11_init_62 (by decide) ?_
  refine lv_bipush (v := (100 : Int32)) hx hb dX11_init_63 (by decide) ?_
  refine va_bast hx hb hK hP hD hS 7 2 rfl rfl (show ¬ ixBad (0 : Int32) 56 by decide) dX11_init_65 (fun H locs hP hD hS => ?_)
  rw [show upd (fun _ => 0) (Int32.toNatClampNeg (0 : Int32)) (vp_nar .byte (100 : Int32)) = letF 1 from rfl] at hP hD
  simp only [List.cons_append, List.nil_append, List.set_cons_zero, List.set_cons_succ] at hP hD
  refine lv_dup hx hb dX11_init_66 rfl ?_
  refine lv_iconst (v := (1 : Int32)) hx hb dX11_init_67 (by decide) ?_
  refine lv_bipush (v := (97 : Int32)) hx hb dX11_init_68 (by decide) ?_
  refine va_bast hx hb hK hP hD hS 7 2 rfl rfl (show ¬ ixBad (1 : Int32) 56 by decide) dX11_init_70 (fun H locs hP hD hS => ?_)
  rw [show upd (letF 1) (Int32.toNatClampNeg (1 : Int32)) (vp_nar .byte (97 : Int32)) = letF 2 from rfl] at hP hD
  simp only [List.cons_append, List.nil_append, List.set_cons_zero, List.set_cons_succ] at hP hD
  refine lv_dup hx hb dX11_init_71 rfl ?_
  refine lv_iconst (v := (2 : Int32)) hx hb dX11_init_72 (by decide) ?_
  refine lv_bipush (v := (116 : Int32)) hx hb dX11_init_73 (by decide) ?_
  refine va_bast hx hb hK hP hD hS 7 2 rfl rfl (show ¬ ixBad (2 : Int32) 56 by decide) dX11_init_75 (fun H locs hP hD hS => ?_)
  rw [show upd (letF 2) (Int32.toNatClampNeg (2 : Int32)) (vp_nar .byte (116 : Int32)) = letF 3 from rfl] at hP hD
  simp only [List.cons_append, List.nil_append, List.set_cons_zero, List.set_cons_succ] at hP hD
  refine lv_dup hx hb dX11_init_76 rfl ?_
  refine lv_iconst (v := (3 : Int32)) hx hb dX11_init_77 (by decide) ?_
  refine lv_bipush (v := (97 : Int32)) hx hb dX11_init_78 (by decide) ?_
  refine va_bast hx hb hK hP hD hS 7 2 rfl rfl (show ¬ ixBad (3 : Int32) 56 by decide) dX11_init_80 (fun H locs hP hD hS => ?_)
  rw [show upd (letF 3) (Int32.toNatClampNeg (3 : Int32)) (vp_nar .byte (97 : Int32)) = letF 4 from rfl] at hP hD
  simp only [List.cons_append, List.nil_append, List.set_cons_zero, List.set_cons_succ] at hP hD
  refine lv_dup hx hb dX11_init_81 rfl ?_
  refine lv_iconst (v := (4 : Int32)) hx hb dX11_init_82 (by decide) ?_
  refine lv_bipush (v := (32 : Int32)) hx hb dX11_init_83 (by decide) ?_
  refine va_bast hx hb hK hP hD hS 7 2 rfl rfl (show ¬ ixBad (4 : Int32) 56 by decide) dX11_init_85 (fun H locs hP hD hS => ?_)
  rw [show upd (letF 4) (Int32.toNatClampNeg (4 : Int32)) (vp_nar .byte (32 : Int32)) = letF 5 from rfl] at hP hD
  simp only [List.cons_append, List.nil_append, List.set_cons_zero, List.set_cons_succ] at hP hD
  refine lv_dup hx hb dX11_init_86 rfl ?_
  refine lv_iconst (v := (5 : Int32)) hx hb dX11_init_87 (by decide) ?_
  refine lv_bipush (v := (99 : Int32)) hx hb dX11_init_88 (by decide) ?_
  refine va_bast hx hb hK hP hD hS 7 2 rfl rfl (show ¬ ixBad (5 : Int32) 56 by decide) dX11_init_90 (fun H locs hP hD hS => ?_)
  rw [show upd (letF 5) (Int32.toNatClampNeg (5 : Int32)) (vp_nar .byte (99 : Int32)) = letF 6 from rfl] at hP hD
  simp only [List.cons_append, List.nil_append, List.set_cons_zero, List.set_cons_succ] at hP hD
  refine lv_dup hx hb dX11_init_91 rfl ?_
  refine lv_bipush (v := (6 : Int32)) hx hb dX11_init_92 (by decide) ?_
  refine lv_bipush (v := (104 : Int32)) hx hb dX11_init_94 (by decide) ?_
  refine va_bast hx hb hK hP hD hS 7 2 rfl rfl (show ¬ ixBad (6 : Int32) 56 by decide) dX11_init_96 (fun H locs hP hD hS => ?_)
  rw [show upd (letF 6) (Int32.toNatClampNeg (6 : Int32)) (vp_nar .byte (104 : Int32)) = letF 7 from rfl] at hP hD
  simp only [List.cons_append, List.nil_append, List.set_cons_zero, List.set_cons_succ] at hP hD
  refine lv_dup hx hb dX11_init_97 rfl ?_
  refine lv_bipush (v := (7 : Int32)) hx hb dX11_init_98 (by decide) ?_
  refine lv_bipush (v := (101 : Int32)) hx hb dX11_init_100 (by decide) ?_
  refine va_bast hx hb hK hP hD hS 7 2 rfl rfl (show ¬ ixBad (7 : Int32) 56 by decide) dX11_init_102 (fun H locs hP hD hS => ?_)
  rw [show upd (letF 7) (Int32.toNatClampNeg (7 : Int32)) (vp_nar .byte (101 : Int32)) = letF 8 from rfl] at hP hD
  simp only [List.cons_append, List.nil_append, List.set_cons_zero, List.set_cons_succ] at hP hD
  refine lv_dup hx hb dX11_init_103 rfl ?_
  refine lv_bipush (v := (8 : Int32)) hx hb dX11_init_104 (by decide) ?_
  refine lv_bipush (v := (99 : Int32)) hx hb dX11_init_106 (by decide) ?_
  refine va_bast hx hb hK hP hD hS 7 2 rfl rfl (show ¬ ixBad (8 : Int32) 56 by decide) dX11_init_108 (fun H locs hP hD hS => ?_)
  rw [show upd (letF 8) (Int32.toNatClampNeg (8 : Int32)) (vp_nar .byte (99 : Int32)) = letF 9 from rfl] at hP hD
  simp only [List.cons_append, List.nil_append, List.set_cons_zero, List.set_cons_succ] at hP hD
  refine lv_dup hx hb dX11_init_109 rfl ?_
  refine lv_bipush (v := (9 : Int32)) hx hb dX11_init_110 (by decide) ?_
  refine lv_bipush (v := (107 : Int32)) hx hb dX11_init_112 (by decide) ?_
  refine va_bast hx hb hK hP hD hS 7 2 rfl rfl (show ¬ ixBad (9 : Int32) 56 by decide) dX11_init_114 (fun H locs hP hD hS => ?_)
  rw [show upd (letF 9) (Int32.toNatClampNeg (9 : Int32)) (vp_nar .byte (107 : Int32)) = letF 10 from rfl] at hP hD
  simp only [List.cons_append, List.nil_append, List.set_cons_zero, List.set_cons_succ] at hP hD
  refine lv_dup hx hb dX11_init_115 rfl ?_
  refine lv_bipush (v := (10 : Int32)) hx hb dX11_init_116 (by decide) ?_
  refine lv_bipush (v := (115 : Int32)) hx hb dX11_init_118 (by decide) ?_
  refine va_bast hx hb hK hP hD hS 7 2 rfl rfl (show ¬ ixBad (10 : Int32) 56 by decide) dX11_init_120 (fun H locs hP hD hS => ?_)
  rw [show upd (letF 10) (Int32.toNatClampNeg (10 : Int32)) (vp_nar .byte (115 : Int32)) = letF 11 from rfl] at hP hD
  simp only [List.cons_append, List.nil_append, List.set_cons_zero, List.set_cons_succ] at hP hD
  refine lv_dup hx hb dX11_init_121 rfl ?_
  refine lv_bipush (v := (11 : Int32)) hx hb dX11_init_122 (by decide) ?_
  refine lv_bipush (v := (32 : Int32)) hx hb dX11_init_124 (by decide) ?_
  refine va_bast hx hb hK hP hD hS 7 2 rfl rfl (show ¬ ixBad (11 : Int32) 56 by decide) dX11_init_126 (fun H locs hP hD hS => ?_)
  rw [show upd (letF 11) (Int32.toNatClampNeg (11 : Int32)) (vp_nar .byte (32 : Int32)) = letF 12 from rfl] at hP hD
  simp only [List.cons_append, List.nil_append, List.set_cons_zero, List.set_cons_succ] at hP hD
  refine lv_dup hx hb dX11_init_127 rfl ?_
  refine lv_bipush (v := (12 : Int32)) hx hb dX11_init_128 (by decide) ?_
  refine lv_bipush (v := (119 : Int32)) hx hb dX11_init_130 (by decide) ?_
  refine va_bast hx hb hK hP hD hS 7 2 rfl rfl (show ¬ ixBad (12 : Int32) 56 by decide) dX11_init_132 (fun H locs hP hD hS => ?_)
  rw [show upd (letF 12) (Int32.toNatClampNeg (12 : Int32)) (vp_nar .byte (119 : Int32)) = letF 13 from rfl] at hP hD
  simp only [List.cons_append, List.nil_append, List.set_cons_zero, List.set_cons_succ] at hP hD
  refine lv_dup hx hb dX11_init_133 rfl ?_
  refine lv_bipush (v := (13 : Int32)) hx hb dX11_init_134 (by decide) ?_
  refine lv_bipush (v := (97 : Int32)) hx hb dX11_init_136 (by decide) ?_
  refine va_bast hx hb hK hP hD hS 7 2 rfl rfl (show ¬ ixBad (13 : Int32) 56 by decide) dX11_init_138 (fun H locs hP hD hS => ?_)
  rw [show upd (letF 13) (Int32.toNatClampNeg (13 : Int32)) (vp_nar .byte (97 : Int32)) = letF 14 from rfl] at hP hD
  simp only [List.cons_append, List.nil_append, List.set_cons_zero, List.set_cons_succ] at hP hD
  refine lv_dup hx hb dX11_init_139 rfl ?_
  refine lv_bipush (v := (14 : Int32)) hx hb dX11_init_140 (by decide) ?_
  refine lv_bipush (v := (121 : Int32)) hx hb dX11_init_142 (by decide) ?_
  refine va_bast hx hb hK hP hD hS 7 2 rfl rfl (show ¬ ixBad (14 : Int32) 56 by decide) dX11_init_144 (fun H locs hP hD hS => ?_)
  rw [show upd (letF 14) (Int32.toNatClampNeg (14 : Int32)) (vp_nar .byte (121 : Int32)) = letF 15 from rfl] at hP hD
  simp only [List.cons_append, List.nil_append, List.set_cons_zero, List.set_cons_succ] at hP hD
  refine lv_dup hx hb dX11_init_145 rfl ?_
  refine lv_bipush (v := (15 : Int32)) hx hb dX11_init_146 (by decide) ?_
  refine lv_bipush (v := (32 : Int32)) hx hb dX11_init_148 (by decide) ?_
  refine va_bast hx hb hK hP hD hS 7 2 rfl rfl (show ¬ ixBad (15 : Int32) 56 by decide) dX11_init_150 (fun H locs hP hD hS => ?_)
  rw [show upd (letF 15) (Int32.toNatClampNeg (15 : Int32)) (vp_nar .byte (32 : Int32)) = letF 16 from rfl] at hP hD
  simp only [List.cons_append, List.nil_append, List.set_cons_zero, List.set_cons_succ] at hP hD
  refine lv_dup hx hb dX11_init_151 rfl ?_
  refine lv_bipush (v := (16 : Int32)) hx hb dX11_init_152 (by decide) ?_
  refine lv_bipush (v := (102 : Int32)) hx hb dX11_init_154 (by decide) ?_
  refine va_bast hx hb hK hP hD hS 7 2 rfl rfl (show ¬ ixBad (16 : Int32) 56 by decide) dX11_init_156 (fun H locs hP hD hS => ?_)
  rw [show upd (letF 16) (Int32.toNatClampNeg (16 : Int32)) (vp_nar .byte (102 : Int32)) = letF 17 from rfl] at hP hD
  simp only [List.cons_append, List.nil_append, List.set_cons_zero, List.set_cons_succ] at hP hD
  refine lv_dup hx hb dX11_init_157 rfl ?_
  refine lv_bipush (v := (17 : Int32)) hx hb dX11_init_158 (by decide) ?_
  refine lv_bipush (v := (105 : Int32)) hx hb dX11_init_160 (by decide) ?_
  refine va_bast hx hb hK hP hD hS 7 2 rfl rfl (show ¬ ixBad (17 : Int32) 56 by decide) dX11_init_162 (fun H locs hP hD hS => ?_)
  rw [show upd (letF 17) (Int32.toNatClampNeg (17 : Int32)) (vp_nar .byte (105 : Int32)) = letF 18 from rfl] at hP hD
  simp only [List.cons_append, List.nil_append, List.set_cons_zero, List.set_cons_succ] at hP hD
  refine lv_dup hx hb dX11_init_163 rfl ?_
  refine lv_bipush (v := (18 : Int32)) hx hb dX11_init_164 (by decide) ?_
  refine lv_bipush (v := (114 : Int32)) hx hb dX11_init_166 (by decide) ?_
  refine va_bast hx hb hK hP hD hS 7 2 rfl rfl (show ¬ ixBad (18 : Int32) 56 by decide) dX11_init_168 (fun H locs hP hD hS => ?_)
  rw [show upd (letF 18) (Int32.toNatClampNeg (18 : Int32)) (vp_nar .byte (114 : Int32)) = letF 19 from rfl] at hP hD
  simp only [List.cons_append, List.nil_append, List.set_cons_zero, List.set_cons_succ] at hP hD
  refine lv_dup hx hb dX11_init_169 rfl ?_
  refine lv_bipush (v := (19 : Int32)) hx hb dX11_init_170 (by decide) ?_
  refine lv_bipush (v := (115 : Int32)) hx hb dX11_init_172 (by decide) ?_
  refine va_bast hx hb hK hP hD hS 7 2 rfl rfl (show ¬ ixBad (19 : Int32) 56 by decide) dX11_init_174 (fun H locs hP hD hS => ?_)
  rw [show upd (letF 19) (Int32.toNatClampNeg (19 : Int32)) (vp_nar .byte (115 : Int32)) = letF 20 from rfl] at hP hD
  simp only [List.cons_append, List.nil_append, List.set_cons_zero, List.set_cons_succ] at hP hD
  refine lv_dup hx hb dX11_init_175 rfl ?_
  refine lv_bipush (v := (20 : Int32)) hx hb dX11_init_176 (by decide) ?_
  refine lv_bipush (v := (116 : Int32)) hx hb dX11_init_178 (by decide) ?_
  refine va_bast hx hb hK hP hD hS 7 2 rfl rfl (show ¬ ixBad (20 : Int32) 56 by decide) dX11_init_180 (fun H locs hP hD hS => ?_)
  rw [show upd (letF 20) (Int32.toNatClampNeg (20 : Int32)) (vp_nar .byte (116 : Int32)) = letF 21 from rfl] at hP hD
  simp only [List.cons_append, List.nil_append, List.set_cons_zero, List.set_cons_succ] at hP hD
  refine lv_dup hx hb dX11_init_181 rfl ?_
  refine lv_bipush (v := (21 : Int32)) hx hb dX11_init_182 (by decide) ?_
  refine lv_bipush (v := (32 : Int32)) hx hb dX11_init_184 (by decide) ?_
  refine va_bast hx hb hK hP hD hS 7 2 rfl rfl (show ¬ ixBad (21 : Int32) 56 by decide) dX11_init_186 (fun H locs hP hD hS => ?_)
  rw [show upd (letF 21) (Int32.toNatClampNeg (21 : Int32)) (vp_nar .byte (32 : Int32)) = letF 22 from rfl] at hP hD
  simp only [List.cons_append, List.nil_append, List.set_cons_zero, List.set_cons_succ] at hP hD
  refine lv_dup hx hb dX11_init_187 rfl ?_
  refine lv_bipush (v := (22 : Int32)) hx hb dX11_init_188 (by decide) ?_
  refine lv_bipush (v := (98 : Int32)) hx hb dX11_init_190 (by decide) ?_
  refine va_bast hx hb hK hP hD hS 7 2 rfl rfl (show ¬ ixBad (22 : Int32) 56 by decide) dX11_init_192 (fun H locs hP hD hS => ?_)
  rw [show upd (letF 22) (Int32.toNatClampNeg (22 : Int32)) (vp_nar .byte (98 : Int32)) = letF 23 from rfl] at hP hD
  simp only [List.cons_append, List.nil_append, List.set_cons_zero, List.set_cons_succ] at hP hD
  refine lv_dup hx hb dX11_init_193 rfl ?_
  refine lv_bipush (v := (23 : Int32)) hx hb dX11_init_194 (by decide) ?_
  refine lv_bipush (v := (97 : Int32)) hx hb dX11_init_196 (by decide) ?_
  refine va_bast hx hb hK hP hD hS 7 2 rfl rfl (show ¬ ixBad (23 : Int32) 56 by decide) dX11_init_198 (fun H locs hP hD hS => ?_)
  rw [show upd (letF 23) (Int32.toNatClampNeg (23 : Int32)) (vp_nar .byte (97 : Int32)) = letF 24 from rfl] at hP hD
  simp only [List.cons_append, List.nil_append, List.set_cons_zero, List.set_cons_succ] at hP hD
  refine lv_dup hx hb dX11_init_199 rfl ?_
  refine lv_bipush (v := (24 : Int32)) hx hb dX11_init_200 (by decide) ?_
  refine lv_bipush (v := (108 : Int32)) hx hb dX11_init_202 (by decide) ?_
  refine va_bast hx hb hK hP hD hS 7 2 rfl rfl (show ¬ ixBad (24 : Int32) 56 by decide) dX11_init_204 (fun H locs hP hD hS => ?_)
  rw [show upd (letF 24) (Int32.toNatClampNeg (24 : Int32)) (vp_nar .byte (108 : Int32)) = letF 25 from rfl] at hP hD
  simp only [List.cons_append, List.nil_append, List.set_cons_zero, List.set_cons_succ] at hP hD
  refine lv_dup hx hb dX11_init_205 rfl ?_
  refine lv_bipush (v := (25 : Int32)) hx hb dX11_init_206 (by decide) ?_
  refine lv_bipush (v := (97 : Int32)) hx hb dX11_init_208 (by decide) ?_
  refine va_bast hx hb hK hP hD hS 7 2 rfl rfl (show ¬ ixBad (25 : Int32) 56 by decide) dX11_init_210 (fun H locs hP hD hS => ?_)
  rw [show upd (letF 25) (Int32.toNatClampNeg (25 : Int32)) (vp_nar .byte (97 : Int32)) = letF 26 from rfl] at hP hD
  simp only [List.cons_append, List.nil_append, List.set_cons_zero, List.set_cons_succ] at hP hD
  refine lv_dup hx hb dX11_init_211 rfl ?_
  refine lv_bipush (v := (26 : Int32)) hx hb dX11_init_212 (by decide) ?_
  refine lv_bipush (v := (110 : Int32)) hx hb dX11_init_214 (by decide) ?_
  refine va_bast hx hb hK hP hD hS 7 2 rfl rfl (show ¬ ixBad (26 : Int32) 56 by decide) dX11_init_216 (fun H locs hP hD hS => ?_)
  rw [show upd (letF 26) (Int32.toNatClampNeg (26 : Int32)) (vp_nar .byte (110 : Int32)) = letF 27 from rfl] at hP hD
  simp only [List.cons_append, List.nil_append, List.set_cons_zero, List.set_cons_succ] at hP hD
  refine lv_dup hx hb dX11_init_217 rfl ?_
  refine lv_bipush (v := (27 : Int32)) hx hb dX11_init_218 (by decide) ?_
  refine lv_bipush (v := (99 : Int32)) hx hb dX11_init_220 (by decide) ?_
  refine va_bast hx hb hK hP hD hS 7 2 rfl rfl (show ¬ ixBad (27 : Int32) 56 by decide) dX11_init_222 (fun H locs hP hD hS => ?_)
  rw [show upd (letF 27) (Int32.toNatClampNeg (27 : Int32)) (vp_nar .byte (99 : Int32)) = letF 28 from rfl] at hP hD
  simp only [List.cons_append, List.nil_append, List.set_cons_zero, List.set_cons_succ] at hP hD
  refine lv_dup hx hb dX11_init_223 rfl ?_
  refine lv_bipush (v := (28 : Int32)) hx hb dX11_init_224 (by decide) ?_
  refine lv_bipush (v := (101 : Int32)) hx hb dX11_init_226 (by decide) ?_
  refine va_bast hx hb hK hP hD hS 7 2 rfl rfl (show ¬ ixBad (28 : Int32) 56 by decide) dX11_init_228 (fun H locs hP hD hS => ?_)
  rw [show upd (letF 28) (Int32.toNatClampNeg (28 : Int32)) (vp_nar .byte (101 : Int32)) = letF 29 from rfl] at hP hD
  simp only [List.cons_append, List.nil_append, List.set_cons_zero, List.set_cons_succ] at hP hD
  refine lv_dup hx hb dX11_init_229 rfl ?_
  refine lv_bipush (v := (29 : Int32)) hx hb dX11_init_230 (by decide) ?_
  refine lv_bipush (v := (100 : Int32)) hx hb dX11_init_232 (by decide) ?_
  refine va_bast hx hb hK hP hD hS 7 2 rfl rfl (show ¬ ixBad (29 : Int32) 56 by decide) dX11_init_234 (fun H locs hP hD hS => ?_)
  rw [show upd (letF 29) (Int32.toNatClampNeg (29 : Int32)) (vp_nar .byte (100 : Int32)) = letF 30 from rfl] at hP hD
  simp only [List.cons_append, List.nil_append, List.set_cons_zero, List.set_cons_succ] at hP hD
  refine lv_dup hx hb dX11_init_235 rfl ?_
  refine lv_bipush (v := (30 : Int32)) hx hb dX11_init_236 (by decide) ?_
  refine lv_bipush (v := (32 : Int32)) hx hb dX11_init_238 (by decide) ?_
  refine va_bast hx hb hK hP hD hS 7 2 rfl rfl (show ¬ ixBad (30 : Int32) 56 by decide) dX11_init_240 (fun H locs hP hD hS => ?_)
  rw [show upd (letF 30) (Int32.toNatClampNeg (30 : Int32)) (vp_nar .byte (32 : Int32)) = letF 31 from rfl] at hP hD
  simp only [List.cons_append, List.nil_append, List.set_cons_zero, List.set_cons_succ] at hP hD
  refine lv_dup hx hb dX11_init_241 rfl ?_
  refine lv_bipush (v := (31 : Int32)) hx hb dX11_init_242 (by decide) ?_
  refine lv_bipush (v := (112 : Int32)) hx hb dX11_init_244 (by decide) ?_
  refine va_bast hx hb hK hP hD hS 7 2 rfl rfl (show ¬ ixBad (31 : Int32) 56 by decide) dX11_init_246 (fun H locs hP hD hS => ?_)
  rw [show upd (letF 31) (Int32.toNatClampNeg (31 : Int32)) (vp_nar .byte (112 : Int32)) = letF 32 from rfl] at hP hD
  simp only [List.cons_append, List.nil_append, List.set_cons_zero, List.set_cons_succ] at hP hD
  refine lv_dup hx hb dX11_init_247 rfl ?_
  refine lv_bipush (v := (32 : Int32)) hx hb dX11_init_248 (by decide) ?_
  refine lv_bipush (v := (97 : Int32)) hx hb dX11_init_250 (by decide) ?_
  refine va_bast hx hb hK hP hD hS 7 2 rfl rfl (show ¬ ixBad (32 : Int32) 56 by decide) dX11_init_252 (fun H locs hP hD hS => ?_)
  rw [show upd (letF 32) (Int32.toNatClampNeg (32 : Int32)) (vp_nar .byte (97 : Int32)) = letF 33 from rfl] at hP hD
  simp only [List.cons_append, List.nil_append, List.set_cons_zero, List.set_cons_succ] at hP hD
  refine lv_dup hx hb dX11_init_253 rfl ?_
  refine lv_bipush (v := (33 : Int32)) hx hb dX11_init_254 (by decide) ?_
  refine lv_bipush (v := (105 : Int32)) hx hb dX11_init_256 (by decide) ?_
  refine va_bast hx hb hK hP hD hS 7 2 rfl rfl (show ¬ ixBad (33 : Int32) 56 by decide) dX11_init_258 (fun H locs hP hD hS => ?_)
  rw [show upd (letF 33) (Int32.toNatClampNeg (33 : Int32)) (vp_nar .byte (105 : Int32)) = letF 34 from rfl] at hP hD
  simp only [List.cons_append, List.nil_append, List.set_cons_zero, List.set_cons_succ] at hP hD
  refine lv_dup hx hb dX11_init_259 rfl ?_
  refine lv_bipush (v := (34 : Int32)) hx hb dX11_init_260 (by decide) ?_
  refine lv_bipush (v := (114 : Int32)) hx hb dX11_init_262 (by decide) ?_
  refine va_bast hx hb hK hP hD hS 7 2 rfl rfl (show ¬ ixBad (34 : Int32) 56 by decide) dX11_init_264 (fun H locs hP hD hS => ?_)
  rw [show upd (letF 34) (Int32.toNatClampNeg (34 : Int32)) (vp_nar .byte (114 : Int32)) = letF 35 from rfl] at hP hD
  simp only [List.cons_append, List.nil_append, List.set_cons_zero, List.set_cons_succ] at hP hD
  refine lv_dup hx hb dX11_init_265 rfl ?_
  refine lv_bipush (v := (35 : Int32)) hx hb dX11_init_266 (by decide) ?_
  refine lv_bipush (v := (101 : Int32)) hx hb dX11_init_268 (by decide) ?_
  refine va_bast hx hb hK hP hD hS 7 2 rfl rfl (show ¬ ixBad (35 : Int32) 56 by decide) dX11_init_270 (fun H locs hP hD hS => ?_)
  rw [show upd (letF 35) (Int32.toNatClampNeg (35 : Int32)) (vp_nar .byte (101 : Int32)) = letF 36 from rfl] at hP hD
  simp only [List.cons_append, List.nil_append, List.set_cons_zero, List.set_cons_succ] at hP hD
  refine lv_dup hx hb dX11_init_271 rfl ?_
  refine lv_bipush (v := (36 : Int32)) hx hb dX11_init_272 (by decide) ?_
  refine lv_bipush (v := (100 : Int32)) hx hb dX11_init_274 (by decide) ?_
  refine va_bast hx hb hK hP hD hS 7 2 rfl rfl (show ¬ ixBad (36 : Int32) 56 by decide) dX11_init_276 (fun H locs hP hD hS => ?_)
  rw [show upd (letF 36) (Int32.toNatClampNeg (36 : Int32)) (vp_nar .byte (100 : Int32)) = letF 37 from rfl] at hP hD
  simp only [List.cons_append, List.nil_append, List.set_cons_zero, List.set_cons_succ] at hP hD
  refine lv_dup hx hb dX11_init_277 rfl ?_
  refine lv_bipush (v := (37 : Int32)) hx hb dX11_init_278 (by decide) ?_
  refine lv_bipush (v := (32 : Int32)) hx hb dX11_init_280 (by decide) ?_
  refine va_bast hx hb hK hP hD hS 7 2 rfl rfl (show ¬ ixBad (37 : Int32) 56 by decide) dX11_init_282 (fun H locs hP hD hS => ?_)
  rw [show upd (letF 37) (Int32.toNatClampNeg (37 : Int32)) (vp_nar .byte (32 : Int32)) = letF 38 from rfl] at hP hD
  simp only [List.cons_append, List.nil_append, List.set_cons_zero, List.set_cons_succ] at hP hD
  refine lv_dup hx hb dX11_init_283 rfl ?_
  refine lv_bipush (v := (38 : Int32)) hx hb dX11_init_284 (by decide) ?_
  refine lv_bipush (v := (112 : Int32)) hx hb dX11_init_286 (by decide) ?_
  refine va_bast hx hb hK hP hD hS 7 2 rfl rfl (show ¬ ixBad (38 : Int32) 56 by decide) dX11_init_288 (fun H locs hP hD hS => ?_)
  rw [show upd (letF 38) (Int32.toNatClampNeg (38 : Int32)) (vp_nar .byte (112 : Int32)) = letF 39 from rfl] at hP hD
  simp only [List.cons_append, List.nil_append, List.set_cons_zero, List.set_cons_succ] at hP hD
  refine lv_dup hx hb dX11_init_289 rfl ?_
  refine lv_bipush (v := (39 : Int32)) hx hb dX11_init_290 (by decide) ?_
  refine lv_bipush (v := (97 : Int32)) hx hb dX11_init_292 (by decide) ?_
  refine va_bast hx hb hK hP hD hS 7 2 rfl rfl (show ¬ ixBad (39 : Int32) 56 by decide) dX11_init_294 (fun H locs hP hD hS => ?_)
  rw [show upd (letF 39) (Int32.toNatClampNeg (39 : Int32)) (vp_nar .byte (97 : Int32)) = letF 40 from rfl] at hP hD
  simp only [List.cons_append, List.nil_append, List.set_cons_zero, List.set_cons_succ] at hP hD
  refine lv_dup hx hb dX11_init_295 rfl ?_
  refine lv_bipush (v := (40 : Int32)) hx hb dX11_init_296 (by decide) ?_
  refine lv_bipush (v := (105 : Int32)) hx hb dX11_init_298 (by decide) ?_
  refine va_bast hx hb hK hP hD hS 7 2 rfl rfl (show ¬ ixBad (40 : Int32) 56 by decide) dX11_init_300 (fun H locs hP hD hS => ?_)
  rw [show upd (letF 40) (Int32.toNatClampNeg (40 : Int32)) (vp_nar .byte (105 : Int32)) = letF 41 from rfl] at hP hD
  simp only [List.cons_append, List.nil_append, List.set_cons_zero, List.set_cons_succ] at hP hD
  refine lv_dup hx hb dX11_init_301 rfl ?_
  refine lv_bipush (v := (41 : Int32)) hx hb dX11_init_302 (by decide) ?_
  refine lv_bipush (v := (114 : Int32)) hx hb dX11_init_304 (by decide) ?_
  refine va_bast hx hb hK hP hD hS 7 2 rfl rfl (show ¬ ixBad (41 : Int32) 56 by decide) dX11_init_306 (fun H locs hP hD hS => ?_)
  rw [show upd (letF 41) (Int32.toNatClampNeg (41 : Int32)) (vp_nar .byte (114 : Int32)) = letF 42 from rfl] at hP hD
  simp only [List.cons_append, List.nil_append, List.set_cons_zero, List.set_cons_succ] at hP hD
  refine lv_dup hx hb dX11_init_307 rfl ?_
  refine lv_bipush (v := (42 : Int32)) hx hb dX11_init_308 (by decide) ?_
  refine lv_bipush (v := (115 : Int32)) hx hb dX11_init_310 (by decide) ?_
  refine va_bast hx hb hK hP hD hS 7 2 rfl rfl (show ¬ ixBad (42 : Int32) 56 by decide) dX11_init_312 (fun H locs hP hD hS => ?_)
  rw [show upd (letF 42) (Int32.toNatClampNeg (42 : Int32)) (vp_nar .byte (115 : Int32)) = letF 43 from rfl] at hP hD
  simp only [List.cons_append, List.nil_append, List.set_cons_zero, List.set_cons_succ] at hP hD
  refine lv_dup hx hb dX11_init_313 rfl ?_
  refine lv_bipush (v := (43 : Int32)) hx hb dX11_init_314 (by decide) ?_
  refine lv_bipush (v := (32 : Int32)) hx hb dX11_init_316 (by decide) ?_
  refine va_bast hx hb hK hP hD hS 7 2 rfl rfl (show ¬ ixBad (43 : Int32) 56 by decide) dX11_init_318 (fun H locs hP hD hS => ?_)
  rw [show upd (letF 43) (Int32.toNatClampNeg (43 : Int32)) (vp_nar .byte (32 : Int32)) = letF 44 from rfl] at hP hD
  simp only [List.cons_append, List.nil_append, List.set_cons_zero, List.set_cons_succ] at hP hD
  refine lv_dup hx hb dX11_init_319 rfl ?_
  refine lv_bipush (v := (44 : Int32)) hx hb dX11_init_320 (by decide) ?_
  refine lv_bipush (v := (99 : Int32)) hx hb dX11_init_322 (by decide) ?_
  refine va_bast hx hb hK hP hD hS 7 2 rfl rfl (show ¬ ixBad (44 : Int32) 56 by decide) dX11_init_324 (fun H locs hP hD hS => ?_)
  rw [show upd (letF 44) (Int32.toNatClampNeg (44 : Int32)) (vp_nar .byte (99 : Int32)) = letF 45 from rfl] at hP hD
  simp only [List.cons_append, List.nil_append, List.set_cons_zero, List.set_cons_succ] at hP hD
  refine lv_dup hx hb dX11_init_325 rfl ?_
  refine lv_bipush (v := (45 : Int32)) hx hb dX11_init_326 (by decide) ?_
  refine lv_bipush (v := (111 : Int32)) hx hb dX11_init_328 (by decide) ?_
  refine va_bast hx hb hK hP hD hS 7 2 rfl rfl (show ¬ ixBad (45 : Int32) 56 by decide) dX11_init_330 (fun H locs hP hD hS => ?_)
  rw [show upd (letF 45) (Int32.toNatClampNeg (45 : Int32)) (vp_nar .byte (111 : Int32)) = letF 46 from rfl] at hP hD
  simp only [List.cons_append, List.nil_append, List.set_cons_zero, List.set_cons_succ] at hP hD
  refine lv_dup hx hb dX11_init_331 rfl ?_
  refine lv_bipush (v := (46 : Int32)) hx hb dX11_init_332 (by decide) ?_
  refine lv_bipush (v := (108 : Int32)) hx hb dX11_init_334 (by decide) ?_
  refine va_bast hx hb hK hP hD hS 7 2 rfl rfl (show ¬ ixBad (46 : Int32) 56 by decide) dX11_init_336 (fun H locs hP hD hS => ?_)
  rw [show upd (letF 46) (Int32.toNatClampNeg (46 : Int32)) (vp_nar .byte (108 : Int32)) = letF 47 from rfl] at hP hD
  simp only [List.cons_append, List.nil_append, List.set_cons_zero, List.set_cons_succ] at hP hD
  refine lv_dup hx hb dX11_init_337 rfl ?_
  refine lv_bipush (v := (47 : Int32)) hx hb dX11_init_338 (by decide) ?_
  refine lv_bipush (v := (117 : Int32)) hx hb dX11_init_340 (by decide) ?_
  refine va_bast hx hb hK hP hD hS 7 2 rfl rfl (show ¬ ixBad (47 : Int32) 56 by decide) dX11_init_342 (fun H locs hP hD hS => ?_)
  rw [show upd (letF 47) (Int32.toNatClampNeg (47 : Int32)) (vp_nar .byte (117 : Int32)) = letF 48 from rfl] at hP hD
  simp only [List.cons_append, List.nil_append, List.set_cons_zero, List.set_cons_succ] at hP hD
  refine lv_dup hx hb dX11_init_343 rfl ?_
  refine lv_bipush (v := (48 : Int32)) hx hb dX11_init_344 (by decide) ?_
  refine lv_bipush (v := (109 : Int32)) hx hb dX11_init_346 (by decide) ?_
  refine va_bast hx hb hK hP hD hS 7 2 rfl rfl (show ¬ ixBad (48 : Int32) 56 by decide) dX11_init_348 (fun H locs hP hD hS => ?_)
  rw [show upd (letF 48) (Int32.toNatClampNeg (48 : Int32)) (vp_nar .byte (109 : Int32)) = letF 49 from rfl] at hP hD
  simp only [List.cons_append, List.nil_append, List.set_cons_zero, List.set_cons_succ] at hP hD
  refine lv_dup hx hb dX11_init_349 rfl ?_
  refine lv_bipush (v := (49 : Int32)) hx hb dX11_init_350 (by decide) ?_
  refine lv_bipush (v := (110 : Int32)) hx hb dX11_init_352 (by decide) ?_
  refine va_bast hx hb hK hP hD hS 7 2 rfl rfl (show ¬ ixBad (49 : Int32) 56 by decide) dX11_init_354 (fun H locs hP hD hS => ?_)
  rw [show upd (letF 49) (Int32.toNatClampNeg (49 : Int32)) (vp_nar .byte (110 : Int32)) = letF 50 from rfl] at hP hD
  simp only [List.cons_append, List.nil_append, List.set_cons_zero, List.set_cons_succ] at hP hD
  refine lv_dup hx hb dX11_init_355 rfl ?_
  refine lv_bipush (v := (50 : Int32)) hx hb dX11_init_356 (by decide) ?_
  refine lv_bipush (v := (32 : Int32)) hx hb dX11_init_358 (by decide) ?_
  refine va_bast hx hb hK hP hD hS 7 2 rfl rfl (show ¬ ixBad (50 : Int32) 56 by decide) dX11_init_360 (fun H locs hP hD hS => ?_)
  rw [show upd (letF 50) (Int32.toNatClampNeg (50 : Int32)) (vp_nar .byte (32 : Int32)) = letF 51 from rfl] at hP hD
  simp only [List.cons_append, List.nil_append, List.set_cons_zero, List.set_cons_succ] at hP hD
  refine lv_dup hx hb dX11_init_361 rfl ?_
  refine lv_bipush (v := (51 : Int32)) hx hb dX11_init_362 (by decide) ?_
  refine lv_bipush (v := (119 : Int32)) hx hb dX11_init_364 (by decide) ?_
  refine va_bast hx hb hK hP hD hS 7 2 rfl rfl (show ¬ ixBad (51 : Int32) 56 by decide) dX11_init_366 (fun H locs hP hD hS => ?_)
  rw [show upd (letF 51) (Int32.toNatClampNeg (51 : Int32)) (vp_nar .byte (119 : Int32)) = letF 52 from rfl] at hP hD
  simp only [List.cons_append, List.nil_append, List.set_cons_zero, List.set_cons_succ] at hP hD
  refine lv_dup hx hb dX11_init_367 rfl ?_
  refine lv_bipush (v := (52 : Int32)) hx hb dX11_init_368 (by decide) ?_
  refine lv_bipush (v := (111 : Int32)) hx hb dX11_init_370 (by decide) ?_
  refine va_bast hx hb hK hP hD hS 7 2 rfl rfl (show ¬ ixBad (52 : Int32) 56 by decide) dX11_init_372 (fun H locs hP hD hS => ?_)
  rw [show upd (letF 52) (Int32.toNatClampNeg (52 : Int32)) (vp_nar .byte (111 : Int32)) = letF 53 from rfl] at hP hD
  simp only [List.cons_append, List.nil_append, List.set_cons_zero, List.set_cons_succ] at hP hD
  refine lv_dup hx hb dX11_init_373 rfl ?_
  refine lv_bipush (v := (53 : Int32)) hx hb dX11_init_374 (by decide) ?_
  refine lv_bipush (v := (114 : Int32)) hx hb dX11_init_376 (by decide) ?_
  refine va_bast hx hb hK hP hD hS 7 2 rfl rfl (show ¬ ixBad (53 : Int32) 56 by decide) dX11_init_378 (fun H locs hP hD hS => ?_)
  rw [show upd (letF 53) (Int32.toNatClampNeg (53 : Int32)) (vp_nar .byte (114 : Int32)) = letF 54 from rfl] at hP hD
  simp only [List.cons_append, List.nil_append, List.set_cons_zero, List.set_cons_succ] at hP hD
  refine lv_dup hx hb dX11_init_379 rfl ?_
  refine lv_bipush (v := (54 : Int32)) hx hb dX11_init_380 (by decide) ?_
  refine lv_bipush (v := (100 : Int32)) hx hb dX11_init_382 (by decide) ?_
  refine va_bast hx hb hK hP hD hS 7 2 rfl rfl (show ¬ ixBad (54 : Int32) 56 by decide) dX11_init_384 (fun H locs hP hD hS => ?_)
  rw [show upd (letF 54) (Int32.toNatClampNeg (54 : Int32)) (vp_nar .byte (100 : Int32)) = letF 55 from rfl] at hP hD
  simp only [List.cons_append, List.nil_append, List.set_cons_zero, List.set_cons_succ] at hP hD
  refine lv_dup hx hb dX11_init_385 rfl ?_
  refine lv_bipush (v := (55 : Int32)) hx hb dX11_init_386 (by decide) ?_
  refine lv_bipush (v := (32 : Int32)) hx hb dX11_init_388 (by decide) ?_
  refine va_bast hx hb hK hP hD hS 7 2 rfl rfl (show ¬ ixBad (55 : Int32) 56 by decide) dX11_init_390 (fun H locs hP hD hS => ?_)
  rw [show upd (letF 55) (Int32.toNatClampNeg (55 : Int32)) (vp_nar .byte (32 : Int32)) = letF 56 from rfl] at hP hD
  simp only [List.cons_append, List.nil_append, List.set_cons_zero, List.set_cons_succ] at hP hD
  refine va_putF (ci := 11) (v := .ref q59) (ty := (.array .byte)) (C := RX11) (T := TX11) (N := 51) hx hb ht0 iX11 tyX11 tyX11_ok nmX11 hown hK hP hD hS 0 rfl rfl 18 (by decide) (ht0 _ wd_1424) (fun _ h9 => h9) rfl hin rfl rfl rfl rfl (Nat.le_of_ble_eq_true rfl) dX11_init_391 (fun H locs hP hD hS => ?_)
  simp only [List.cons_append, List.nil_append, List.set_cons_zero, List.set_cons_succ] at hP hD
  refine lv_aload_n hx hb dX11_init_394 rfl (lv_at hl 0 rfl) ?_
  refine lv_sipush (v := (128 : Int32)) hx hb dX11_init_395 (by decide) ?_
  refine nw_I (n := (128 : Int32)) (N := 128) (rest := [.ref h0]) hx hb (ht0 _ wd_176) hK hP hD hS hA (by decide) (by decide) (by decide) (Nat.le_of_ble_eq_true rfl) (Nat.le_of_ble_eq_true rfl) dX11_init_398 (fun q398 H hP hD hS => ?_)
  refine W.widen (k := 8) (n := 1153) (by decide) (by decide) ?_
  simp only [List.cons_append, List.nil_append, List.set_cons_zero, List.set_cons_succ] at hP hD
  refine va_putF (ci := 11) (v := .ref q398) (ty := (.array .int)) (C := RX11) (T := TX11) (N := 51) hx hb ht0 iX11 tyX11 tyX11_ok nmX11 hown hK hP hD hS 0 rfl rfl 21 (by decide) (ht0 _ wd_1427) (fun _ h9 => h9) rfl hin rfl rfl rfl rfl (Nat.le_of_ble_eq_true rfl) dX11_init_400 (fun H locs hP hD hS => ?_)
  simp only [List.cons_append, List.nil_append, List.set_cons_zero, List.set_cons_succ] at hP hD
  refine lv_aload_n hx hb dX11_init_403 rfl (lv_at hl 0 rfl) ?_
  refine lv_bipush (v := (32 : Int32)) hx hb dX11_init_404 (by decide) ?_
  refine nw_I (n := (32 : Int32)) (N := 32) (rest := [.ref h0]) hx hb (ht0 _ wd_176) hK hP hD hS hA (by decide) (by decide) (by decide) (Nat.le_of_ble_eq_true rfl) (Nat.le_of_ble_eq_true rfl) dX11_init_406 (fun q406 H hP hD hS => ?_)
  refine W.widen (k := 9) (n := 1185) (by decide) (by decide) ?_
  simp only [List.cons_append, List.nil_append, List.set_cons_zero, List.set_cons_succ] at hP hD
  refine va_putF (ci := 11) (v := .ref q406) (ty := (.array .int)) (C := RX11) (T := TX11) (N := 51) hx hb ht0 iX11 tyX11 tyX11_ok nmX11 hown hK hP hD hS 0 rfl rfl 22 (by decide) (ht0 _ wd_1428) (fun _ h9 => h9) rfl hin rfl rfl rfl rfl (Nat.le_of_ble_eq_true rfl) dX11_init_408 (fun H locs hP hD hS => ?_)
  simp only [List.cons_append, List.nil_append, List.set_cons_zero, List.set_cons_succ] at hP hD
  refine lv_aload_n hx hb dX11_init_411 rfl (lv_at hl 0 rfl) ?_
  refine lv_bipush (v := (32 : Int32)) hx hb dX11_init_412 (by decide) ?_
  refine nw_I (n := (32 : Int32)) (N := 32) (rest := [.ref h0]) hx hb (ht0 _ wd_176) hK hP hD hS hA (by decide) (by decide) (by decide) (Nat.le_of_ble_eq_true rfl) (Nat.le_of_ble_eq_true rfl) dX11_init_414 (fun q414 H hP hD hS => ?_)
  refine W.widen (k := 10) (n := 1217) (by decide) (by decide) ?_
  simp only [List.cons_append, List.nil_append, List.set_cons_zero, List.set_cons_succ] at hP hD
  refine va_putF (ci := 11) (v := .ref q414) (ty := (.array .int)) (C := RX11) (T := TX11) (N := 51) hx hb ht0 iX11 tyX11 tyX11_ok nmX11 hown hK hP hD hS 0 rfl rfl 23 (by decide) (ht0 _ wd_1429) (fun _ h9 => h9) rfl hin rfl rfl rfl rfl (Nat.le_of_ble_eq_true rfl) dX11_init_416 (fun H locs hP hD hS => ?_)
  simp only [List.cons_append, List.nil_append, List.set_cons_zero, List.set_cons_succ] at hP hD
  refine lv_aload_n hx hb dX11_init_419 rfl (lv_at hl 0 rfl) ?_
  refine lv_bipush (v := (8 : Int32)) hx hb dX11_init_420 (by decide) ?_
  refine nw_I (n := (8 : Int32)) (N := 8) (rest := [.ref h0]) hx hb (ht0 _ wd_176) hK hP hD hS hA (by decide) (by decide) (by decide) (Nat.le_of_ble_eq_true rfl) (Nat.le_of_ble_eq_true rfl) dX11_init_422 (fun q422 H hP hD hS => ?_)
  refine W.widen (k := 11) (n := 1225) (by decide) (by decide) ?_
  simp only [List.cons_append, List.nil_append, List.set_cons_zero, List.set_cons_succ] at hP hD
  refine va_putF (ci := 11) (v := .ref q422) (ty := (.array .int)) (C := RX11) (T := TX11) (N := 51) hx hb ht0 iX11 tyX11 tyX11_ok nmX11 hown hK hP hD hS 0 rfl rfl 24 (by decide) (ht0 _ wd_1430) (fun _ h9 => h9) rfl hin rfl rfl rfl rfl (Nat.le_of_ble_eq_true rfl) dX11_init_424 (fun H locs hP hD hS => ?_)
  simp only [List.cons_append, List.nil_append, List.set_cons_zero, List.set_cons_succ] at hP hD
  refine lv_aload_n hx hb dX11_init_427 rfl (lv_at hl 0 rfl) ?_
  refine lv_sipush (v := (256 : Int32)) hx hb dX11_init_428 (by decide) ?_
  refine nw_Z (n := (256 : Int32)) (N := 256) (rest := [.ref h0]) hx hb (ht0 _ wd_202) hK hP hD hS hA (by decide) (by decide) (by decide) (Nat.le_of_ble_eq_true rfl) (Nat.le_of_ble_eq_true rfl) dX11_init_431 (fun q431 H hP hD hS => ?_)
  refine W.widen (k := 12) (n := 1481) (by decide) (by decide) ?_
  simp only [List.cons_append, List.nil_append, List.set_cons_zero, List.set_cons_succ] at hP hD
  refine va_putF (ci := 11) (v := .ref q431) (ty := (.array .boolean)) (C := RX11) (T := TX11) (N := 51) hx hb ht0 iX11 tyX11 tyX11_ok nmX11 hown hK hP hD hS 0 rfl rfl 25 (by decide) (ht0 _ wd_1431) (fun _ h9 => h9) rfl hin rfl rfl rfl rfl (Nat.le_of_ble_eq_true rfl) dX11_init_433 (fun H locs hP hD hS => ?_)
  simp only [List.cons_append, List.nil_append, List.set_cons_zero, List.set_cons_succ] at hP hD
  refine lv_aload_n hx hb dX11_init_436 rfl (lv_at hl 0 rfl) ?_
  refine lv_sipush (v := (256 : Int32)) hx hb dX11_init_437 (by decide) ?_
  refine nw_Z (n := (256 : Int32)) (N := 256) (rest := [.ref h0]) hx hb (ht0 _ wd_202) hK hP hD hS hA (by decide) (by decide) (by decide) (Nat.le_of_ble_eq_true rfl) (Nat.le_of_ble_eq_true rfl) dX11_init_440 (fun q440 H hP hD hS => ?_)
  refine W.widen (k := 13) (n := 1737) (by decide) (by decide) ?_
  simp only [List.cons_append, List.nil_append, List.set_cons_zero, List.set_cons_succ] at hP hD
  refine va_putF (ci := 11) (v := .ref q440) (ty := (.array .boolean)) (C := RX11) (T := TX11) (N := 51) hx hb ht0 iX11 tyX11 tyX11_ok nmX11 hown hK hP hD hS 0 rfl rfl 26 (by decide) (ht0 _ wd_1432) (fun _ h9 => h9) rfl hin rfl rfl rfl rfl (Nat.le_of_ble_eq_true rfl) dX11_init_442 (fun H locs hP hD hS => ?_)
  simp only [List.cons_append, List.nil_append, List.set_cons_zero, List.set_cons_succ] at hP hD
  refine lv_aload_n hx hb dX11_init_445 rfl (lv_at hl 0 rfl) ?_
  refine lv_iconst (v := (3 : Int32)) hx hb dX11_init_446 (by decide) ?_
  refine nw_I (n := (3 : Int32)) (N := 3) (rest := [.ref h0]) hx hb (ht0 _ wd_176) hK hP hD hS hA (by decide) (by decide) (by decide) (Nat.le_of_ble_eq_true rfl) (Nat.le_of_ble_eq_true rfl) dX11_init_447 (fun q447 H hP hD hS => ?_)
  refine W.widen (k := 14) (n := 1740) (by decide) (by decide) ?_
  simp only [List.cons_append, List.nil_append, List.set_cons_zero, List.set_cons_succ] at hP hD
  refine va_putF (ci := 11) (v := .ref q447) (ty := (.array .int)) (C := RX11) (T := TX11) (N := 51) hx hb ht0 iX11 tyX11 tyX11_ok nmX11 hown hK hP hD hS 0 rfl rfl 33 (by decide) (ht0 _ wd_1439) (fun _ h9 => h9) rfl hin rfl rfl rfl rfl (Nat.le_of_ble_eq_true rfl) dX11_init_449 (fun H locs hP hD hS => ?_)
  simp only [List.cons_append, List.nil_append, List.set_cons_zero, List.set_cons_succ] at hP hD
  refine lv_aload_n hx hb dX11_init_452 rfl (lv_at hl 0 rfl) ?_
  refine lv_sipush (v := (256 : Int32)) hx hb dX11_init_453 (by decide) ?_
  refine nw_I (n := (256 : Int32)) (N := 256) (rest := [.ref h0]) hx hb (ht0 _ wd_176) hK hP hD hS hA (by decide) (by decide) (by decide) (Nat.le_of_ble_eq_true rfl) (Nat.le_of_ble_eq_true rfl) dX11_init_456 (fun q456 H hP hD hS => ?_)
  refine W.widen (k := 15) (n := 1996) (by decide) (by decide) ?_
  simp only [List.cons_append, List.nil_append, List.set_cons_zero, List.set_cons_succ] at hP hD
  refine va_putF (ci := 11) (v := .ref q456) (ty := (.array .int)) (C := RX11) (T := TX11) (N := 51) hx hb ht0 iX11 tyX11 tyX11_ok nmX11 hown hK hP hD hS 0 rfl rfl 34 (by decide) (ht0 _ wd_1440) (fun _ h9 => h9) rfl hin rfl rfl rfl rfl (Nat.le_of_ble_eq_true rfl) dX11_init_458 (fun H locs hP hD hS => ?_)
  simp only [List.cons_append, List.nil_append, List.set_cons_zero, List.set_cons_succ] at hP hD
  refine lv_aload_n hx hb dX11_init_461 rfl (lv_at hl 0 rfl) ?_
  refine lv_sipush (v := (240 : Int32)) hx hb dX11_init_462 (by decide) ?_
  refine nw_I (n := (240 : Int32)) (N := 240) (rest := [.ref h0]) hx hb (ht0 _ wd_176) hK hP hD hS hA (by decide) (by decide) (by decide) (Nat.le_of_ble_eq_true rfl) (Nat.le_of_ble_eq_true rfl) dX11_init_465 (fun q465 H hP hD hS => ?_)
  refine W.widen (k := 16) (n := 2236) (by decide) (by decide) ?_
  simp only [List.cons_append, List.nil_append, List.set_cons_zero, List.set_cons_succ] at hP hD
  refine va_putF (ci := 11) (v := .ref q465) (ty := (.array .int)) (C := RX11) (T := TX11) (N := 51) hx hb ht0 iX11 tyX11 tyX11_ok nmX11 hown hK hP hD hS 0 rfl rfl 38 (by decide) (ht0 _ wd_1444) (fun _ h9 => h9) rfl hin rfl rfl rfl rfl (Nat.le_of_ble_eq_true rfl) dX11_init_467 (fun H locs hP hD hS => ?_)
  simp only [List.cons_append, List.nil_append, List.set_cons_zero, List.set_cons_succ] at hP hD
  refine lv_aload_n hx hb dX11_init_470 rfl (lv_at hl 0 rfl) ?_
  refine lv_sipush (v := (240 : Int32)) hx hb dX11_init_471 (by decide) ?_
  refine nw_I (n := (240 : Int32)) (N := 240) (rest := [.ref h0]) hx hb (ht0 _ wd_176) hK hP hD hS hA (by decide) (by decide) (by decide) (Nat.le_of_ble_eq_true rfl) (Nat.le_of_ble_eq_true rfl) dX11_init_474 (fun q474 H hP hD hS => ?_)
  refine W.widen (k := 17) (n := 2476) (by decide) (by decide) ?_
  simp only [List.cons_append, List.nil_append, List.set_cons_zero, List.set_cons_succ] at hP hD
  refine va_putF (ci := 11) (v := .ref q474) (ty := (.array .int)) (C := RX11) (T := TX11) (N := 51) hx hb ht0 iX11 tyX11 tyX11_ok nmX11 hown hK hP hD hS 0 rfl rfl 39 (by decide) (ht0 _ wd_1445) (fun _ h9 => h9) rfl hin rfl rfl rfl rfl (Nat.le_of_ble_eq_true rfl) dX11_init_476 (fun H locs hP hD hS => ?_)
  simp only [List.cons_append, List.nil_append, List.set_cons_zero, List.set_cons_succ] at hP hD
  refine lv_aload_n hx hb dX11_init_479 rfl (lv_at hl 0 rfl) ?_
  refine lv_sipush (v := (240 : Int32)) hx hb dX11_init_480 (by decide) ?_
  refine nw_I (n := (240 : Int32)) (N := 240) (rest := [.ref h0]) hx hb (ht0 _ wd_176) hK hP hD hS hA (by decide) (by decide) (by decide) (Nat.le_of_ble_eq_true rfl) (Nat.le_of_ble_eq_true rfl) dX11_init_483 (fun q483 H hP hD hS => ?_)
  refine W.widen (k := 18) (n := 2716) (by decide) (by decide) ?_
  simp only [List.cons_append, List.nil_append, List.set_cons_zero, List.set_cons_succ] at hP hD
  refine va_putF (ci := 11) (v := .ref q483) (ty := (.array .int)) (C := RX11) (T := TX11) (N := 51) hx hb ht0 iX11 tyX11 tyX11_ok nmX11 hown hK hP hD hS 0 rfl rfl 40 (by decide) (ht0 _ wd_1446) (fun _ h9 => h9) rfl hin rfl rfl rfl rfl (Nat.le_of_ble_eq_true rfl) dX11_init_485 (fun H locs hP hD hS => ?_)
  simp only [List.cons_append, List.nil_append, List.set_cons_zero, List.set_cons_succ] at hP hD
  refine lv_aload_n hx hb dX11_init_488 rfl (lv_at hl 0 rfl) ?_
  refine lv_sipush (v := (240 : Int32)) hx hb dX11_init_489 (by decide) ?_
  refine nw_I (n := (240 : Int32)) (N := 240) (rest := [.ref h0]) hx hb (ht0 _ wd_176) hK hP hD hS hA (by decide) (by decide) (by decide) (Nat.le_of_ble_eq_true rfl) (Nat.le_of_ble_eq_true rfl) dX11_init_492 (fun q492 H hP hD hS => ?_)
  refine W.widen (k := 19) (n := 2956) (by decide) (by decide) ?_
  simp only [List.cons_append, List.nil_append, List.set_cons_zero, List.set_cons_succ] at hP hD
  refine va_putF (ci := 11) (v := .ref q492) (ty := (.array .int)) (C := RX11) (T := TX11) (N := 51) hx hb ht0 iX11 tyX11 tyX11_ok nmX11 hown hK hP hD hS 0 rfl rfl 41 (by decide) (ht0 _ wd_1447) (fun _ h9 => h9) rfl hin rfl rfl rfl rfl (Nat.le_of_ble_eq_true rfl) dX11_init_494 (fun H locs hP hD hS => ?_)
  simp only [List.cons_append, List.nil_append, List.set_cons_zero, List.set_cons_succ] at hP hD
  refine lv_aload_n hx hb dX11_init_497 rfl (lv_at hl 0 rfl) ?_
  refine lv_sipush (v := (240 : Int32)) hx hb dX11_init_498 (by decide) ?_
  refine nw_I (n := (240 : Int32)) (N := 240) (rest := [.ref h0]) hx hb (ht0 _ wd_176) hK hP hD hS hA (by decide) (by decide) (by decide) (Nat.le_of_ble_eq_true rfl) (Nat.le_of_ble_eq_true rfl) dX11_init_501 (fun q501 H hP hD hS => ?_)
  refine W.widen (k := 20) (n := 3196) (by decide) (by decide) ?_
  simp only [List.cons_append, List.nil_append, List.set_cons_zero, List.set_cons_succ] at hP hD
  refine va_putF (ci := 11) (v := .ref q501) (ty := (.array .int)) (C := RX11) (T := TX11) (N := 51) hx hb ht0 iX11 tyX11 tyX11_ok nmX11 hown hK hP hD hS 0 rfl rfl 42 (by decide) (ht0 _ wd_1448) (fun _ h9 => h9) rfl hin rfl rfl rfl rfl (Nat.le_of_ble_eq_true rfl) dX11_init_503 (fun H locs hP hD hS => ?_)
  simp only [List.cons_append, List.nil_append, List.set_cons_zero, List.set_cons_succ] at hP hD
  refine lv_aload_n hx hb dX11_init_506 rfl (lv_at hl 0 rfl) ?_
  refine lv_sipush (v := (260 : Int32)) hx hb dX11_init_507 (by decide) ?_
  refine nw_I (n := (260 : Int32)) (N := 260) (rest := [.ref h0]) hx hb (ht0 _ wd_176) hK hP hD hS hA (by decide) (by decide) (by decide) (Nat.le_of_ble_eq_true rfl) (Nat.le_of_ble_eq_true rfl) dX11_init_510 (fun q510 H hP hD hS => ?_)
  refine W.widen (k := 21) (n := 3456) (by decide) (by decide) ?_
  simp only [List.cons_append, List.nil_append, List.set_cons_zero, List.set_cons_succ] at hP hD
  refine va_putF (ci := 11) (v := .ref q510) (ty := (.array .int)) (C := RX11) (T := TX11) (N := 51) hx hb ht0 iX11 tyX11 tyX11_ok nmX11 hown hK hP hD hS 0 rfl rfl 43 (by decide) (ht0 _ wd_1449) (fun _ h9 => h9) rfl hin rfl rfl rfl rfl (Nat.le_of_ble_eq_true rfl) dX11_init_512 (fun H locs hP hD hS => ?_)
  simp only [List.cons_append, List.nil_append, List.set_cons_zero, List.set_cons_succ] at hP hD
  refine lv_aload_n hx hb dX11_init_515 rfl (lv_at hl 0 rfl) ?_
  refine lv_bipush (v := (121 : Int32)) hx hb dX11_init_516 (by decide) ?_
  refine nw_I (n := (121 : Int32)) (N := 121) (rest := [.ref h0]) hx hb (ht0 _ wd_176) hK hP hD hS hA (by decide) (by decide) (by decide) (Nat.le_of_ble_eq_true rfl) (Nat.le_of_ble_eq_true rfl) dX11_init_518 (fun q518 H hP hD hS => ?_)
  refine W.widen (k := 22) (n := 3577) (by decide) (by decide) ?_
  simp only [List.cons_append, List.nil_append, List.set_cons_zero, List.set_cons_succ] at hP hD
  refine va_putF (ci := 11) (v := .ref q518) (ty := (.array .int)) (C := RX11) (T := TX11) (N := 51) hx hb ht0 iX11 tyX11 tyX11_ok nmX11 hown hK hP hD hS 0 rfl rfl 45 (by decide) (ht0 _ wd_1451) (fun _ h9 => h9) rfl hin rfl rfl rfl rfl (Nat.le_of_ble_eq_true rfl) dX11_init_520 (fun H locs hP hD hS => ?_)
  simp only [List.cons_append, List.nil_append, List.set_cons_zero, List.set_cons_succ] at hP hD
  refine lv_aload_n hx hb dX11_init_523 rfl (lv_at hl 0 rfl) ?_
  refine lv_sipush (v := (1573 : Int32)) hx hb dX11_init_524 (by decide) ?_
  refine nw_I (n := (1573 : Int32)) (N := 1573) (rest := [.ref h0]) hx hb (ht0 _ wd_176) hK hP hD hS hA (by decide) (by decide) (by decide) (Nat.le_of_ble_eq_true rfl) (Nat.le_of_ble_eq_true rfl) dX11_init_527 (fun q527 H hP hD hS => ?_)
  refine W.widen (k := 23) (n := 5150) (by decide) (by decide) ?_
  simp only [List.cons_append, List.nil_append, List.set_cons_zero, List.set_cons_succ] at hP hD
  refine va_putF (ci := 11) (v := .ref q527) (ty := (.array .int)) (C := RX11) (T := TX11) (N := 51) hx hb ht0 iX11 tyX11 tyX11_ok nmX11 hown hK hP hD hS 0 rfl rfl 46 (by decide) (ht0 _ wd_1452) (fun _ h9 => h9) rfl hin rfl rfl rfl rfl (Nat.le_of_ble_eq_true rfl) dX11_init_529 (fun H locs hP hD hS => ?_)
  simp only [List.cons_append, List.nil_append, List.set_cons_zero, List.set_cons_succ] at hP hD
  refine lv_aload_n hx hb dX11_init_532 rfl (lv_at hl 0 rfl) ?_
  refine lv_sipush (v := (242 : Int32)) hx hb dX11_init_533 (by decide) ?_
  refine nw_I (n := (242 : Int32)) (N := 242) (rest := [.ref h0]) hx hb (ht0 _ wd_176) hK hP hD hS hA (by decide) (by decide) (by decide) (Nat.le_of_ble_eq_true rfl) (Nat.le_of_ble_eq_true rfl) dX11_init_536 (fun q536 H hP hD hS => ?_)
  refine W.widen (k := 24) (n := 5392) (by decide) (by decide) ?_
  simp only [List.cons_append, List.nil_append, List.set_cons_zero, List.set_cons_succ] at hP hD
  refine va_putF (ci := 11) (v := .ref q536) (ty := (.array .int)) (C := RX11) (T := TX11) (N := 51) hx hb ht0 iX11 tyX11 tyX11_ok nmX11 hown hK hP hD hS 0 rfl rfl 47 (by decide) (ht0 _ wd_1453) (fun _ h9 => h9) rfl hin rfl rfl rfl rfl (Nat.le_of_ble_eq_true rfl) dX11_init_538 (fun H locs hP hD hS => ?_)
  simp only [List.cons_append, List.nil_append, List.set_cons_zero, List.set_cons_succ] at hP hD
  refine lv_aload_n hx hb dX11_init_541 rfl (lv_at hl 0 rfl) ?_
  refine lv_iconst (v := (2 : Int32)) hx hb dX11_init_542 (by decide) ?_
  refine nw_Z (n := (2 : Int32)) (N := 2) (rest := [.ref h0]) hx hb (ht0 _ wd_202) hK hP hD hS hA (by decide) (by decide) (by decide) (Nat.le_of_ble_eq_true rfl) (Nat.le_of_ble_eq_true rfl) dX11_init_543 (fun q543 H hP hD hS => ?_)
  refine W.widen (k := 25) (n := 5394) (by decide) (by decide) ?_
  simp only [List.cons_append, List.nil_append, List.set_cons_zero, List.set_cons_succ] at hP hD
  refine va_putF (ci := 11) (v := .ref q543) (ty := (.array .boolean)) (C := RX11) (T := TX11) (N := 51) hx hb ht0 iX11 tyX11 tyX11_ok nmX11 hown hK hP hD hS 0 rfl rfl 48 (by decide) (ht0 _ wd_1454) (fun _ h9 => h9) rfl hin rfl rfl rfl rfl (Nat.le_of_ble_eq_true rfl) dX11_init_545 (fun H locs hP hD hS => ?_)
  simp only [List.cons_append, List.nil_append, List.set_cons_zero, List.set_cons_succ] at hP hD
  refine lv_aload_n hx hb dX11_init_548 rfl (lv_at hl 0 rfl) ?_
  refine lv_iconst (v := (0 : Int32)) hx hb dX11_init_549 (by decide) ?_
  have hP : va_P G.1 vwCl (wM G h0 (gN [q7, q14, q21, q28, q37, 0, q46, 0, 0, 0, 0, 0, 0, 0, 0, 0, 0, 0, q59, 0, 0, q398, q406, q414, q422, q431, q440, 0, 0, 0, 0, 0, 0, q447, q456, 0, 0, 0, q465, q474, q483, q492, q501, q510, 0, q518, q527, q536, q543, 0, 0]) (gI [0, 0, 0, 0, 0, 0, 0, 0, 0, 0, 0, 0, 0, 0, 0, 0, 0, (-1 : Int32), 0, 0, 0, 0, 0, 0, 0, 0, 0, 0, 0, 0, 0, 0, 0, 0, 0, 0, 0, 0, 0, 0, 0, 0, 0, 0, 0, 0, 0, 0, 0, 0, 0]) (gA [zA, zA, zA, zA, zA, zA, zA, zA, zA, zA, zA, zA, zA, zA, zA, zA, zA, zA, letF 56, zA, zA, zA, zA, zA, zA, zA, zA, zA, zA, zA, zA, zA, zA, zA, zA, zA, zA, zA, zA, zA, zA, zA, zA, zA, zA, zA, zA, zA, zA, zA, zA])) H := hP
  have hD : va_D A (wM G h0 (gN [q7, q14, q21, q28, q37, 0, q46, 0, 0, 0, 0, 0, 0, 0, 0, 0, 0, 0, q59, 0, 0, q398, q406, q414, q422, q431, q440, 0, 0, 0, 0, 0, 0, q447, q456, 0, 0, 0, q465, q474, q483, q492, q501, q510, 0, q518, q527, q536, q543, 0, 0]) (gI [0, 0, 0, 0, 0, 0, 0, 0, 0, 0, 0, 0, 0, 0, 0, 0, 0, (-1 : Int32), 0, 0, 0, 0, 0, 0, 0, 0, 0, 0, 0, 0, 0, 0, 0, 0, 0, 0, 0, 0, 0, 0, 0, 0, 0, 0, 0, 0, 0, 0, 0, 0, 0]) (gA [zA, zA, zA, zA, zA, zA, zA, zA, zA, zA, zA, zA, zA, zA, zA, zA, zA, zA, letF 56, zA, zA, zA, zA, zA, zA, zA, zA, zA, zA, zA, zA, zA, zA, zA, zA, zA, zA, zA, zA, zA, zA, zA, zA, zA, zA, zA, zA, zA, zA, zA, zA])) := hD
  refine cl_Vv (w2 := (wM G h0 (gN [q7, q14, q21, q28, q37, 0, q46, 0, 0, 0, 0, 0, 0, 0, 0, 0, 0, 0, q59, 0, 0, q398, q406, q414, q422, q431, q440, 0, 0, 0, 0, 0, 0, q447, q456, 0, 0, 0, q465, q474, q483, q492, q501, q510, 0, q518, q527, q536, q543, 0, 0]) (gI [0, 0, 0, 0, 0, 0, 0, 0, 0, 0, 0, 0, 0, 0, e1_x0_14, e1_x0_15, 0, (-1 : Int32), 0, e1_x0_19, e1_x0_20, 0, 0, 0, 0, 0, 0, 0, 0, 0, 0, 0, 0, 0, 0, 0, 0, 0, 0, 0, 0, 0, 0, 0, 0, 0, 0, 0, 0, 0, 0]) (gA [zA, e1_a1, e1_a2, e1_a3, e1_a4, zA, zA, zA, zA, zA, zA, zA, zA, zA, zA, zA, zA, zA, letF 56, zA, zA, zA, zA, zA, zA, zA, zA, zA, zA, zA, zA, zA, zA, zA, zA, zA, zA, zA, zA, zA, zA, zA, zA, zA, zA, zA, zA, zA, zA, zA, zA]))) (As := [.int (0 : Int32)]) (rest := []) ⟨hx, hb, hml, hown, ht0⟩ (c_X11_clearBank l G h0 q14 q21 q28 q37 q7 q46 q59 q398 q406 q414 q422 q431 q440 q447 q456 q465 q474 q483 q492 q501 q510 q518 q527 q536 q543 _ 0 0 0 0 0 0 0 0 0 0 0 (-1 : Int32) 0 0 0 0 0 0 0 0 0 0 0 0 0 0 zA zA zA zA F (0 : Int32) _ _ _ _ _ _ _ _ hf1) yk_X11_clearBank wd_1262 ⟨rfl, rfl, by decide, by decide⟩ ⟨Nat.le_refl _, Nat.le_refl _⟩ hX hK hP hD hS hA [0, 2, 3, 4, 5] [1, 6, 7, 8, 9, 10, 11, 12, 13, 14, 15, 16, 17, 18, 19, 20, 21, 22, 23, 24, 25] [21, 0, 22, 23, 24, 25, 1, 2, 3, 4, 5, 6, 7, 8, 9, 10, 11, 12, 13, 14, 15, 16, 17, 18, 19, 20] (va_recv hK hP (ci := 11) (q0 := 0) rfl rfl) rfl rfl (by decide) rfl rfl rfl rfl rfl hl.1 rfl (Nat.le_of_ble_eq_true rfl) dX11_init_550 (fun H locs hP hD hS => ?_)
  refine lv_aload_n hx hb dX11_init_553 rfl (lv_at hl 0 rfl) ?_
  refine lv_iconst (v := (0 : Int32)) hx hb dX11_init_554 (by decide) ?_
  refine va_put (ci := 11) (v := .int (0 : Int32)) (ty := .int) (C := RX11) (T := TX11) (N := 51) hx hb ht0 iX11 tyX11 tyX11_ok nmX11 hown hK hP hD hS 0 rfl rfl 8 (by decide) (ht0 _ wd_1414) (fun _ h9 => h9) rfl rfl rfl rfl (Nat.le_of_ble_eq_true rfl) dX11_init_555 (fun H locs hP hD hS => ?_)
  have hP : va_P G.1 vwCl (wM G h0 (gN [q7, q14, q21, q28, q37, 0, q46, 0, 0, 0, 0, 0, 0, 0, 0, 0, 0, 0, q59, 0, 0, q398, q406, q414, q422, q431, q440, 0, 0, 0, 0, 0, 0, q447, q456, 0, 0, 0, q465, q474, q483, q492, q501, q510, 0, q518, q527, q536, q543, 0, 0]) (gI [0, 0, 0, 0, 0, 0, 0, 0, (0 : Int32), 0, 0, 0, 0, 0, e1_x0_14, e1_x0_15, 0, (-1 : Int32), 0, e1_x0_19, e1_x0_20, 0, 0, 0, 0, 0, 0, 0, 0, 0, 0, 0, 0, 0, 0, 0, 0, 0, 0, 0, 0, 0, 0, 0, 0, 0, 0, 0, 0, 0, 0]) (gA [zA, e1_a1, e1_a2, e1_a3, e1_a4, zA, zA, zA, zA, zA, zA, zA, zA, zA, zA, zA, zA, zA, letF 56, zA, zA, zA, zA, zA, zA, zA, zA, zA, zA, zA, zA, zA, zA, zA, zA, zA, zA, zA, zA, zA, zA, zA, zA, zA, zA, zA, zA, zA, zA, zA, zA])) H := hP
  have hD : va_D A (wM G h0 (gN [q7, q14, q21, q28, q37, 0, q46, 0, 0, 0, 0, 0, 0, 0, 0, 0, 0, 0, q59, 0, 0, q398, q406, q414, q422, q431, q440, 0, 0, 0, 0, 0, 0, q447, q456, 0, 0, 0, q465, q474, q483, q492, q501, q510, 0, q518, q527, q536, q543, 0, 0]) (gI [0, 0, 0, 0, 0, 0, 0, 0, (0 : Int32), 0, 0, 0, 0, 0, e1_x0_14, e1_x0_15, 0, (-1 : Int32), 0, e1_x0_19, e1_x0_20, 0, 0, 0, 0, 0, 0, 0, 0, 0, 0, 0, 0, 0, 0, 0, 0, 0, 0, 0, 0, 0, 0, 0, 0, 0, 0, 0, 0, 0, 0]) (gA [zA, e1_a1, e1_a2, e1_a3, e1_a4, zA, zA, zA, zA, zA, zA, zA, zA, zA, zA, zA, zA, zA, letF 56, zA, zA, zA, zA, zA, zA, zA, zA, zA, zA, zA, zA, zA, zA, zA, zA, zA, zA, zA, zA, zA, zA, zA, zA, zA, zA, zA, zA, zA, zA, zA, zA])) := hD
  refine lv_aload_n hx hb dX11_init_558 rfl (lv_at hl 0 rfl) ?_
  refine lv_iconst (v := (0 : Int32)) hx hb dX11_init_559 (by decide) ?_
  refine cl_Vv (w2 := (wM G h0 (gN [q7, q14, q21, q28, q37, 0, q46, 0, 0, 0, 0, 0, 0, 0, 0, 0, 0, 0, q59, 0, 0, q398, q406, q414, q422, q431, q440, 0, 0, 0, 0, 0, 0, q447, q456, 0, 0, 0, q465, q474, q483, q492, q501, q510, 0, q518, q527, q536, q543, 0, 0]) (gI [0, 0, 0, 0, 0, 0, 0, 0, (0 : Int32), e2_x0_9, e2_x0_10, e2_x0_11, e2_x0_12, e2_x0_13, e2_x0_14, e2_x0_15, 0, (-1 : Int32), 0, e2_x0_19, e2_x0_20, 0, 0, 0, 0, 0, 0, e2_x0_27, e2_x0_28, 0, 0, 0, 0, 0, 0, 0, 0, 0, 0, 0, 0, 0, 0, 0, 0, 0, 0, 0, 0, 0, 0]) (gA [zA, e2_a1, e2_a2, e2_a3, e2_a4, zA, zA, zA, zA, zA, zA, zA, zA, zA, zA, zA, zA, zA, letF 56, zA, zA, e2_a7, e2_a8, e2_a9, e2_a10, e2_a11, e2_a12, zA, zA, zA, zA, zA, zA, zA, zA, zA, zA, zA, zA, zA, zA, zA, zA, zA, zA, zA, zA, zA, zA, zA, zA]))) (As := [.int (0 : Int32)]) (rest := []) ⟨hx, hb, hml, hown, ht0⟩ (c_X11_finish l G h0 q14 q21 q28 q37 q46 q59 q398 q406 q414 q422 q431 q440 q7 q447 q456 q465 q474 q483 q492 q501 q510 q518 q527 q536 q543 _ 0 0 (0 : Int32) 0 0 0 0 0 e1_x0_14 e1_x0_15 0 (-1 : Int32) e1_x0_19 e1_x0_20 0 0 0 0 0 0 0 0 0 0 0 0 e1_a1 e1_a2 e1_a3 e1_a4 zA (letF 56) zA zA zA zA zA zA F (0 : Int32) _ _ _ _ _ _ _ _ _ _ _ _ _ _ _ _ _ _ _ _ _ hf2) yk_X11_finish wd_1266 ⟨rfl, rfl, by decide, by decide⟩ ⟨Nat.le_refl _, Nat.le_refl _⟩ hX hK hP hD hS hA [0, 2, 3, 4, 5, 6, 7, 8, 9, 10, 11, 12, 13] [1, 14, 15, 16, 17, 18, 19, 20, 21, 22, 23, 24, 25] [13, 0, 14, 15, 16, 17, 18, 19, 20, 21, 22, 23, 24, 25, 1, 2, 3, 4, 5, 6, 7, 8, 9, 10, 11, 12] (va_recv hK hP (ci := 11) (q0 := 0) rfl rfl) rfl rfl (by decide) rfl rfl rfl rfl rfl hl.1 rfl (Nat.le_of_ble_eq_true rfl) dX11_init_560 (fun H locs hP hD hS => ?_)
  refine lv_aload_n hx hb dX11_init_563 rfl (lv_at hl 0 rfl) ?_
  refine cl_Vv (w2 := (wM G h0 (gN [q7, q14, q21, q28, q37, 0, q46, 0, 0, 0, 0, 0, 0, 0, 0, 0, 0, 0, q59, 0, 0, q398, q406, q414, q422, q431, q440, 0, 0, 0, 0, 0, 0, q447, q456, 0, 0, 0, q465, q474, q483, q492, q501, q510, 0, q518, q527, q536, q543, 0, 0]) (gI [0, 0, 0, 0, 0, 0, 0, 0, (0 : Int32), e2_x0_9, e2_x0_10, e2_x0_11, e2_x0_12, e2_x0_13, e2_x0_14, e2_x0_15, 0, (-1 : Int32), 0, e2_x0_19, e2_x0_20, 0, 0, 0, 0, 0, 0, e2_x0_27, e2_x0_28, 0, 0, 0, 0, 0, 0, 0, 0, 0, 0, 0, 0, 0, 0, 0, 0, 0, 0, 0, 0, e3_x0_49, e3_x0_50]) (gA [e3_a1, e2_a1, e2_a2, e2_a3, e2_a4, zA, zA, zA, zA, zA, zA, zA, zA, zA, zA, zA, zA, zA, letF 56, zA, zA, e2_a7, e2_a8, e2_a9, e2_a10, e2_a11, e2_a12, zA, zA, zA, zA, zA, zA, zA, zA, zA, zA, zA, zA, zA, zA, zA, zA, zA, zA, zA, zA, zA, e3_a4, zA, zA]))) (As := []) (rest := []) ⟨hx, hb, hml, hown, ht0⟩ (c_X11_startAnew l G h0 q7 q14 q37 q543 q21 q28 q46 q59 q398 q406 q414 q422 q431 q440 q447 q456 q465 q474 q483 q492 q501 q510 q518 q527 q536 _ 0 0 (0 : Int32) e2_x0_9 e2_x0_10 e2_x0_11 e2_x0_12 e2_x0_13 e2_x0_14 e2_x0_15 0 (-1 : Int32) e2_x0_19 e2_x0_20 e2_x0_27 e2_x0_28 0 0 0 0 0 0 0 0 0 0 zA e2_a1 e2_a4 zA F _ _ _ _ hf3) yk_X11_startAnew wd_1390 ⟨rfl, rfl, by decide, by decide⟩ ⟨Nat.le_refl _, Nat.le_refl _⟩ hX hK hP hD hS hA [0, 1, 2, 5, 25] [3, 4, 6, 7, 8, 9, 10, 11, 12, 13, 14, 15, 16, 17, 18, 19, 20, 21, 22, 23, 24] [21, 22, 23, 0, 1, 24, 2, 3, 4, 5, 6, 7, 8, 9, 10, 11, 12, 13, 14, 15, 16, 17, 18, 19, 20, 25] (va_recv hK hP (ci := 11) (q0 := 0) rfl rfl) rfl rfl (by decide) rfl rfl rfl rfl rfl hl.1 rfl (Nat.le_of_ble_eq_true rfl) dX11_init_564 (fun H locs hP hD hS => ?_)
  exact ret_vN (w1 := wN_X11 G h0 (gI [0, 0, 0, 0, 0, 0, 0, 0, (0 : Int32), e2_x0_9, e2_x0_10, e2_x0_11, e2_x0_12, e2_x0_13, e2_x0_14, e2_x0_15, 0, (-1 : Int32), 0, e2_x0_19, e2_x0_20, 0, 0, 0, 0, 0, 0, e2_x0_27, e2_x0_28, 0, 0, 0, 0, 0, 0, 0, 0, 0, 0, 0, 0, 0, 0, 0, 0, 0, 0, 0, 0, e3_x0_49, e3_x0_50]) (gA [e3_a1, e2_a1, e2_a2, e2_a3, e2_a4, zA, zA, zA, zA, zA, zA, zA, zA, zA, zA, zA, zA, zA, letF 56, zA, zA, e2_a7, e2_a8, e2_a9, e2_a10, e2_a11, e2_a12, zA, zA, zA, zA, zA, zA, zA, zA, zA, zA, zA, zA, zA, zA, zA, zA, zA, zA, zA, zA, zA, e3_a4, zA, zA])) ((gN [q7, q14, q21, q28, q37, 0, q46, 0, 0, 0, 0, 0, 0, 0, 0, 0, 0, 0, q59, 0, 0, q398, q406, q414, q422, q431, q440, 0, 0, 0, 0, 0, 0, q447, q456, 0, 0, 0, q465, q474, q483, q492, q501, q510, 0, q518, q527, q536, q543, 0, 0]) : Nat → Nat) hx hb hr hlk hK hP hD hS dX11_init_567
