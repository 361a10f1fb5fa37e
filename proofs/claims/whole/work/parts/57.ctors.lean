/-! constructors -/
abbrev tX0 : Type := Nat × Nat × Nat × Nat × Nat
def wN_X0 (G : GG) (h0 : Nat) (u : tX0) : va_W := ([(h0, .inr (0, [.ref u.1, .int 0, .ref u.2.1, .ref u.2.2.1, .ref u.2.2.2.1, .ref u.2.2.2.2]))] ++ [(u.1, .inl (G.2.1, 256, .inl (fun _ => 0)))] ++ [(u.2.1, .inl (G.2.2.1, 256, .inl (fun _ => 0)))] ++ [(u.2.2.1, .inl (G.2.2.1, 256, .inl (fun _ => 0)))] ++ [(u.2.2.2.1, .inl (G.2.1, 24, .inl (fun _ => 0)))] ++ [(u.2.2.2.2, .inl (G.2.1, 8, .inl (fun _ => 0)))])
theorem ykN_X0_init : ykN yX0_init cX0_init 1 := ⟨wd_180, wd_130, wd_181, ⟨by decide, by decide, by decide +kernel⟩, rfl⟩
theorem dX0_init_0 : decode cX0_init 0 = .ok (.aload_n 0, 1) := by decide +kernel
theorem dX0_init_1 : decode cX0_init 1 = .ok (.invokespecial 3, 3) := by decide +kernel
theorem dX0_init_4 : decode cX0_init 4 = .ok (.aload_n 0, 1) := by decide +kernel
theorem dX0_init_5 : decode cX0_init 5 = .ok (.sipush 256, 3) := by decide +kernel
theorem dX0_init_8 : decode cX0_init 8 = .ok (.newarray .int, 2) := by decide +kernel
theorem dX0_init_10 : decode cX0_init 10 = .ok (.putfield 9, 3) := by decide +kernel
theorem dX0_init_13 : decode cX0_init 13 = .ok (.aload_n 0, 1) := by decide +kernel
theorem dX0_init_14 : decode cX0_init 14 = .ok (.sipush 256, 3) := by decide +kernel
theorem dX0_init_17 : decode cX0_init 17 = .ok (.newarray .boolean, 2) := by decide +kernel
theorem dX0_init_19 : decode cX0_init 19 = .ok (.putfield 15, 3) := by decide +kernel
theorem dX0_init_22 : decode cX0_init 22 = .ok (.aload_n 0, 1) := by decide +kernel
theorem dX0_init_23 : decode cX0_init 23 = .ok (.sipush 256, 3) := by decide +kernel
theorem dX0_init_26 : decode cX0_init 26 = .ok (.newarray .boolean, 2) := by decide +kernel
theorem dX0_init_28 : decode cX0_init 28 = .ok (.putfield 19, 3) := by decide +kernel
theorem dX0_init_31 : decode cX0_init 31 = .ok (.aload_n 0, 1) := by decide +kernel
theorem dX0_init_32 : decode cX0_init 32 = .ok (.bipush 24, 2) := by decide +kernel
theorem dX0_init_34 : decode cX0_init 34 = .ok (.newarray .int, 2) := by decide +kernel
theorem dX0_init_36 : decode cX0_init 36 = .ok (.putfield 22, 3) := by decide +kernel
theorem dX0_init_39 : decode cX0_init 39 = .ok (.aload_n 0, 1) := by decide +kernel
theorem dX0_init_40 : decode cX0_init 40 = .ok (.bipush 8, 2) := by decide +kernel
theorem dX0_init_42 : decode cX0_init 42 = .ok (.newarray .int, 2) := by decide +kernel
theorem dX0_init_44 : decode cX0_init 44 = .ok (.putfield 25, 3) := by decide +kernel
theorem dX0_init_47 : decode cX0_init 47 = .ok (.return_, 1) := by decide +kernel
set_option maxRecDepth 100000 in
set_option maxHeartbeats 4000000 in
theorem c_X0_init (l : Launch) (G : GG) (h0 sz : Nat) : Met l yX0_init (.code yX0_init cX0_init 1 none :: gtbl) ({ frames := 1, cells := 5, slots := 800, locals := 12 } : Room) (PcN G [.ref h0] [(h0, .inr (0, [.null, .int 0, .null, .null, .null, .null]))] sz) (QvN G (va_A [(h0, .inr (0, [.null, .int 0, .null, .null, .null, .null]))] sz) (wN_X0 G h0)) 5 800 (va_A [(h0, .inr (0, [.null, .int 0, .null, .null, .null, .null]))] sz) := by
  refine met_startN (by decide) (Nat.le_of_ble_eq_true rfl) ?_
  intro p e s m below meth c F hr hlk hin hK hP hD hA hS hX hO ls hl
  obtain ⟨hx, hb, hml, hown, ht0⟩ := F
  generalize va_A [(h0, .inr (0, [.null, .int 0, .null, .null, .null, .null]))] sz = A at hD hA hS hX ⊢
  have hl : lv_has ls 1 [(0, .ref h0)] := hl
  refine lv_aload_n hx hb dX0_init_0 rfl (lv_at hl 0 rfl) ?_
  refine W.objInit hx hb hown (ht0 _ wd_182) (ht0 _ wd_153) (ht0 _ wd_154) rfl (by rw [hml]; exact hl.1) rfl dX0_init_1 (Nat.le_of_ble_eq_true rfl) (Nat.le_of_ble_eq_true rfl) ?_
  refine W.eq (g2 := F0 m 4 ls []) rfl ?_
  refine lv_aload_n hx hb dX0_init_4 rfl (lv_at hl 0 rfl) ?_
  refine lv_sipush (v := (256 : Int32)) hx hb dX0_init_5 (by decide) ?_
  refine nw_I (n := (256 : Int32)) (N := 256) (rest := [.ref h0]) hx hb (ht0 _ wd_176) hK hP hD hS hA (by decide) (by decide) (by decide) (Nat.le_of_ble_eq_true rfl) (Nat.le_of_ble_eq_true rfl) dX0_init_8 (fun q8 H hP hD hS => ?_)
  refine W.widen (k := 1) (n := 256) (by decide) (by decide) ?_
  have hP : va_P G.1 vwCl ([(h0, .inr (0, [.null, .int 0, .null, .null, .null, .null]))] ++ [(q8, .inl (G.2.1, 256, .inl (fun _ => 0)))]) H := hP
  have hD : va_D A ([(h0, .inr (0, [.null, .int 0, .null, .null, .null, .null]))] ++ [(q8, .inl (G.2.1, 256, .inl (fun _ => 0)))]) := hD
  refine va_putF (ci := 0) (v := .ref q8) (ty := (.array .int)) (C := RX0) (T := TX0) (N := 6) hx hb ht0 iX0 tyX0 tyX0_ok nmX0 hown hK hP hD hS 0 rfl rfl 0 (by decide) (ht0 _ wd_183) (fun _ h9 => h9) rfl hin rfl rfl rfl rfl (Nat.le_of_ble_eq_true rfl) dX0_init_10 (fun H locs hP hD hS => ?_)
  have hP : va_P G.1 vwCl ([(h0, .inr (0, [.ref q8, .int 0, .null, .null, .null, .null]))] ++ [(q8, .inl (G.2.1, 256, .inl (fun _ => 0)))]) H := hP
  have hD : va_D A ([(h0, .inr (0, [.ref q8, .int 0, .null, .null, .null, .null]))] ++ [(q8, .inl (G.2.1, 256, .inl (fun _ => 0)))]) := hD
  refine lv_aload_n hx hb dX0_init_13 rfl (lv_at hl 0 rfl) ?_
  refine lv_sipush (v := (256 : Int32)) hx hb dX0_init_14 (by decide) ?_
  refine nw_Z (n := (256 : Int32)) (N := 256) (rest := [.ref h0]) hx hb (ht0 _ wd_202) hK hP hD hS hA (by decide) (by decide) (by decide) (Nat.le_of_ble_eq_true rfl) (Nat.le_of_ble_eq_true rfl) dX0_init_17 (fun q17 H hP hD hS => ?_)
  refine W.widen (k := 2) (n := 512) (by decide) (by decide) ?_
  have hP : va_P G.1 vwCl ([(h0, .inr (0, [.ref q8, .int 0, .null, .null, .null, .null]))] ++ [(q8, .inl (G.2.1, 256, .inl (fun _ => 0)))] ++ [(q17, .inl (G.2.2.1, 256, .inl (fun _ => 0)))]) H := hP
  have hD : va_D A ([(h0, .inr (0, [.ref q8, .int 0, .null, .null, .null, .null]))] ++ [(q8, .inl (G.2.1, 256, .inl (fun _ => 0)))] ++ [(q17, .inl (G.2.2.1, 256, .inl (fun _ => 0)))]) := hD
  refine va_putF (ci := 0) (v := .ref q17) (ty := (.array .boolean)) (C := RX0) (T := TX0) (N := 6) hx hb ht0 iX0 tyX0 tyX0_ok nmX0 hown hK hP hD hS 0 rfl rfl 2 (by decide) (ht0 _ wd_185) (fun _ h9 => h9) rfl hin rfl rfl rfl rfl (Nat.le_of_ble_eq_true rfl) dX0_init_19 (fun H locs hP hD hS => ?_)
  have hP : va_P G.1 vwCl ([(h0, .inr (0, [.ref q8, .int 0, .ref q17, .null, .null, .null]))] ++ [(q8, .inl (G.2.1, 256, .inl (fun _ => 0)))] ++ [(q17, .inl (G.2.2.1, 256, .inl (fun _ => 0)))]) H := hP
  have hD : va_D A ([(h0, .inr (0, [.ref q8, .int 0, .ref q17, .null, .null, .null]))] ++ [(q8, .inl (G.2.1, 256, .inl (fun _ => 0)))] ++ [(q17, .inl (G.2.2.1, 256, .inl (fun _ => 0)))]) := hD
  refine lv_aload_n hx hb dX0_init_22 rfl (lv_at hl 0 rfl) ?_
  refine lv_sipush (v := (256 : Int32)) hx hb dX0_init_23 (by decide) ?_
  refine nw_Z (n := (256 : Int32)) (N := 256) (rest := [.ref h0]) hx hb (ht0 _ wd_202) hK hP hD hS hA (by decide) (by decide) (by decide) (Nat.le_of_ble_eq_true rfl) (Nat.le_of_ble_eq_true rfl) dX0_init_26 (fun q26 H hP hD hS => ?_)
  refine W.widen (k := 3) (n := 768) (by decide) (by decide) ?_
  have hP : va_P G.1 vwCl ([(h0, .inr (0, [.ref q8, .int 0, .ref q17, .null, .null, .null]))] ++ [(q8, .inl (G.2.1, 256, .inl (fun _ => 0)))] ++ [(q17, .inl (G.2.2.1, 256, .inl (fun _ => 0)))] ++ [(q26, .inl (G.2.2.1, 256, .inl (fun _ => 0)))]) H := hP
  have hD : va_D A ([(h0, .inr (0, [.ref q8, .int 0, .ref q17, .null, .null, .null]))] ++ [(q8, .inl (G.2.1, 256, .inl (fun _ => 0)))] ++ [(q17, .inl (G.2.2.1, 256, .inl (fun _ => 0)))] ++ [(q26, .inl (G.2.2.1, 256, .inl (fun _ => 0)))]) := hD
  refine va_putF (ci := 0) (v := .ref q26) (ty := (.array .boolean)) (C := RX0) (T := TX0) (N := 6) hx hb ht0 iX0 tyX0 tyX0_ok nmX0 hown hK hP hD hS 0 rfl rfl 3 (by decide) (ht0 _ wd_186) (fun _ h9 => h9) rfl hin rfl rfl rfl rfl (Nat.le_of_ble_eq_true rfl) dX0_init_28 (fun H locs hP hD hS => ?_)
  have hP : va_P G.1 vwCl ([(h0, .inr (0, [.ref q8, .int 0, .ref q17, .ref q26, .null, .null]))] ++ [(q8, .inl (G.2.1, 256, .inl (fun _ => 0)))] ++ [(q17, .inl (G.2.2.1, 256, .inl (fun _ => 0)))] ++ [(q26, .inl (G.2.2.1, 256, .inl (fun _ => 0)))]) H := hP
  have hD : va_D A ([(h0, .inr (0, [.ref q8, .int 0, .ref q17, .ref q26, .null, .null]))] ++ [(q8, .inl (G.2.1, 256, .inl (fun _ => 0)))] ++ [(q17, .inl (G.2.2.1, 256, .inl (fun _ => 0)))] ++ [(q26, .inl (G.2.2.1, 256, .inl (fun _ => 0)))]) := hD
  refine lv_aload_n hx hb dX0_init_31 rfl (lv_at hl 0 rfl) ?_
  refine lv_bipush (v := (24 : Int32)) hx hb dX0_init_32 (by decide) ?_
  refine nw_I (n := (24 : Int32)) (N := 24) (rest := [.ref h0]) hx hb (ht0 _ wd_176) hK hP hD hS hA (by decide) (by decide) (by decide) (Nat.le_of_ble_eq_true rfl) (Nat.le_of_ble_eq_true rfl) dX0_init_34 (fun q34 H hP hD hS => ?_)
  refine W.widen (k := 4) (n := 792) (by decide) (by decide) ?_
  have hP : va_P G.1 vwCl ([(h0, .inr (0, [.ref q8, .int 0, .ref q17, .ref q26, .null, .null]))] ++ [(q8, .inl (G.2.1, 256, .inl (fun _ => 0)))] ++ [(q17, .inl (G.2.2.1, 256, .inl (fun _ => 0)))] ++ [(q26, .inl (G.2.2.1, 256, .inl (fun _ => 0)))] ++ [(q34, .inl (G.2.1, 24, .inl (fun _ => 0)))]) H := hP
  have hD : va_D A ([(h0, .inr (0, [.ref q8, .int 0, .ref q17, .ref q26, .null, .null]))] ++ [(q8, .inl (G.2.1, 256, .inl (fun _ => 0)))] ++ [(q17, .inl (G.2.2.1, 256, .inl (fun _ => 0)))] ++ [(q26, .inl (G.2.2.1, 256, .inl (fun _ => 0)))] ++ [(q34, .inl (G.2.1, 24, .inl (fun _ => 0)))]) := hD
  refine va_putF (ci := 0) (v := .ref q34) (ty := (.array .int)) (C := RX0) (T := TX0) (N := 6) hx hb ht0 iX0 tyX0 tyX0_ok nmX0 hown hK hP hD hS 0 rfl rfl 4 (by decide) (ht0 _ wd_187) (fun _ h9 => h9) rfl hin rfl rfl rfl rfl (Nat.le_of_ble_eq_true rfl) dX0_init_36 (fun H locs hP hD hS => ?_)
  have hP : va_P G.1 vwCl ([(h0, .inr (0, [.ref q8, .int 0, .ref q17, .ref q26, .ref q34, .null]))] ++ [(q8, .inl (G.2.1, 256, .inl (fun _ => 0)))] ++ [(q17, .inl (G.2.2.1, 256, .inl (fun _ => 0)))] ++ [(q26, .inl (G.2.2.1, 256, .inl (fun _ => 0)))] ++ [(q34, .inl (G.2.1, 24, .inl (fun _ => 0)))]) H := hP
  have hD : va_D A ([(h0, .inr (0, [.ref q8, .int 0, .ref q17, .ref q26, .ref q34, .null]))] ++ [(q8, .inl (G.2.1, 256, .inl (fun _ => 0)))] ++ [(q17, .inl (G.2.2.1, 256, .inl (fun _ => 0)))] ++ [(q26, .inl (G.2.2.1, 256, .inl (fun _ => 0)))] ++ [(q34, .inl (G.2.1, 24, .inl (fun _ => 0)))]) := hD
  refine lv_aload_n hx hb dX0_init_39 rfl (lv_at hl 0 rfl) ?_
  refine lv_bipush (v := (8 : Int32)) hx hb dX0_init_40 (by decide) ?_
  refine nw_I (n := (8 : Int32)) (N := 8) (rest := [.ref h0]) hx hb (ht0 _ wd_176) hK hP hD hS hA (by decide) (by decide) (by decide) (Nat.le_of_ble_eq_true rfl) (Nat.le_of_ble_eq_true rfl) dX0_init_42 (fun q42 H hP hD hS => ?_)
  refine W.widen (k := 5) (n := 800) (by decide) (by decide) ?_
  have hP : va_P G.1 vwCl ([(h0, .inr (0, [.ref q8, .int 0, .ref q17, .ref q26, .ref q34, .null]))] ++ [(q8, .inl (G.2.1, 256, .inl (fun _ => 0)))] ++ [(q17, .inl (G.2.2.1, 256, .inl (fun _ => 0)))] ++ [(q26, .inl (G.2.2.1, 256, .inl (fun _ => 0)))] ++ [(q34, .inl (G.2.1, 24, .inl (fun _ => 0)))] ++ [(q42, .inl (G.2.1, 8, .inl (fun _ => 0)))]) H := hP
  have hD : va_D A ([(h0, .inr (0, [.ref q8, .int 0, .ref q17, .ref q26, .ref q34, .null]))] ++ [(q8, .inl (G.2.1, 256, .inl (fun _ => 0)))] ++ [(q17, .inl (G.2.2.1, 256, .inl (fun _ => 0)))] ++ [(q26, .inl (G.2.2.1, 256, .inl (fun _ => 0)))] ++ [(q34, .inl (G.2.1, 24, .inl (fun _ => 0)))] ++ [(q42, .inl (G.2.1, 8, .inl (fun _ => 0)))]) := hD
  refine va_putF (ci := 0) (v := .ref q42) (ty := (.array .int)) (C := RX0) (T := TX0) (N := 6) hx hb ht0 iX0 tyX0 tyX0_ok nmX0 hown hK hP hD hS 0 rfl rfl 5 (by decide) (ht0 _ wd_188) (fun _ h9 => h9) rfl hin rfl rfl rfl rfl (Nat.le_of_ble_eq_true rfl) dX0_init_44 (fun H locs hP hD hS => ?_)
  have hP : va_P G.1 vwCl ([(h0, .inr (0, [.ref q8, .int 0, .ref q17, .ref q26, .ref q34, .ref q42]))] ++ [(q8, .inl (G.2.1, 256, .inl (fun _ => 0)))] ++ [(q17, .inl (G.2.2.1, 256, .inl (fun _ => 0)))] ++ [(q26, .inl (G.2.2.1, 256, .inl (fun _ => 0)))] ++ [(q34, .inl (G.2.1, 24, .inl (fun _ => 0)))] ++ [(q42, .inl (G.2.1, 8, .inl (fun _ => 0)))]) H := hP
  have hD : va_D A ([(h0, .inr (0, [.ref q8, .int 0, .ref q17, .ref q26, .ref q34, .ref q42]))] ++ [(q8, .inl (G.2.1, 256, .inl (fun _ => 0)))] ++ [(q17, .inl (G.2.2.1, 256, .inl (fun _ => 0)))] ++ [(q26, .inl (G.2.2.1, 256, .inl (fun _ => 0)))] ++ [(q34, .inl (G.2.1, 24, .inl (fun _ => 0)))] ++ [(q42, .inl (G.2.1, 8, .inl (fun _ => 0)))]) := hD
  exact ret_vN (w1 := wN_X0 G h0) ((q8, q17, q26, q34, q42) : tX0) hx hb hr hlk hK hP hD hS dX0_init_47
abbrev tX1 : Type := Nat × Nat × Nat
def wN_X1 (G : GG) (h0 : Nat) (u : tX1) : va_W := ([(h0, .inr (1, [.int (8 : Int32), .int (5 : Int32), .int 0, .ref u.1, .ref u.2.1, .ref u.2.2]))] ++ [(u.1, .inl (G.2.1, 32, .inl (fun _ => 0)))] ++ [(u.2.1, .inl (G.2.1, 256, .inl (fun _ => 0)))] ++ [(u.2.2, .inl (G.2.1, 256, .inl (fun _ => 0)))])
theorem ykN_X1_init : ykN yX1_init cX1_init 1 := ⟨wd_206, wd_131, wd_207, ⟨by decide, by decide, by decide +kernel⟩, rfl⟩
theorem dX1_init_0 : decode cX1_init 0 = .ok (.aload_n 0, 1) := by decide +kernel
theorem dX1_init_1 : decode cX1_init 1 = .ok (.invokespecial 3, 3) := by decide +kernel
theorem dX1_init_4 : decode cX1_init 4 = .ok (.aload_n 0, 1) := by decide +kernel
theorem dX1_init_5 : decode cX1_init 5 = .ok (.bipush 8, 2) := by decide +kernel
theorem dX1_init_7 : decode cX1_init 7 = .ok (.putfield 9, 3) := by decide +kernel
theorem dX1_init_10 : decode cX1_init 10 = .ok (.aload_n 0, 1) := by decide +kernel
theorem dX1_init_11 : decode cX1_init 11 = .ok (.iconst 5, 1) := by decide +kernel
theorem dX1_init_12 : decode cX1_init 12 = .ok (.putfield 15, 3) := by decide +kernel
theorem dX1_init_15 : decode cX1_init 15 = .ok (.aload_n 0, 1) := by decide +kernel
theorem dX1_init_16 : decode cX1_init 16 = .ok (.bipush 32, 2) := by decide +kernel
theorem dX1_init_18 : decode cX1_init 18 = .ok (.newarray .int, 2) := by decide +kernel
theorem dX1_init_20 : decode cX1_init 20 = .ok (.putfield 18, 3) := by decide +kernel
theorem dX1_init_23 : decode cX1_init 23 = .ok (.aload_n 0, 1) := by decide +kernel
theorem dX1_init_24 : decode cX1_init 24 = .ok (.sipush 256, 3) := by decide +kernel
theorem dX1_init_27 : decode cX1_init 27 = .ok (.newarray .int, 2) := by decide +kernel
theorem dX1_init_29 : decode cX1_init 29 = .ok (.putfield 22, 3) := by decide +kernel
theorem dX1_init_32 : decode cX1_init 32 = .ok (.aload_n 0, 1) := by decide +kernel
theorem dX1_init_33 : decode cX1_init 33 = .ok (.sipush 256, 3) := by decide +kernel
theorem dX1_init_36 : decode cX1_init 36 = .ok (.newarray .int, 2) := by decide +kernel
theorem dX1_init_38 : decode cX1_init 38 = .ok (.putfield 25, 3) := by decide +kernel
theorem dX1_init_41 : decode cX1_init 41 = .ok (.return_, 1) := by decide +kernel
set_option maxRecDepth 100000 in
set_option maxHeartbeats 4000000 in
theorem c_X1_init (l : Launch) (G : GG) (h0 sz : Nat) : Met l yX1_init (.code yX1_init cX1_init 1 none :: gtbl) ({ frames := 1, cells := 3, slots := 544, locals := 12 } : Room) (PcN G [.ref h0] [(h0, .inr (1, [.int 0, .int 0, .int 0, .null, .null, .null]))] sz) (QvN G (va_A [(h0, .inr (1, [.int 0, .int 0, .int 0, .null, .null, .null]))] sz) (wN_X1 G h0)) 3 544 (va_A [(h0, .inr (1, [.int 0, .int 0, .int 0, .null, .null, .null]))] sz) := by
  refine met_startN (by decide) (Nat.le_of_ble_eq_true rfl) ?_
  intro p e s m below meth c F hr hlk hin hK hP hD hA hS hX hO ls hl
  obtain ⟨hx, hb, hml, hown, ht0⟩ := F
  generalize va_A [(h0, .inr (1, [.int 0, .int 0, .int 0, .null, .null, .null]))] sz = A at hD hA hS hX ⊢
  have hl : lv_has ls 1 [(0, .ref h0)] := hl
  refine lv_aload_n hx hb dX1_init_0 rfl (lv_at hl 0 rfl) ?_
  refine W.objInit hx hb hown (ht0 _ wd_208) (ht0 _ wd_153) (ht0 _ wd_154) rfl (by rw [hml]; exact hl.1) rfl dX1_init_1 (Nat.le_of_ble_eq_true rfl) (Nat.le_of_ble_eq_true rfl) ?_
  refine W.eq (g2 := F0 m 4 ls []) rfl ?_
  refine lv_aload_n hx hb dX1_init_4 rfl (lv_at hl 0 rfl) ?_
  refine lv_bipush (v := (8 : Int32)) hx hb dX1_init_5 (by decide) ?_
  refine va_put (ci := 1) (v := .int (8 : Int32)) (ty := .int) (C := RX1) (T := TX1) (N := 6) hx hb ht0 iX1 tyX1 tyX1_ok nmX1 hown hK hP hD hS 0 rfl rfl 0 (by decide) (ht0 _ wd_209) (fun _ h9 => h9) rfl rfl rfl rfl (Nat.le_of_ble_eq_true rfl) dX1_init_7 (fun H locs hP hD hS => ?_)
  have hP : va_P G.1 vwCl ([(h0, .inr (1, [.int (8 : Int32), .int 0, .int 0, .null, .null, .null]))]) H := hP
  have hD : va_D A ([(h0, .inr (1, [.int (8 : Int32), .int 0, .int 0, .null, .null, .null]))]) := hD
  refine lv_aload_n hx hb dX1_init_10 rfl (lv_at hl 0 rfl) ?_
  refine lv_iconst (v := (5 : Int32)) hx hb dX1_init_11 (by decide) ?_
  refine va_put (ci := 1) (v := .int (5 : Int32)) (ty := .int) (C := RX1) (T := TX1) (N := 6) hx hb ht0 iX1 tyX1 tyX1_ok nmX1 hown hK hP hD hS 0 rfl rfl 1 (by decide) (ht0 _ wd_215) (fun _ h9 => h9) rfl rfl rfl rfl (Nat.le_of_ble_eq_true rfl) dX1_init_12 (fun H locs hP hD hS => ?_)
  have hP : va_P G.1 vwCl ([(h0, .inr (1, [.int (8 : Int32), .int (5 : Int32), .int 0, .null, .null, .null]))]) H := hP
  have hD : va_D A ([(h0, .inr (1, [.int (8 : Int32), .int (5 : Int32), .int 0, .null, .null, .null]))]) := hD
  refine lv_aload_n hx hb dX1_init_15 rfl (lv_at hl 0 rfl) ?_
  refine lv_bipush (v := (32 : Int32)) hx hb dX1_init_16 (by decide) ?_
  refine nw_I (n := (32 : Int32)) (N := 32) (rest := [.ref h0]) hx hb (ht0 _ wd_176) hK hP hD hS hA (by decide) (by decide) (by decide) (Nat.le_of_ble_eq_true rfl) (Nat.le_of_ble_eq_true rfl) dX1_init_18 (fun q18 H hP hD hS => ?_)
  refine W.widen (k := 1) (n := 32) (by decide) (by decide) ?_
  have hP : va_P G.1 vwCl ([(h0, .inr (1, [.int (8 : Int32), .int (5 : Int32), .int 0, .null, .null, .null]))] ++ [(q18, .inl (G.2.1, 32, .inl (fun _ => 0)))]) H := hP
  have hD : va_D A ([(h0, .inr (1, [.int (8 : Int32), .int (5 : Int32), .int 0, .null, .null, .null]))] ++ [(q18, .inl (G.2.1, 32, .inl (fun _ => 0)))]) := hD
  refine va_putF (ci := 1) (v := .ref q18) (ty := (.array .int)) (C := RX1) (T := TX1) (N := 6) hx hb ht0 iX1 tyX1 tyX1_ok nmX1 hown hK hP hD hS 0 rfl rfl 3 (by decide) (ht0 _ wd_226) (fun _ h9 => h9) rfl hin rfl rfl rfl rfl (Nat.le_of_ble_eq_true rfl) dX1_init_20 (fun H locs hP hD hS => ?_)
  have hP : va_P G.1 vwCl ([(h0, .inr (1, [.int (8 : Int32), .int (5 : Int32), .int 0, .ref q18, .null, .null]))] ++ [(q18, .inl (G.2.1, 32, .inl (fun _ => 0)))]) H := hP
  have hD : va_D A ([(h0, .inr (1, [.int (8 : Int32), .int (5 : Int32), .int 0, .ref q18, .null, .null]))] ++ [(q18, .inl (G.2.1, 32, .inl (fun _ => 0)))]) := hD
  refine lv_aload_n hx hb dX1_init_23 rfl (lv_at hl 0 rfl) ?_
  refine lv_sipush (v := (256 : Int32)) hx hb dX1_init_24 (by decide) ?_
  refine nw_I (n := (256 : Int32)) (N := 256) (rest := [.ref h0]) hx hb (ht0 _ wd_176) hK hP hD hS hA (by decide) (by decide) (by decide) (Nat.le_of_ble_eq_true rfl) (Nat.le_of_ble_eq_true rfl) dX1_init_27 (fun q27 H hP hD hS => ?_)
  refine W.widen (k := 2) (n := 288) (by decide) (by decide) ?_
  have hP : va_P G.1 vwCl ([(h0, .inr (1, [.int (8 : Int32), .int (5 : Int32), .int 0, .ref q18, .null, .null]))] ++ [(q18, .inl (G.2.1, 32, .inl (fun _ => 0)))] ++ [(q27, .inl (G.2.1, 256, .inl (fun _ => 0)))]) H := hP
  have hD : va_D A ([(h0, .inr (1, [.int (8 : Int32), .int (5 : Int32), .int 0, .ref q18, .null, .null]))] ++ [(q18, .inl (G.2.1, 32, .inl (fun _ => 0)))] ++ [(q27, .inl (G.2.1, 256, .inl (fun _ => 0)))]) := hD
  refine va_putF (ci := 1) (v := .ref q27) (ty := (.array .int)) (C := RX1) (T := TX1) (N := 6) hx hb ht0 iX1 tyX1 tyX1_ok nmX1 hown hK hP hD hS 0 rfl rfl 4 (by decide) (ht0 _ wd_232) (fun _ h9 => h9) rfl hin rfl rfl rfl rfl (Nat.le_of_ble_eq_true rfl) dX1_init_29 (fun H locs hP hD hS => ?_)
  have hP : va_P G.1 vwCl ([(h0, .inr (1, [.int (8 : Int32), .int (5 : Int32), .int 0, .ref q18, .ref q27, .null]))] ++ [(q18, .inl (G.2.1, 32, .inl (fun _ => 0)))] ++ [(q27, .inl (G.2.1, 256, .inl (fun _ => 0)))]) H := hP
  have hD : va_D A ([(h0, .inr (1, [.int (8 : Int32), .int (5 : Int32), .int 0, .ref q18, .ref q27, .null]))] ++ [(q18, .inl (G.2.1, 32, .inl (fun _ => 0)))] ++ [(q27, .inl (G.2.1, 256, .inl (fun _ => 0)))]) := hD
  refine lv_aload_n hx hb dX1_init_32 rfl (lv_at hl 0 rfl) ?_
  refine lv_sipush (v := (256 : Int32)) hx hb dX1_init_33 (by decide) ?_
  refine nw_I (n := (256 : Int32)) (N := 256) (rest := [.ref h0]) hx hb (ht0 _ wd_176) hK hP hD hS hA (by decide) (by decide) (by decide) (Nat.le_of_ble_eq_true rfl) (Nat.le_of_ble_eq_true rfl) dX1_init_36 (fun q36 H hP hD hS => ?_)
  refine W.widen (k := 3) (n := 544) (by decide) (by decide) ?_
  have hP : va_P G.1 vwCl ([(h0, .inr (1, [.int (8 : Int32), .int (5 : Int32), .int 0, .ref q18, .ref q27, .null]))] ++ [(q18, .inl (G.2.1, 32, .inl (fun _ => 0)))] ++ [(q27, .inl (G.2.1, 256, .inl (fun _ => 0)))] ++ [(q36, .inl (G.2.1, 256, .inl (fun _ => 0)))]) H := hP
  have hD : va_D A ([(h0, .inr (1, [.int (8 : Int32), .int (5 : Int32), .int 0, .ref q18, .ref q27, .null]))] ++ [(q18, .inl (G.2.1, 32, .inl (fun _ => 0)))] ++ [(q27, .inl (G.2.1, 256, .inl (fun _ => 0)))] ++ [(q36, .inl (G.2.1, 256, .inl (fun _ => 0)))]) := hD
  refine va_putF (ci := 1) (v := .ref q36) (ty := (.array .int)) (C := RX1) (T := TX1) (N := 6) hx hb ht0 iX1 tyX1 tyX1_ok nmX1 hown hK hP hD hS 0 rfl rfl 5 (by decide) (ht0 _ wd_233) (fun _ h9 => h9) rfl hin rfl rfl rfl rfl (Nat.le_of_ble_eq_true rfl) dX1_init_38 (fun H locs hP hD hS => ?_)
  have hP : va_P G.1 vwCl ([(h0, .inr (1, [.int (8 : Int32), .int (5 : Int32), .int 0, .ref q18, .ref q27, .ref q36]))] ++ [(q18, .inl (G.2.1, 32, .inl (fun _ => 0)))] ++ [(q27, .inl (G.2.1, 256, .inl (fun _ => 0)))] ++ [(q36, .inl (G.2.1, 256, .inl (fun _ => 0)))]) H := hP
  have hD : va_D A ([(h0, .inr (1, [.int (8 : Int32), .int (5 : Int32), .int 0, .ref q18, .ref q27, .ref q36]))] ++ [(q18, .inl (G.2.1, 32, .inl (fun _ => 0)))] ++ [(q27, .inl (G.2.1, 256, .inl (fun _ => 0)))] ++ [(q36, .inl (G.2.1, 256, .inl (fun _ => 0)))]) := hD
  exact ret_vN (w1 := wN_X1 G h0) ((q18, q27, q36) : tX1) hx hb hr hlk hK hP hD hS dX1_init_41
abbrev tX2 : Type := Unit
def wN_X2 (G : GG) (h0 : Nat) (u : tX2) : va_W := ([(h0, .inr (2, [.int 0, .int (-1 : Int32), .int 0]))])
theorem ykN_X2_init : ykN yX2_init cX2_init 1 := ⟨wd_367, wd_135, wd_368, ⟨by decide, by decide, by decide +kernel⟩, rfl⟩
theorem dX2_init_0 : decode cX2_init 0 = .ok (.aload_n 0, 1) := by decide +kernel
theorem dX2_init_1 : decode cX2_init 1 = .ok (.invokespecial 3, 3) := by decide +kernel
theorem dX2_init_4 : decode cX2_init 4 = .ok (.aload_n 0, 1) := by decide +kernel
theorem dX2_init_5 : decode cX2_init 5 = .ok (.iconst (-1), 1) := by decide +kernel
theorem dX2_init_6 : decode cX2_init 6 = .ok (.putfield 9, 3) := by decide +kernel
theorem dX2_init_9 : decode cX2_init 9 = .ok (.return_, 1) := by decide +kernel
set_option maxRecDepth 100000 in
set_option maxHeartbeats 4000000 in
theorem c_X2_init (l : Launch) (G : GG) (h0 sz : Nat) : Met l yX2_init (.code yX2_init cX2_init 1 none :: gtbl) ({ frames := 1, cells := 0, slots := 0, locals := 12 } : Room) (PcN G [.ref h0] [(h0, .inr (2, [.int 0, .int 0, .int 0]))] sz) (QvN G (va_A [(h0, .inr (2, [.int 0, .int 0, .int 0]))] sz) (wN_X2 G h0)) 0 0 (va_A [(h0, .inr (2, [.int 0, .int 0, .int 0]))] sz) := by
  refine met_startN (by decide) (Nat.le_of_ble_eq_true rfl) ?_
  intro p e s m below meth c F hr hlk hin hK hP hD hA hS hX hO ls hl
  obtain ⟨hx, hb, hml, hown, ht0⟩ := F
  generalize va_A [(h0, .inr (2, [.int 0, .int 0, .int 0]))] sz = A at hD hA hS hX ⊢
  have hl : lv_has ls 1 [(0, .ref h0)] := hl
  refine lv_aload_n hx hb dX2_init_0 rfl (lv_at hl 0 rfl) ?_
  refine W.objInit hx hb hown (ht0 _ wd_369) (ht0 _ wd_153) (ht0 _ wd_154) rfl (by rw [hml]; exact hl.1) rfl dX2_init_1 (Nat.le_of_ble_eq_true rfl) (Nat.le_of_ble_eq_true rfl) ?_
  refine W.eq (g2 := F0 m 4 ls []) rfl ?_
  refine lv_aload_n hx hb dX2_init_4 rfl (lv_at hl 0 rfl) ?_
  refine lv_iconst (v := (-1 : Int32)) hx hb dX2_init_5 (by decide) ?_
  refine va_put (ci := 2) (v := .int (-1 : Int32)) (ty := .int) (C := RX2) (T := TX2) (N := 3) hx hb ht0 iX2 tyX2 tyX2_ok nmX2 hown hK hP hD hS 0 rfl rfl 1 (by decide) (ht0 _ wd_373) (fun _ h9 => h9) rfl rfl rfl rfl (Nat.le_of_ble_eq_true rfl) dX2_init_6 (fun H locs hP hD hS => ?_)
  have hP : va_P G.1 vwCl ([(h0, .inr (2, [.int 0, .int (-1 : Int32), .int 0]))]) H := hP
  have hD : va_D A ([(h0, .inr (2, [.int 0, .int (-1 : Int32), .int 0]))]) := hD
  exact ret_vN (w1 := wN_X2 G h0) (() : tX2) hx hb hr hlk hK hP hD hS dX2_init_9
abbrev tX7 : Type := Nat
def wN_X7 (G : GG) (h0 : Nat) (u : tX7) : va_W := ([(h0, .inr (7, [.ref u, .int 0]))] ++ [(u, .inl (G.2.1, 600, .inl (fun _ => 0)))])
theorem ykN_X7_init : ykN yX7_init cX7_init 1 := ⟨wd_164, wd_129, wd_165, ⟨by decide, by decide, by decide +kernel⟩, rfl⟩
theorem dX7_init_0 : decode cX7_init 0 = .ok (.aload_n 0, 1) := by decide +kernel
theorem dX7_init_1 : decode cX7_init 1 = .ok (.invokespecial 3, 3) := by decide +kernel
theorem dX7_init_4 : decode cX7_init 4 = .ok (.aload_n 0, 1) := by decide +kernel
theorem dX7_init_5 : decode cX7_init 5 = .ok (.sipush 600, 3) := by decide +kernel
theorem dX7_init_8 : decode cX7_init 8 = .ok (.newarray .int, 2) := by decide +kernel
theorem dX7_init_10 : decode cX7_init 10 = .ok (.putfield 11, 3) := by decide +kernel
theorem dX7_init_13 : decode cX7_init 13 = .ok (.return_, 1) := by decide +kernel
set_option maxRecDepth 100000 in
set_option maxHeartbeats 4000000 in
theorem c_X7_init (l : Launch) (G : GG) (h0 sz : Nat) : Met l yX7_init (.code yX7_init cX7_init 1 none :: gtbl) ({ frames := 1, cells := 1, slots := 600, locals := 12 } : Room) (PcN G [.ref h0] [(h0, .inr (7, [.null, .int 0]))] sz) (QvN G (va_A [(h0, .inr (7, [.null, .int 0]))] sz) (wN_X7 G h0)) 1 600 (va_A [(h0, .inr (7, [.null, .int 0]))] sz) := by
  refine met_startN (by decide) (Nat.le_of_ble_eq_true rfl) ?_
  intro p e s m below meth c F hr hlk hin hK hP hD hA hS hX hO ls hl
  obtain ⟨hx, hb, hml, hown, ht0⟩ := F
  generalize va_A [(h0, .inr (7, [.null, .int 0]))] sz = A at hD hA hS hX ⊢
  have hl : lv_has ls 1 [(0, .ref h0)] := hl
  refine lv_aload_n hx hb dX7_init_0 rfl (lv_at hl 0 rfl) ?_
  refine W.objInit hx hb hown (ht0 _ wd_166) (ht0 _ wd_153) (ht0 _ wd_154) rfl (by rw [hml]; exact hl.1) rfl dX7_init_1 (Nat.le_of_ble_eq_true rfl) (Nat.le_of_ble_eq_true rfl) ?_
  refine W.eq (g2 := F0 m 4 ls []) rfl ?_
  refine lv_aload_n hx hb dX7_init_4 rfl (lv_at hl 0 rfl) ?_
  refine lv_sipush (v := (600 : Int32)) hx hb dX7_init_5 (by decide) ?_
  refine nw_I (n := (600 : Int32)) (N := 600) (rest := [.ref h0]) hx hb (ht0 _ wd_176) hK hP hD hS hA (by decide) (by decide) (by decide) (Nat.le_of_ble_eq_true rfl) (Nat.le_of_ble_eq_true rfl) dX7_init_8 (fun q8 H hP hD hS => ?_)
  refine W.widen (k := 1) (n := 600) (by decide) (by decide) ?_
  have hP : va_P G.1 vwCl ([(h0, .inr (7, [.null, .int 0]))] ++ [(q8, .inl (G.2.1, 600, .inl (fun _ => 0)))]) H := hP
  have hD : va_D A ([(h0, .inr (7, [.null, .int 0]))] ++ [(q8, .inl (G.2.1, 600, .inl (fun _ => 0)))]) := hD
  refine va_putF (ci := 7) (v := .ref q8) (ty := (.array .int)) (C := RX7) (T := TX7) (N := 2) hx hb ht0 iX7 tyX7 tyX7_ok nmX7 hown hK hP hD hS 0 rfl rfl 0 (by decide) (ht0 _ wd_167) (fun _ h9 => h9) rfl hin rfl rfl rfl rfl (Nat.le_of_ble_eq_true rfl) dX7_init_10 (fun H locs hP hD hS => ?_)
  have hP : va_P G.1 vwCl ([(h0, .inr (7, [.ref q8, .int 0]))] ++ [(q8, .inl (G.2.1, 600, .inl (fun _ => 0)))]) H := hP
  have hD : va_D A ([(h0, .inr (7, [.ref q8, .int 0]))] ++ [(q8, .inl (G.2.1, 600, .inl (fun _ => 0)))]) := hD
  exact ret_vN (w1 := wN_X7 G h0) (q8 : tX7) hx hb hr hlk hK hP hD hS dX7_init_13
abbrev tX9 : Type := Nat × Nat × Nat × Nat × Nat
def wN_X9 (G : GG) (h0 : Nat) (u : tX9) : va_W := ([(h0, .inr (9, [.ref u.1, .ref u.2.1, .ref u.2.2.1, .ref u.2.2.2.1, .ref u.2.2.2.2]))] ++ [(u.1, .inl (G.2.1, 16, .inl (fun _ => 0)))] ++ [(u.2.1, .inl (G.2.1, 16, .inl (fun _ => 0)))] ++ [(u.2.2.1, .inl (G.2.1, 16, .inl (fun _ => 0)))] ++ [(u.2.2.2.1, .inl (G.2.1, 16, .inl (fun _ => 0)))] ++ [(u.2.2.2.2, .inl (G.2.1, 8, .inl (fun _ => 0)))])
theorem ykN_X9_init : ykN yX9_init cX9_init 1 := ⟨wd_317, wd_134, wd_318, ⟨by decide, by decide, by decide +kernel⟩, rfl⟩
theorem dX9_init_0 : decode cX9_init 0 = .ok (.aload_n 0, 1) := by decide +kernel
theorem dX9_init_1 : decode cX9_init 1 = .ok (.invokespecial 3, 3) := by decide +kernel
theorem dX9_init_4 : decode cX9_init 4 = .ok (.aload_n 0, 1) := by decide +kernel
theorem dX9_init_5 : decode cX9_init 5 = .ok (.bipush 16, 2) := by decide +kernel
theorem dX9_init_7 : decode cX9_init 7 = .ok (.newarray .int, 2) := by decide +kernel
theorem dX9_init_9 : decode cX9_init 9 = .ok (.putfield 9, 3) := by decide +kernel
theorem dX9_init_12 : decode cX9_init 12 = .ok (.aload_n 0, 1) := by decide +kernel
theorem dX9_init_13 : decode cX9_init 13 = .ok (.bipush 16, 2) := by decide +kernel
theorem dX9_init_15 : decode cX9_init 15 = .ok (.newarray .int, 2) := by decide +kernel
theorem dX9_init_17 : decode cX9_init 17 = .ok (.putfield 15, 3) := by decide +kernel
theorem dX9_init_20 : decode cX9_init 20 = .ok (.aload_n 0, 1) := by decide +kernel
theorem dX9_init_21 : decode cX9_init 21 = .ok (.bipush 16, 2) := by decide +kernel
theorem dX9_init_23 : decode cX9_init 23 = .ok (.newarray .int, 2) := by decide +kernel
theorem dX9_init_25 : decode cX9_init 25 = .ok (.putfield 18, 3) := by decide +kernel
theorem dX9_init_28 : decode cX9_init 28 = .ok (.aload_n 0, 1) := by decide +kernel
theorem dX9_init_29 : decode cX9_init 29 = .ok (.bipush 16, 2) := by decide +kernel
theorem dX9_init_31 : decode cX9_init 31 = .ok (.newarray .int, 2) := by decide +kernel
theorem dX9_init_33 : decode cX9_init 33 = .ok (.putfield 21, 3) := by decide +kernel
theorem dX9_init_36 : decode cX9_init 36 = .ok (.aload_n 0, 1) := by decide +kernel
theorem dX9_init_37 : decode cX9_init 37 = .ok (.bipush 8, 2) := by decide +kernel
theorem dX9_init_39 : decode cX9_init 39 = .ok (.newarray .int, 2) := by decide +kernel
theorem dX9_init_41 : decode cX9_init 41 = .ok (.putfield 24, 3) := by decide +kernel
theorem dX9_init_44 : decode cX9_init 44 = .ok (.return_, 1) := by decide +kernel
set_option maxRecDepth 100000 in
set_option maxHeartbeats 4000000 in
theorem c_X9_init (l : Launch) (G : GG) (h0 sz : Nat) : Met l yX9_init (.code yX9_init cX9_init 1 none :: gtbl) ({ frames := 1, cells := 5, slots := 72, locals := 12 } : Room) (PcN G [.ref h0] [(h0, .inr (9, [.null, .null, .null, .null, .null]))] sz) (QvN G (va_A [(h0, .inr (9, [.null, .null, .null, .null, .null]))] sz) (wN_X9 G h0)) 5 72 (va_A [(h0, .inr (9, [.null, .null, .null, .null, .null]))] sz) := by
  refine met_startN (by decide) (Nat.le_of_ble_eq_true rfl) ?_
  intro p e s m below meth c F hr hlk hin hK hP hD hA hS hX hO ls hl
  obtain ⟨hx, hb, hml, hown, ht0⟩ := F
  generalize va_A [(h0, .inr (9, [.null, .null, .null, .null, .null]))] sz = A at hD hA hS hX ⊢
  have hl : lv_has ls 1 [(0, .ref h0)] := hl
  refine lv_aload_n hx hb dX9_init_0 rfl (lv_at hl 0 rfl) ?_
  refine W.objInit hx hb hown (ht0 _ wd_319) (ht0 _ wd_153) (ht0 _ wd_154) rfl (by rw [hml]; exact hl.1) rfl dX9_init_1 (Nat.le_of_ble_eq_true rfl) (Nat.le_of_ble_eq_true rfl) ?_
  refine W.eq (g2 := F0 m 4 ls []) rfl ?_
  refine lv_aload_n hx hb dX9_init_4 rfl (lv_at hl 0 rfl) ?_
  refine lv_bipush (v := (16 : Int32)) hx hb dX9_init_5 (by decide) ?_
  refine nw_I (n := (16 : Int32)) (N := 16) (rest := [.ref h0]) hx hb (ht0 _ wd_176) hK hP hD hS hA (by decide) (by decide) (by decide) (Nat.le_of_ble_eq_true rfl) (Nat.le_of_ble_eq_true rfl) dX9_init_7 (fun q7 H hP hD hS => ?_)
  refine W.widen (k := 1) (n := 16) (by decide) (by decide) ?_
  have hP : va_P G.1 vwCl ([(h0, .inr (9, [.null, .null, .null, .null, .null]))] ++ [(q7, .inl (G.2.1, 16, .inl (fun _ => 0)))]) H := hP
  have hD : va_D A ([(h0, .inr (9, [.null, .null, .null, .null, .null]))] ++ [(q7, .inl (G.2.1, 16, .inl (fun _ => 0)))]) := hD
  refine va_putF (ci := 9) (v := .ref q7) (ty := (.array .int)) (C := RX9) (T := TX9) (N := 5) hx hb ht0 iX9 tyX9 tyX9_ok nmX9 hown hK hP hD hS 0 rfl rfl 0 (by decide) (ht0 _ wd_320) (fun _ h9 => h9) rfl hin rfl rfl rfl rfl (Nat.le_of_ble_eq_true rfl) dX9_init_9 (fun H locs hP hD hS => ?_)
  have hP : va_P G.1 vwCl ([(h0, .inr (9, [.ref q7, .null, .null, .null, .null]))] ++ [(q7, .inl (G.2.1, 16, .inl (fun _ => 0)))]) H := hP
  have hD : va_D A ([(h0, .inr (9, [.ref q7, .null, .null, .null, .null]))] ++ [(q7, .inl (G.2.1, 16, .inl (fun _ => 0)))]) := hD
  refine lv_aload_n hx hb dX9_init_12 rfl (lv_at hl 0 rfl) ?_
  refine lv_bipush (v := (16 : Int32)) hx hb dX9_init_13 (by decide) ?_
  refine nw_I (n := (16 : Int32)) (N := 16) (rest := [.ref h0]) hx hb (ht0 _ wd_176) hK hP hD hS hA (by decide) (by decide) (by decide) (Nat.le_of_ble_eq_true rfl) (Nat.le_of_ble_eq_true rfl) dX9_init_15 (fun q15 H hP hD hS => ?_)
  refine W.widen (k := 2) (n := 32) (by decide) (by decide) ?_
  have hP : va_P G.1 vwCl ([(h0, .inr (9, [.ref q7, .null, .null, .null, .null]))] ++ [(q7, .inl (G.2.1, 16, .inl (fun _ => 0)))] ++ [(q15, .inl (G.2.1, 16, .inl (fun _ => 0)))]) H := hP
  have hD : va_D A ([(h0, .inr (9, [.ref q7, .null, .null, .null, .null]))] ++ [(q7, .inl (G.2.1, 16, .inl (fun _ => 0)))] ++ [(q15, .inl (G.2.1, 16, .inl (fun _ => 0)))]) := hD
  refine va_putF (ci := 9) (v := .ref q15) (ty := (.array .int)) (C := RX9) (T := TX9) (N := 5) hx hb ht0 iX9 tyX9 tyX9_ok nmX9 hown hK hP hD hS 0 rfl rfl 1 (by decide) (ht0 _ wd_322) (fun _ h9 => h9) rfl hin rfl rfl rfl rfl (Nat.le_of_ble_eq_true rfl) dX9_init_17 (fun H locs hP hD hS => ?_)
  have hP : va_P G.1 vwCl ([(h0, .inr (9, [.ref q7, .ref q15, .null, .null, .null]))] ++ [(q7, .inl (G.2.1, 16, .inl (fun _ => 0)))] ++ [(q15, .inl (G.2.1, 16, .inl (fun _ => 0)))]) H := hP
  have hD : va_D A ([(h0, .inr (9, [.ref q7, .ref q15, .null, .null, .null]))] ++ [(q7, .inl (G.2.1, 16, .inl (fun _ => 0)))] ++ [(q15, .inl (G.2.1, 16, .inl (fun _ => 0)))]) := hD
  refine lv_aload_n hx hb dX9_init_20 rfl (lv_at hl 0 rfl) ?_
  refine lv_bipush (v := (16 : Int32)) hx hb dX9_init_21 (by decide) ?_
  refine nw_I (n := (16 : Int32)) (N := 16) (rest := [.ref h0]) hx hb (ht0 _ wd_176) hK hP hD hS hA (by decide) (by decide) (by decide) (Nat.le_of_ble_eq_true rfl) (Nat.le_of_ble_eq_true rfl) dX9_init_23 (fun q23 H hP hD hS => ?_)
  refine W.widen (k := 3) (n := 48) (by decide) (by decide) ?_
  have hP : va_P G.1 vwCl ([(h0, .inr (9, [.ref q7, .ref q15, .null, .null, .null]))] ++ [(q7, .inl (G.2.1, 16, .inl (fun _ => 0)))] ++ [(q15, .inl (G.2.1, 16, .inl (fun _ => 0)))] ++ [(q23, .inl (G.2.1, 16, .inl (fun _ => 0)))]) H := hP
  have hD : va_D A ([(h0, .inr (9, [.ref q7, .ref q15, .null, .null, .null]))] ++ [(q7, .inl (G.2.1, 16, .inl (fun _ => 0)))] ++ [(q15, .inl (G.2.1, 16, .inl (fun _ => 0)))] ++ [(q23, .inl (G.2.1, 16, .inl (fun _ => 0)))]) := hD
  refine va_putF (ci := 9) (v := .ref q23) (ty := (.array .int)) (C := RX9) (T := TX9) (N := 5) hx hb ht0 iX9 tyX9 tyX9_ok nmX9 hown hK hP hD hS 0 rfl rfl 2 (by decide) (ht0 _ wd_324) (fun _ h9 => h9) rfl hin rfl rfl rfl rfl (Nat.le_of_ble_eq_true rfl) dX9_init_25 (fun H locs hP hD hS => ?_)
  have hP : va_P G.1 vwCl ([(h0, .inr (9, [.ref q7, .ref q15, .ref q23, .null, .null]))] ++ [(q7, .inl (G.2.1, 16, .inl (fun _ => 0)))] ++ [(q15, .inl (G.2.1, 16, .inl (fun _ => 0)))] ++ [(q23, .inl (G.2.1, 16, .inl (fun _ => 0)))]) H := hP
  have hD : va_D A ([(h0, .inr (9, [.ref q7, .ref q15, .ref q23, .null, .null]))] ++ [(q7, .inl (G.2.1, 16, .inl (fun _ => 0)))] ++ [(q15, .inl (G.2.1, 16, .inl (fun _ => 0)))] ++ [(q23, .inl (G.2.1, 16, .inl (fun _ => 0)))]) := hD
  refine lv_aload_n hx hb dX9_init_28 rfl (lv_at hl 0 rfl) ?_
  refine lv_bipush (v := (16 : Int32)) hx hb dX9_init_29 (by decide) ?_
  refine nw_I (n := (16 : Int32)) (N := 16) (rest := [.ref h0]) hx hb (ht0 _ wd_176) hK hP hD hS hA (by decide) (by decide) (by decide) (Nat.le_of_ble_eq_true rfl) (Nat.le_of_ble_eq_true rfl) dX9_init_31 (fun q31 H hP hD hS => ?_)
  refine W.widen (k := 4) (n := 64) (by decide) (by decide) ?_
  have hP : va_P G.1 vwCl ([(h0, .inr (9, [.ref q7, .ref q15, .ref q23, .null, .null]))] ++ [(q7, .inl (G.2.1, 16, .inl (fun _ => 0)))] ++ [(q15, .inl (G.2.1, 16, .inl (fun _ => 0)))] ++ [(q23, .inl (G.2.1, 16, .inl (fun _ => 0)))] ++ [(q31, .inl (G.2.1, 16, .inl (fun _ => 0)))]) H := hP
  have hD : va_D A ([(h0, .inr (9, [.ref q7, .ref q15, .ref q23, .null, .null]))] ++ [(q7, .inl (G.2.1, 16, .inl (fun _ => 0)))] ++ [(q15, .inl (G.2.1, 16, .inl (fun _ => 0)))] ++ [(q23, .inl (G.2.1, 16, .inl (fun _ => 0)))] ++ [(q31, .inl (G.2.1, 16, .inl (fun _ => 0)))]) := hD
  refine va_putF (ci := 9) (v := .ref q31) (ty := (.array .int)) (C := RX9) (T := TX9) (N := 5) hx hb ht0 iX9 tyX9 tyX9_ok nmX9 hown hK hP hD hS 0 rfl rfl 3 (by decide) (ht0 _ wd_326) (fun _ h9 => h9) rfl hin rfl rfl rfl rfl (Nat.le_of_ble_eq_true rfl) dX9_init_33 (fun H locs hP hD hS => ?_)
  have hP : va_P G.1 vwCl ([(h0, .inr (9, [.ref q7, .ref q15, .ref q23, .ref q31, .null]))] ++ [(q7, .inl (G.2.1, 16, .inl (fun _ => 0)))] ++ [(q15, .inl (G.2.1, 16, .inl (fun _ => 0)))] ++ [(q23, .inl (G.2.1, 16, .inl (fun _ => 0)))] ++ [(q31, .inl (G.2.1, 16, .inl (fun _ => 0)))]) H := hP
  have hD : va_D A ([(h0, .inr (9, [.ref q7, .ref q15, .ref q23, .ref q31, .null]))] ++ [(q7, .inl (G.2.1, 16, .inl (fun _ => 0)))] ++ [(q15, .inl (G.2.1, 16, .inl (fun _ => 0)))] ++ [(q23, .inl (G.2.1, 16, .inl (fun _ => 0)))] ++ [(q31, .inl (G.2.1, 16, .inl (fun _ => 0)))]) := hD
  refine lv_aload_n hx hb dX9_init_36 rfl (lv_at hl 0 rfl) ?_
  refine lv_bipush (v := (8 : Int32)) hx hb dX9_init_37 (by decide) ?_
  refine nw_I (n := (8 : Int32)) (N := 8) (rest := [.ref h0]) hx hb (ht0 _ wd_176) hK hP hD hS hA (by decide) (by decide) (by decide) (Nat.le_of_ble_eq_true rfl) (Nat.le_of_ble_eq_true rfl) dX9_init_39 (fun q39 H hP hD hS => ?_)
  refine W.widen (k := 5) (n := 72) (by decide) (by decide) ?_
  have hP : va_P G.1 vwCl ([(h0, .inr (9, [.ref q7, .ref q15, .ref q23, .ref q31, .null]))] ++ [(q7, .inl (G.2.1, 16, .inl (fun _ => 0)))] ++ [(q15, .inl (G.2.1, 16, .inl (fun _ => 0)))] ++ [(q23, .inl (G.2.1, 16, .inl (fun _ => 0)))] ++ [(q31, .inl (G.2.1, 16, .inl (fun _ => 0)))] ++ [(q39, .inl (G.2.1, 8, .inl (fun _ => 0)))]) H := hP
  have hD : va_D A ([(h0, .inr (9, [.ref q7, .ref q15, .ref q23, .ref q31, .null]))] ++ [(q7, .inl (G.2.1, 16, .inl (fun _ => 0)))] ++ [(q15, .inl (G.2.1, 16, .inl (fun _ => 0)))] ++ [(q23, .inl (G.2.1, 16, .inl (fun _ => 0)))] ++ [(q31, .inl (G.2.1, 16, .inl (fun _ => 0)))] ++ [(q39, .inl (G.2.1, 8, .inl (fun _ => 0)))]) := hD
  refine va_putF (ci := 9) (v := .ref q39) (ty := (.array .int)) (C := RX9) (T := TX9) (N := 5) hx hb ht0 iX9 tyX9 tyX9_ok nmX9 hown hK hP hD hS 0 rfl rfl 4 (by decide) (ht0 _ wd_328) (fun _ h9 => h9) rfl hin rfl rfl rfl rfl (Nat.le_of_ble_eq_true rfl) dX9_init_41 (fun H locs hP hD hS => ?_)
  have hP : va_P G.1 vwCl ([(h0, .inr (9, [.ref q7, .ref q15, .ref q23, .ref q31, .ref q39]))] ++ [(q7, .inl (G.2.1, 16, .inl (fun _ => 0)))] ++ [(q15, .inl (G.2.1, 16, .inl (fun _ => 0)))] ++ [(q23, .inl (G.2.1, 16, .inl (fun _ => 0)))] ++ [(q31, .inl (G.2.1, 16, .inl (fun _ => 0)))] ++ [(q39, .inl (G.2.1, 8, .inl (fun _ => 0)))]) H := hP
  have hD : va_D A ([(h0, .inr (9, [.ref q7, .ref q15, .ref q23, .ref q31, .ref q39]))] ++ [(q7, .inl (G.2.1, 16, .inl (fun _ => 0)))] ++ [(q15, .inl (G.2.1, 16, .inl (fun _ => 0)))] ++ [(q23, .inl (G.2.1, 16, .inl (fun _ => 0)))] ++ [(q31, .inl (G.2.1, 16, .inl (fun _ => 0)))] ++ [(q39, .inl (G.2.1, 8, .inl (fun _ => 0)))]) := hD
  exact ret_vN (w1 := wN_X9 G h0) ((q7, q15, q23, q31, q39) : tX9) hx hb hr hlk hK hP hD hS dX9_init_44
abbrev tX5 : Type := Nat × Nat × Nat × Nat × Nat × Nat
def wN_X5 (G : GG) (h0 : Nat) (u : tX5) : va_W := ([(h0, .inr (5, [.ref u.1, .ref u.2.1, .ref u.2.2.1, .ref u.2.2.2.1, .ref u.2.2.2.2.1, .ref u.2.2.2.2.2, .int 0, .int 0, .int 0]))] ++ [(u.1, .inl (G.2.1, 128, .inl (fun _ => 0)))] ++ [(u.2.1, .inl (G.2.1, 128, .inl (fun _ => 0)))] ++ [(u.2.2.1, .inl (G.2.1, 128, .inl (fun _ => 0)))] ++ [(u.2.2.2.1, .inl (G.2.1, 128, .inl (fun _ => 0)))] ++ [(u.2.2.2.2.1, .inl (G.2.1, 128, .inl (fun _ => 0)))] ++ [(u.2.2.2.2.2, .inl (G.2.1, 128, .inl (fun _ => 0)))])
theorem ykN_X5_init : ykN yX5_init cX5_init 1 := ⟨wd_423, wd_137, wd_424, ⟨by decide, by decide, by decide +kernel⟩, rfl⟩
theorem dX5_init_0 : decode cX5_init 0 = .ok (.aload_n 0, 1) := by decide +kernel
theorem dX5_init_1 : decode cX5_init 1 = .ok (.invokespecial 3, 3) := by decide +kernel
theorem dX5_init_4 : decode cX5_init 4 = .ok (.aload_n 0, 1) := by decide +kernel
theorem dX5_init_5 : decode cX5_init 5 = .ok (.sipush 128, 3) := by decide +kernel
theorem dX5_init_8 : decode cX5_init 8 = .ok (.newarray .int, 2) := by decide +kernel
theorem dX5_init_10 : decode cX5_init 10 = .ok (.putfield 11, 3) := by decide +kernel
theorem dX5_init_13 : decode cX5_init 13 = .ok (.aload_n 0, 1) := by decide +kernel
theorem dX5_init_14 : decode cX5_init 14 = .ok (.sipush 128, 3) := by decide +kernel
theorem dX5_init_17 : decode cX5_init 17 = .ok (.newarray .int, 2) := by decide +kernel
theorem dX5_init_19 : decode cX5_init 19 = .ok (.putfield 15, 3) := by decide +kernel
theorem dX5_init_22 : decode cX5_init 22 = .ok (.aload_n 0, 1) := by decide +kernel
theorem dX5_init_23 : decode cX5_init 23 = .ok (.sipush 128, 3) := by decide +kernel
theorem dX5_init_26 : decode cX5_init 26 = .ok (.newarray .int, 2) := by decide +kernel
theorem dX5_init_28 : decode cX5_init 28 = .ok (.putfield 18, 3) := by decide +kernel
theorem dX5_init_31 : decode cX5_init 31 = .ok (.aload_n 0, 1) := by decide +kernel
theorem dX5_init_32 : decode cX5_init 32 = .ok (.sipush 128, 3) := by decide +kernel
theorem dX5_init_35 : decode cX5_init 35 = .ok (.newarray .int, 2) := by decide +kernel
theorem dX5_init_37 : decode cX5_init 37 = .ok (.putfield 21, 3) := by decide +kernel
theorem dX5_init_40 : decode cX5_init 40 = .ok (.aload_n 0, 1) := by decide +kernel
theorem dX5_init_41 : decode cX5_init 41 = .ok (.sipush 128, 3) := by decide +kernel
theorem dX5_init_44 : decode cX5_init 44 = .ok (.newarray .int, 2) := by decide +kernel
theorem dX5_init_46 : decode cX5_init 46 = .ok (.putfield 24, 3) := by decide +kernel
theorem dX5_init_49 : decode cX5_init 49 = .ok (.aload_n 0, 1) := by decide +kernel
theorem dX5_init_50 : decode cX5_init 50 = .ok (.sipush 128, 3) := by decide +kernel
theorem dX5_init_53 : decode cX5_init 53 = .ok (.newarray .int, 2) := by decide +kernel
theorem dX5_init_55 : decode cX5_init 55 = .ok (.putfield 27, 3) := by decide +kernel
theorem dX5_init_58 : decode cX5_init 58 = .ok (.return_, 1) := by decide +kernel
set_option maxRecDepth 100000 in
set_option maxHeartbeats 4000000 in
theorem c_X5_init (l : Launch) (G : GG) (h0 sz : Nat) : Met l yX5_init (.code yX5_init cX5_init 1 none :: gtbl) ({ frames := 1, cells := 6, slots := 768, locals := 12 } : Room) (PcN G [.ref h0] [(h0, .inr (5, [.null, .null, .null, .null, .null, .null, .int 0, .int 0, .int 0]))] sz) (QvN G (va_A [(h0, .inr (5, [.null, .null, .null, .null, .null, .null, .int 0, .int 0, .int 0]))] sz) (wN_X5 G h0)) 6 768 (va_A [(h0, .inr (5, [.null, .null, .null, .null, .null, .null, .int 0, .int 0, .int 0]))] sz) := by
  refine met_startN (by decide) (Nat.le_of_ble_eq_true rfl) ?_
  intro p e s m below meth c F hr hlk hin hK hP hD hA hS hX hO ls hl
  obtain ⟨hx, hb, hml, hown, ht0⟩ := F
  generalize va_A [(h0, .inr (5, [.null, .null, .null, .null, .null, .null, .int 0, .int 0, .int 0]))] sz = A at hD hA hS hX ⊢
  have hl : lv_has ls 1 [(0, .ref h0)] := hl
  refine lv_aload_n hx hb dX5_init_0 rfl (lv_at hl 0 rfl) ?_
  refine W.objInit hx hb hown (ht0 _ wd_425) (ht0 _ wd_153) (ht0 _ wd_154) rfl (by rw [hml]; exact hl.1) rfl dX5_init_1 (Nat.le_of_ble_eq_true rfl) (Nat.le_of_ble_eq_true rfl) ?_
  refine W.eq (g2 := F0 m 4 ls []) rfl ?_
  refine lv_aload_n hx hb dX5_init_4 rfl (lv_at hl 0 rfl) ?_
  refine lv_sipush (v := (128 : Int32)) hx hb dX5_init_5 (by decide) ?_
  refine nw_I (n := (128 : Int32)) (N := 128) (rest := [.ref h0]) hx hb (ht0 _ wd_176) hK hP hD hS hA (by decide) (by decide) (by decide) (Nat.le_of_ble_eq_true rfl) (Nat.le_of_ble_eq_true rfl) dX5_init_8 (fun q8 H hP hD hS => ?_)
  refine W.widen (k := 1) (n := 128) (by decide) (by decide) ?_
  have hP : va_P G.1 vwCl ([(h0, .inr (5, [.null, .null, .null, .null, .null, .null, .int 0, .int 0, .int 0]))] ++ [(q8, .inl (G.2.1, 128, .inl (fun _ => 0)))]) H := hP
  have hD : va_D A ([(h0, .inr (5, [.null, .null, .null, .null, .null, .null, .int 0, .int 0, .int 0]))] ++ [(q8, .inl (G.2.1, 128, .inl (fun _ => 0)))]) := hD
  refine va_putF (ci := 5) (v := .ref q8) (ty := (.array .int)) (C := RX5) (T := TX5) (N := 9) hx hb ht0 iX5 tyX5 tyX5_ok nmX5 hown hK hP hD hS 0 rfl rfl 0 (by decide) (ht0 _ wd_426) (fun _ h9 => h9) rfl hin rfl rfl rfl rfl (Nat.le_of_ble_eq_true rfl) dX5_init_10 (fun H locs hP hD hS => ?_)
  have hP : va_P G.1 vwCl ([(h0, .inr (5, [.ref q8, .null, .null, .null, .null, .null, .int 0, .int 0, .int 0]))] ++ [(q8, .inl (G.2.1, 128, .inl (fun _ => 0)))]) H := hP
  have hD : va_D A ([(h0, .inr (5, [.ref q8, .null, .null, .null, .null, .null, .int 0, .int 0, .int 0]))] ++ [(q8, .inl (G.2.1, 128, .inl (fun _ => 0)))]) := hD
  refine lv_aload_n hx hb dX5_init_13 rfl (lv_at hl 0 rfl) ?_
  refine lv_sipush (v := (128 : Int32)) hx hb dX5_init_14 (by decide) ?_
  refine nw_I (n := (128 : Int32)) (N := 128) (rest := [.ref h0]) hx hb (ht0 _ wd_176) hK hP hD hS hA (by decide) (by decide) (by decide) (Nat.le_of_ble_eq_true rfl) (Nat.le_of_ble_eq_true rfl) dX5_init_17 (fun q17 H hP hD hS => ?_)
  refine W.widen (k := 2) (n := 256) (by decide) (by decide) ?_
  have hP : va_P G.1 vwCl ([(h0, .inr (5, [.ref q8, .null, .null, .null, .null, .null, .int 0, .int 0, .int 0]))] ++ [(q8, .inl (G.2.1, 128, .inl (fun _ => 0)))] ++ [(q17, .inl (G.2.1, 128, .inl (fun _ => 0)))]) H := hP
  have hD : va_D A ([(h0, .inr (5, [.ref q8, .null, .null, .null, .null, .null, .int 0, .int 0, .int 0]))] ++ [(q8, .inl (G.2.1, 128, .inl (fun _ => 0)))] ++ [(q17, .inl (G.2.1, 128, .inl (fun _ => 0)))]) := hD
  refine va_putF (ci := 5) (v := .ref q17) (ty := (.array .int)) (C := RX5) (T := TX5) (N := 9) hx hb ht0 iX5 tyX5 tyX5_ok nmX5 hown hK hP hD hS 0 rfl rfl 1 (by decide) (ht0 _ wd_427) (fun _ h9 => h9) rfl hin rfl rfl rfl rfl (Nat.le_of_ble_eq_true rfl) dX5_init_19 (fun H locs hP hD hS => ?_)
  have hP : va_P G.1 vwCl ([(h0, .inr (5, [.ref q8, .ref q17, .null, .null, .null, .null, .int 0, .int 0, .int 0]))] ++ [(q8, .inl (G.2.1, 128, .inl (fun _ => 0)))] ++ [(q17, .inl (G.2.1, 128, .inl (fun _ => 0)))]) H := hP
  have hD : va_D A ([(h0, .inr (5, [.ref q8, .ref q17, .null, .null, .null, .null, .int 0, .int 0, .int 0]))] ++ [(q8, .inl (G.2.1, 128, .inl (fun _ => 0)))] ++ [(q17, .inl (G.2.1, 128, .inl (fun _ => 0)))]) := hD
  refine lv_aload_n hx hb dX5_init_22 rfl (lv_at hl 0 rfl) ?_
  refine lv_sipush (v := (128 : Int32)) hx hb dX5_init_23 (by decide) ?_
  refine nw_I (n := (128 : Int32)) (N := 128) (rest := [.ref h0]) hx hb (ht0 _ wd_176) hK hP hD hS hA (by decide) (by decide) (by decide) (Nat.le_of_ble_eq_true rfl) (Nat.le_of_ble_eq_true rfl) dX5_init_26 (fun q26 H hP hD hS => ?_)
  refine W.widen (k := 3) (n := 384) (by decide) (by decide) ?_
  have hP : va_P G.1 vwCl ([(h0, .inr (5, [.ref q8, .ref q17, .null, .null, .null, .null, .int 0, .int 0, .int 0]))] ++ [(q8, .inl (G.2.1, 128, .inl (fun _ => 0)))] ++ [(q17, .inl (G.2.1, 128, .inl (fun _ => 0)))] ++ [(q26, .inl (G.2.1, 128, .inl (fun _ => 0)))]) H := hP
  have hD : va_D A ([(h0, .inr (5, [.ref q8, .ref q17, .null, .null, .null, .null, .int 0, .int 0, .int 0]))] ++ [(q8, .inl (G.2.1, 128, .inl (fun _ => 0)))] ++ [(q17, .inl (G.2.1, 128, .inl (fun _ => 0)))] ++ [(q26, .inl (G.2.1, 128, .inl (fun _ => 0)))]) := hD
  refine va_putF (ci := 5) (v := .ref q26) (ty := (.array .int)) (C := RX5) (T := TX5) (N := 9) hx hb ht0 iX5 tyX5 tyX5_ok nmX5 hown hK hP hD hS 0 rfl rfl 2 (by decide) (ht0 _ wd_428) (fun _ h9 => h9) rfl hin rfl rfl rfl rfl (Nat.le_of_ble_eq_true rfl) dX5_init_28 (fun H locs hP hD hS => ?_)
  have hP : va_P G.1 vwCl ([(h0, .inr (5, [.ref q8, .ref q17, .ref q26, .null, .null, .null, .int 0, .int 0, .int 0]))] ++ [(q8, .inl (G.2.1, 128, .inl (fun _ => 0)))] ++ [(q17, .inl (G.2.1, 128, .inl (fun _ => 0)))] ++ [(q26, .inl (G.2.1, 128, .inl (fun _ => 0)))]) H := hP
  have hD : va_D A ([(h0, .inr (5, [.ref q8, .ref q17, .ref q26, .null, .null, .null, .int 0, .int 0, .int 0]))] ++ [(q8, .inl (G.2.1, 128, .inl (fun _ => 0)))] ++ [(q17, .inl (G.2.1, 128, .inl (fun _ => 0)))] ++ [(q26, .inl (G.2.1, 128, .inl (fun _ => 0)))]) := hD
  refine lv_aload_n hx hb dX5_init_31 rfl (lv_at hl 0 rfl) ?_
  refine lv_sipush (v := (128 : Int32)) hx hb dX5_init_32 (by decide) ?_
  refine nw_I (n := (128 : Int32)) (N := 128) (rest := [.ref h0]) hx hb (ht0 _ wd_176) hK hP hD hS hA (by decide) (by decide) (by decide) (Nat.le_of_ble_eq_true rfl) (Nat.le_of_ble_eq_true rfl) dX5_init_35 (fun q35 H hP hD hS => ?_)
  refine W.widen (k := 4) (n := 512) (by decide) (by decide) ?_
  have hP : va_P G.1 vwCl ([(h0, .inr (5, [.ref q8, .ref q17, .ref q26, .null, .null, .null, .int 0, .int 0, .int 0]))] ++ [(q8, .inl (G.2.1, 128, .inl (fun _ => 0)))] ++ [(q17, .inl (G.2.1, 128, .inl (fun _ => 0)))] ++ [(q26, .inl (G.2.1, 128, .inl (fun _ => 0)))] ++ [(q35, .inl (G.2.1, 128, .inl (fun _ => 0)))]) H := hP
  have hD : va_D A ([(h0, .inr (5, [.ref q8, .ref q17, .ref q26, .null, .null, .null, .int 0, .int 0, .int 0]))] ++ [(q8, .inl (G.2.1, 128, .inl (fun _ => 0)))] ++ [(q17, .inl (G.2.1, 128, .inl (fun _ => 0)))] ++ [(q26, .inl (G.2.1, 128, .inl (fun _ => 0)))] ++ [(q35, .inl (G.2.1, 128, .inl (fun _ => 0)))]) := hD
  refine va_putF (ci := 5) (v := .ref q35) (ty := (.array .int)) (C := RX5) (T := TX5) (N := 9) hx hb ht0 iX5 tyX5 tyX5_ok nmX5 hown hK hP hD hS 0 rfl rfl 3 (by decide) (ht0 _ wd_429) (fun _ h9 => h9) rfl hin rfl rfl rfl rfl (Nat.le_of_ble_eq_true rfl) dX5_init_37 (fun H locs hP hD hS => ?_)
  have hP : va_P G.1 vwCl ([(h0, .inr (5, [.ref q8, .ref q17, .ref q26, .ref q35, .null, .null, .int 0, .int 0, .int 0]))] ++ [(q8, .inl (G.2.1, 128, .inl (fun _ => 0)))] ++ [(q17, .inl (G.2.1, 128, .inl (fun _ => 0)))] ++ [(q26, .inl (G.2.1, 128, .inl (fun _ => 0)))] ++ [(q35, .inl (G.2.1, 128, .inl (fun _ => 0)))]) H := hP
  have hD : va_D A ([(h0, .inr (5, [.ref q8, .ref q17, .ref q26, .ref q35, .null, .null, .int 0, .int 0, .int 0]))] ++ [(q8, .inl (G.2.1, 128, .inl (fun _ => 0)))] ++ [(q17, .inl (G.2.1, 128, .inl (fun _ => 0)))] ++ [(q26, .inl (G.2.1, 128, .inl (fun _ => 0)))] ++ [(q35, .inl (G.2.1, 128, .inl (fun _ => 0)))]) := hD
  refine lv_aload_n hx hb dX5_init_40 rfl (lv_at hl 0 rfl) ?_
  refine lv_sipush (v := (128 : Int32)) hx hb dX5_init_41 (by decide) ?_
  refine nw_I (n := (128 : Int32)) (N := 128) (rest := [.ref h0]) hx hb (ht0 _ wd_176) hK hP hD hS hA (by decide) (by decide) (by decide) (Nat.le_of_ble_eq_true rfl) (Nat.le_of_ble_eq_true rfl) dX5_init_44 (fun q44 H hP hD hS => ?_)
  refine W.widen (k := 5) (n := 640) (by decide) (by decide) ?_
  have hP : va_P G.1 vwCl ([(h0, .inr (5, [.ref q8, .ref q17, .ref q26, .ref q35, .null, .null, .int 0, .int 0, .int 0]))] ++ [(q8, .inl (G.2.1, 128, .inl (fun _ => 0)))] ++ [(q17, .inl (G.2.1, 128, .inl (fun _ => 0)))] ++ [(q26, .inl (G.2.1, 128, .inl (fun _ => 0)))] ++ [(q35, .inl (G.2.1, 128, .inl (fun _ => 0)))] ++ [(q44, .inl (G.2.1, 128, .inl (fun _ => 0)))]) H := hP
  have hD : va_D A ([(h0, .inr (5, [.ref q8, .ref q17, .ref q26, .ref q35, .null, .null, .int 0, .int 0, .int 0]))] ++ [(q8, .inl (G.2.1, 128, .inl (fun _ => 0)))] ++ [(q17, .inl (G.2.1, 128, .inl (fun _ => 0)))] ++ [(q26, .inl (G.2.1, 128, .inl (fun _ => 0)))] ++ [(q35, .inl (G.2.1, 128, .inl (fun _ => 0)))] ++ [(q44, .inl (G.2.1, 128, .inl (fun _ => 0)))]) := hD
  refine va_putF (ci := 5) (v := .ref q44) (ty := (.array .int)) (C := RX5) (T := TX5) (N := 9) hx hb ht0 iX5 tyX5 tyX5_ok nmX5 hown hK hP hD hS 0 rfl rfl 4 (by decide) (ht0 _ wd_430) (fun _ h9 => h9) rfl hin rfl rfl rfl rfl (Nat.le_of_ble_eq_true rfl) dX5_init_46 (fun H locs hP hD hS => ?_)
  have hP : va_P G.1 vwCl ([(h0, .inr (5, [.ref q8, .ref q17, .ref q26, .ref q35, .ref q44, .null, .int 0, .int 0, .int 0]))] ++ [(q8, .inl (G.2.1, 128, .inl (fun _ => 0)))] ++ [(q17, .inl (G.2.1, 128, .inl (fun _ => 0)))] ++ [(q26, .inl (G.2.1, 128, .inl (fun _ => 0)))] ++ [(q35, .inl (G.2.1, 128, .inl (fun _ => 0)))] ++ [(q44, .inl (G.2.1, 128, .inl (fun _ => 0)))]) H := hP
  have hD : va_D A ([(h0, .inr (5, [.ref q8, .ref q17, .ref q26, .ref q35, .ref q44, .null, .int 0, .int 0, .int 0]))] ++ [(q8, .inl (G.2.1, 128, .inl (fun _ => 0)))] ++ [(q17, .inl (G.2.1, 128, .inl (fun _ => 0)))] ++ [(q26, .inl (G.2.1, 128, .inl (fun _ => 0)))] ++ [(q35, .inl (G.2.1, 128, .inl (fun _ => 0)))] ++ [(q44, .inl (G.2.1, 128, .inl (fun _ => 0)))]) := hD
  refine lv_aload_n hx hb dX5_init_49 rfl (lv_at hl 0 rfl) ?_
  refine lv_sipush (v := (128 : Int32)) hx hb dX5_init_50 (by decide) ?_
  refine nw_I (n := (128 : Int32)) (N := 128) (rest := [.ref h0]) hx hb (ht0 _ wd_176) hK hP hD hS hA (by decide) (by decide) (by decide) (Nat.le_of_ble_eq_true rfl) (Nat.le_of_ble_eq_true rfl) dX5_init_53 (fun q53 H hP hD hS => ?_)
  refine W.widen (k := 6) (n := 768) (by decide) (by decide) ?_
  have hP : va_P G.1 vwCl ([(h0, .inr (5, [.ref q8, .ref q17, .ref q26, .ref q35, .ref q44, .null, .int 0, .int 0, .int 0]))] ++ [(q8, .inl (G.2.1, 128, .inl (fun _ => 0)))] ++ [(q17, .inl (G.2.1, 128, .inl (fun _ => 0)))] ++ [(q26, .inl (G.2.1, 128, .inl (fun _ => 0)))] ++ [(q35, .inl (G.2.1, 128, .inl (fun _ => 0)))] ++ [(q44, .inl (G.2.1, 128, .inl (fun _ => 0)))] ++ [(q53, .inl (G.2.1, 128, .inl (fun _ => 0)))]) H := hP
  have hD : va_D A ([(h0, .inr (5, [.ref q8, .ref q17, .ref q26, .ref q35, .ref q44, .null, .int 0, .int 0, .int 0]))] ++ [(q8, .inl (G.2.1, 128, .inl (fun _ => 0)))] ++ [(q17, .inl (G.2.1, 128, .inl (fun _ => 0)))] ++ [(q26, .inl (G.2.1, 128, .inl (fun _ => 0)))] ++ [(q35, .inl (G.2.1, 128, .inl (fun _ => 0)))] ++ [(q44, .inl (G.2.1, 128, .inl (fun _ => 0)))] ++ [(q53, .inl (G.2.1, 128, .inl (fun _ => 0)))]) := hD
  refine va_putF (ci := 5) (v := .ref q53) (ty := (.array .int)) (C := RX5) (T := TX5) (N := 9) hx hb ht0 iX5 tyX5 tyX5_ok nmX5 hown hK hP hD hS 0 rfl rfl 5 (by decide) (ht0 _ wd_431) (fun _ h9 => h9) rfl hin rfl rfl rfl rfl (Nat.le_of_ble_eq_true rfl) dX5_init_55 (fun H locs hP hD hS => ?_)
  have hP : va_P G.1 vwCl ([(h0, .inr (5, [.ref q8, .ref q17, .ref q26, .ref q35, .ref q44, .ref q53, .int 0, .int 0, .int 0]))] ++ [(q8, .inl (G.2.1, 128, .inl (fun _ => 0)))] ++ [(q17, .inl (G.2.1, 128, .inl (fun _ => 0)))] ++ [(q26, .inl (G.2.1, 128, .inl (fun _ => 0)))] ++ [(q35, .inl (G.2.1, 128, .inl (fun _ => 0)))] ++ [(q44, .inl (G.2.1, 128, .inl (fun _ => 0)))] ++ [(q53, .inl (G.2.1, 128, .inl (fun _ => 0)))]) H := hP
  have hD : va_D A ([(h0, .inr (5, [.ref q8, .ref q17, .ref q26, .ref q35, .ref q44, .ref q53, .int 0, .int 0, .int 0]))] ++ [(q8, .inl (G.2.1, 128, .inl (fun _ => 0)))] ++ [(q17, .inl (G.2.1, 128, .inl (fun _ => 0)))] ++ [(q26, .inl (G.2.1, 128, .inl (fun _ => 0)))] ++ [(q35, .inl (G.2.1, 128, .inl (fun _ => 0)))] ++ [(q44, .inl (G.2.1, 128, .inl (fun _ => 0)))] ++ [(q53, .inl (G.2.1, 128, .inl (fun _ => 0)))]) := hD
  exact ret_vN (w1 := wN_X5 G h0) ((q8, q17, q26, q35, q44, q53) : tX5) hx hb hr hlk hK hP hD hS dX5_init_58
abbrev tX3 : Type := Nat × tX7 × Nat × tX0 × Nat × tX1 × Nat
def wN_X3 (G : GG) (h0 : Nat) (u : tX3) : va_W := ([(h0, .inr (3, [.ref u.1, .ref u.2.2.1, .ref u.2.2.2.2.1, .ref u.2.2.2.2.2.2, .int 0, .int 0, .int 0, .int 0, .int 0, .int 0, .int 0, .int 0, .int 0, .int 0, .int 0]))] ++ wN_X7 G u.1 u.2.1 ++ wN_X0 G u.2.2.1 u.2.2.2.1 ++ wN_X1 G u.2.2.2.2.1 u.2.2.2.2.2.1 ++ [(u.2.2.2.2.2.2, .inl (G.2.1, 16, .inl (fun _ => 0)))])
theorem ykN_X3_init : ykN yX3_init cX3_init 1 := ⟨wd_158, wd_128, wd_159, ⟨by decide, by decide, by decide +kernel⟩, rfl⟩
theorem dX3_init_0 : decode cX3_init 0 = .ok (.aload_n 0, 1) := by decide +kernel
theorem dX3_init_1 : decode cX3_init 1 = .ok (.invokespecial 3, 3) := by decide +kernel
theorem dX3_init_4 : decode cX3_init 4 = .ok (.aload_n 0, 1) := by decide +kernel
theorem dX3_init_5 : decode cX3_init 5 = .ok (.new 9, 3) := by decide +kernel
theorem dX3_init_8 : decode cX3_init 8 = .ok (.dup, 1) := by decide +kernel
theorem dX3_init_9 : decode cX3_init 9 = .ok (.invokespecial 11, 3) := by decide +kernel
theorem dX3_init_12 : decode cX3_init 12 = .ok (.putfield 12, 3) := by decide +kernel
theorem dX3_init_15 : decode cX3_init 15 = .ok (.aload_n 0, 1) := by decide +kernel
theorem dX3_init_16 : decode cX3_init 16 = .ok (.new 18, 3) := by decide +kernel
theorem dX3_init_19 : decode cX3_init 19 = .ok (.dup, 1) := by decide +kernel
theorem dX3_init_20 : decode cX3_init 20 = .ok (.invokespecial 20, 3) := by decide +kernel
theorem dX3_init_23 : decode cX3_init 23 = .ok (.putfield 21, 3) := by decide +kernel
theorem dX3_init_26 : decode cX3_init 26 = .ok (.aload_n 0, 1) := by decide +kernel
theorem dX3_init_27 : decode cX3_init 27 = .ok (.new 25, 3) := by decide +kernel
theorem dX3_init_30 : decode cX3_init 30 = .ok (.dup, 1) := by decide +kernel
theorem dX3_init_31 : decode cX3_init 31 = .ok (.invokespecial 27, 3) := by decide +kernel
theorem dX3_init_34 : decode cX3_init 34 = .ok (.putfield 28, 3) := by decide +kernel
theorem dX3_init_37 : decode cX3_init 37 = .ok (.aload_n 0, 1) := by decide +kernel
theorem dX3_init_38 : decode cX3_init 38 = .ok (.bipush 16, 2) := by decide +kernel
theorem dX3_init_40 : decode cX3_init 40 = .ok (.newarray .int, 2) := by decide +kernel
theorem dX3_init_42 : decode cX3_init 42 = .ok (.putfield 32, 3) := by decide +kernel
theorem dX3_init_45 : decode cX3_init 45 = .ok (.return_, 1) := by decide +kernel
set_option maxRecDepth 100000 in
set_option maxHeartbeats 4000000 in
theorem c_X3_init (l : Launch) (G : GG) (h0 sz : Nat) : Met l yX3_init (.code yX3_init cX3_init 1 none :: gtbl) ({ frames := 2, cells := 13, slots := 1974, locals := 32 } : Room) (PcN G [.ref h0] [(h0, .inr (3, [.null, .null, .null, .null, .int 0, .int 0, .int 0, .int 0, .int 0, .int 0, .int 0, .int 0, .int 0, .int 0, .int 0]))] sz) (QvN G (va_A [(h0, .inr (3, [.null, .null, .null, .null, .int 0, .int 0, .int 0, .int 0, .int 0, .int 0, .int 0, .int 0, .int 0, .int 0, .int 0]))] sz) (wN_X3 G h0)) 13 1974 (va_A [(h0, .inr (3, [.null, .null, .null, .null, .int 0, .int 0, .int 0, .int 0, .int 0, .int 0, .int 0, .int 0, .int 0, .int 0, .int 0]))] sz) := by
  refine met_startN (by decide) (Nat.le_of_ble_eq_true rfl) ?_
  intro p e s m below meth c F hr hlk hin hK hP hD hA hS hX hO ls hl
  obtain ⟨hx, hb, hml, hown, ht0⟩ := F
  generalize va_A [(h0, .inr (3, [.null, .null, .null, .null, .int 0, .int 0, .int 0, .int 0, .int 0, .int 0, .int 0, .int 0, .int 0, .int 0, .int 0]))] sz = A at hD hA hS hX ⊢
  have hl : lv_has ls 1 [(0, .ref h0)] := hl
  refine lv_aload_n hx hb dX3_init_0 rfl (lv_at hl 0 rfl) ?_
  refine W.objInit hx hb hown (ht0 _ wd_160) (ht0 _ wd_153) (ht0 _ wd_154) rfl (by rw [hml]; exact hl.1) rfl dX3_init_1 (Nat.le_of_ble_eq_true rfl) (Nat.le_of_ble_eq_true rfl) ?_
  refine W.eq (g2 := F0 m 4 ls []) rfl ?_
  refine lv_aload_n hx hb dX3_init_4 rfl (lv_at hl 0 rfl) ?_
  refine va_new (ci := 7) (fs := [.null, .int 0]) (C := RX7) (T := TX7) (N := 2) hx hb ht0 iX7 tyX7 tyX7_ok hown (ht0 _ wd_161) (ht0 _ wd_162) (ht0 _ wd_129) hK hP hD hS hA rfl (fun j hj => by rcases (show j = 0 ∨ j = 1 by omega) with rfl | rfl <;> rfl) (Nat.le_of_ble_eq_true rfl) (Nat.le_of_ble_eq_true rfl) dX3_init_5 (fun q5 H hP hD hS => ?_)
  refine W.widen (k := 1) (n := 2) (by decide) (by decide) ?_
  have hP : va_P G.1 vwCl ([(h0, .inr (3, [.null, .null, .null, .null, .int 0, .int 0, .int 0, .int 0, .int 0, .int 0, .int 0, .int 0, .int 0, .int 0, .int 0]))] ++ [(q5, .inr (7, [.null, .int 0]))]) H := hP
  have hD : va_D A ([(h0, .inr (3, [.null, .null, .null, .null, .int 0, .int 0, .int 0, .int 0, .int 0, .int 0, .int 0, .int 0, .int 0, .int 0, .int 0]))] ++ [(q5, .inr (7, [.null, .int 0]))]) := hD
  refine lv_dup hx hb dX3_init_8 rfl ?_
  refine cl_N (rest := [.ref q5, .ref h0]) ⟨hx, hb, hml, hown, ht0⟩ (c_X7_init l G q5 H.size) ykN_X7_init (List.mem_of_getElem? (i := 1) rfl) ⟨rfl, rfl, Nat.le_of_ble_eq_true rfl, Nat.le_of_ble_eq_true rfl⟩ ⟨Nat.le_of_ble_eq_true rfl, Nat.le_of_ble_eq_true rfl⟩ hX hO hK hP hD hS hA hl.1 (Nat.le_of_ble_eq_true rfl) dX3_init_9 (fun u9 H locs hP hD hS => ?_)
  refine W.widen (k := 2) (n := 602) (by decide) (by decide) ?_
  have hP : va_P G.1 vwCl ([(h0, .inr (3, [.null, .null, .null, .null, .int 0, .int 0, .int 0, .int 0, .int 0, .int 0, .int 0, .int 0, .int 0, .int 0, .int 0]))] ++ wN_X7 G q5 u9) H := hP
  have hD : va_D A ([(h0, .inr (3, [.null, .null, .null, .null, .int 0, .int 0, .int 0, .int 0, .int 0, .int 0, .int 0, .int 0, .int 0, .int 0, .int 0]))] ++ wN_X7 G q5 u9) := hD
  refine va_putF (ci := 3) (v := .ref q5) (ty := .object "OddColumns$Tape") (C := RX3) (T := TX3) (N := 15) hx hb ht0 iX3 tyX3 tyX3_ok nmX3 hown hK hP hD hS 0 rfl rfl 0 (by decide) (ht0 _ wd_247) (fun _ h9 => h9) rfl hin rfl rfl rfl rfl (Nat.le_of_ble_eq_true rfl) dX3_init_12 (fun H locs hP hD hS => ?_)
  have hP : va_P G.1 vwCl ([(h0, .inr (3, [.ref q5, .null, .null, .null, .int 0, .int 0, .int 0, .int 0, .int 0, .int 0, .int 0, .int 0, .int 0, .int 0, .int 0]))] ++ wN_X7 G q5 u9) H := hP
  have hD : va_D A ([(h0, .inr (3, [.ref q5, .null, .null, .null, .int 0, .int 0, .int 0, .int 0, .int 0, .int 0, .int 0, .int 0, .int 0, .int 0, .int 0]))] ++ wN_X7 G q5 u9) := hD
  refine lv_aload_n hx hb dX3_init_15 rfl (lv_at hl 0 rfl) ?_
  refine va_new (ci := 0) (fs := [.null, .int 0, .null, .null, .null, .null]) (C := RX0) (T := TX0) (N := 6) hx hb ht0 iX0 tyX0 tyX0_ok hown (ht0 _ wd_177) (ht0 _ wd_178) (ht0 _ wd_130) hK hP hD hS hA rfl (fun j hj => by rcases (show j = 0 ∨ j = 1 ∨ j = 2 ∨ j = 3 ∨ j = 4 ∨ j = 5 by omega) with rfl | rfl | rfl | rfl | rfl | rfl <;> rfl) (Nat.le_of_ble_eq_true rfl) (Nat.le_of_ble_eq_true rfl) dX3_init_16 (fun q16 H hP hD hS => ?_)
  refine W.widen (k := 3) (n := 608) (by decide) (by decide) ?_
  have hP : va_P G.1 vwCl ([(h0, .inr (3, [.ref q5, .null, .null, .null, .int 0, .int 0, .int 0, .int 0, .int 0, .int 0, .int 0, .int 0, .int 0, .int 0, .int 0]))] ++ wN_X7 G q5 u9 ++ [(q16, .inr (0, [.null, .int 0, .null, .null, .null, .null]))]) H := hP
  have hD : va_D A ([(h0, .inr (3, [.ref q5, .null, .null, .null, .int 0, .int 0, .int 0, .int 0, .int 0, .int 0, .int 0, .int 0, .int 0, .int 0, .int 0]))] ++ wN_X7 G q5 u9 ++ [(q16, .inr (0, [.null, .int 0, .null, .null, .null, .null]))]) := hD
  refine lv_dup hx hb dX3_init_19 rfl ?_
  refine cl_N (rest := [.ref q16, .ref h0]) ⟨hx, hb, hml, hown, ht0⟩ (c_X0_init l G q16 H.size) ykN_X0_init (List.mem_of_getElem? (i := 2) rfl) ⟨rfl, rfl, Nat.le_of_ble_eq_true rfl, Nat.le_of_ble_eq_true rfl⟩ ⟨Nat.le_of_ble_eq_true rfl, Nat.le_of_ble_eq_true rfl⟩ hX hO hK hP hD hS hA hl.1 (Nat.le_of_ble_eq_true rfl) dX3_init_20 (fun u20 H locs hP hD hS => ?_)
  refine W.widen (k := 8) (n := 1408) (by decide) (by decide) ?_
  have hP : va_P G.1 vwCl ([(h0, .inr (3, [.ref q5, .null, .null, .null, .int 0, .int 0, .int 0, .int 0, .int 0, .int 0, .int 0, .int 0, .int 0, .int 0, .int 0]))] ++ wN_X7 G q5 u9 ++ wN_X0 G q16 u20) H := hP
  have hD : va_D A ([(h0, .inr (3, [.ref q5, .null, .null, .null, .int 0, .int 0, .int 0, .int 0, .int 0, .int 0, .int 0, .int 0, .int 0, .int 0, .int 0]))] ++ wN_X7 G q5 u9 ++ wN_X0 G q16 u20) := hD
  refine va_putF (ci := 3) (v := .ref q16) (ty := .object "OddColumns$Chooser") (C := RX3) (T := TX3) (N := 15) hx hb ht0 iX3 tyX3 tyX3_ok nmX3 hown hK hP hD hS 0 rfl rfl 1 (by decide) (ht0 _ wd_249) (fun _ h9 => h9) rfl hin rfl rfl rfl rfl (Nat.le_of_ble_eq_true rfl) dX3_init_23 (fun H locs hP hD hS => ?_)
  have hP : va_P G.1 vwCl ([(h0, .inr (3, [.ref q5, .ref q16, .null, .null, .int 0, .int 0, .int 0, .int 0, .int 0, .int 0, .int 0, .int 0, .int 0, .int 0, .int 0]))] ++ wN_X7 G q5 u9 ++ wN_X0 G q16 u20) H := hP
  have hD : va_D A ([(h0, .inr (3, [.ref q5, .ref q16, .null, .null, .int 0, .int 0, .int 0, .int 0, .int 0, .int 0, .int 0, .int 0, .int 0, .int 0, .int 0]))] ++ wN_X7 G q5 u9 ++ wN_X0 G q16 u20) := hD
  refine lv_aload_n hx hb dX3_init_26 rfl (lv_at hl 0 rfl) ?_
  refine va_new (ci := 1) (fs := [.int 0, .int 0, .int 0, .null, .null, .null]) (C := RX1) (T := TX1) (N := 6) hx hb ht0 iX1 tyX1 tyX1_ok hown (ht0 _ wd_203) (ht0 _ wd_204) (ht0 _ wd_131) hK hP hD hS hA rfl (fun j hj => by rcases (show j = 0 ∨ j = 1 ∨ j = 2 ∨ j = 3 ∨ j = 4 ∨ j = 5 by omega) with rfl | rfl | rfl | rfl | rfl | rfl <;> rfl) (Nat.le_of_ble_eq_true rfl) (Nat.le_of_ble_eq_true rfl) dX3_init_27 (fun q27 H hP hD hS => ?_)
  refine W.widen (k := 9) (n := 1414) (by decide) (by decide) ?_
  have hP : va_P G.1 vwCl ([(h0, .inr (3, [.ref q5, .ref q16, .null, .null, .int 0, .int 0, .int 0, .int 0, .int 0, .int 0, .int 0, .int 0, .int 0, .int 0, .int 0]))] ++ wN_X7 G q5 u9 ++ wN_X0 G q16 u20 ++ [(q27, .inr (1, [.int 0, .int 0, .int 0, .null, .null, .null]))]) H := hP
  have hD : va_D A ([(h0, .inr (3, [.ref q5, .ref q16, .null, .null, .int 0, .int 0, .int 0, .int 0, .int 0, .int 0, .int 0, .int 0, .int 0, .int 0, .int 0]))] ++ wN_X7 G q5 u9 ++ wN_X0 G q16 u20 ++ [(q27, .inr (1, [.int 0, .int 0, .int 0, .null, .null, .null]))]) := hD
  refine lv_dup hx hb dX3_init_30 rfl ?_
  refine cl_N (rest := [.ref q27, .ref h0]) ⟨hx, hb, hml, hown, ht0⟩ (c_X1_init l G q27 H.size) ykN_X1_init (List.mem_of_getElem? (i := 3) rfl) ⟨rfl, rfl, Nat.le_of_ble_eq_true rfl, Nat.le_of_ble_eq_true rfl⟩ ⟨Nat.le_of_ble_eq_true rfl, Nat.le_of_ble_eq_true rfl⟩ hX hO hK hP hD hS hA hl.1 (Nat.le_of_ble_eq_true rfl) dX3_init_31 (fun u31 H locs hP hD hS => ?_)
  refine W.widen (k := 12) (n := 1958) (by decide) (by decide) ?_
  have hP : va_P G.1 vwCl ([(h0, .inr (3, [.ref q5, .ref q16, .null, .null, .int 0, .int 0, .int 0, .int 0, .int 0, .int 0, .int 0, .int 0, .int 0, .int 0, .int 0]))] ++ wN_X7 G q5 u9 ++ wN_X0 G q16 u20 ++ wN_X1 G q27 u31) H := hP
  have hD : va_D A ([(h0, .inr (3, [.ref q5, .ref q16, .null, .null, .int 0, .int 0, .int 0, .int 0, .int 0, .int 0, .int 0, .int 0, .int 0, .int 0, .int 0]))] ++ wN_X7 G q5 u9 ++ wN_X0 G q16 u20 ++ wN_X1 G q27 u31) := hD
  refine va_putF (ci := 3) (v := .ref q27) (ty := .object "OddColumns$Code") (C := RX3) (T := TX3) (N := 15) hx hb ht0 iX3 tyX3 tyX3_ok nmX3 hown hK hP hD hS 0 rfl rfl 2 (by decide) (ht0 _ wd_251) (fun _ h9 => h9) rfl hin rfl rfl rfl rfl (Nat.le_of_ble_eq_true rfl) dX3_init_34 (fun H locs hP hD hS => ?_)
  have hP : va_P G.1 vwCl ([(h0, .inr (3, [.ref q5, .ref q16, .ref q27, .null, .int 0, .int 0, .int 0, .int 0, .int 0, .int 0, .int 0, .int 0, .int 0, .int 0, .int 0]))] ++ wN_X7 G q5 u9 ++ wN_X0 G q16 u20 ++ wN_X1 G q27 u31) H := hP
  have hD : va_D A ([(h0, .inr (3, [.ref q5, .ref q16, .ref q27, .null, .int 0, .int 0, .int 0, .int 0, .int 0, .int 0, .int 0, .int 0, .int 0, .int 0, .int 0]))] ++ wN_X7 G q5 u9 ++ wN_X0 G q16 u20 ++ wN_X1 G q27 u31) := hD
  refine lv_aload_n hx hb dX3_init_37 rfl (lv_at hl 0 rfl) ?_
  refine lv_bipush (v := (16 : Int32)) hx hb dX3_init_38 (by decide) ?_
  refine nw_I (n := (16 : Int32)) (N := 16) (rest := [.ref h0]) hx hb (ht0 _ wd_176) hK hP hD hS hA (by decide) (by decide) (by decide) (Nat.le_of_ble_eq_true rfl) (Nat.le_of_ble_eq_true rfl) dX3_init_40 (fun q40 H hP hD hS => ?_)
  refine W.widen (k := 13) (n := 1974) (by decide) (by decide) ?_
  have hP : va_P G.1 vwCl ([(h0, .inr (3, [.ref q5, .ref q16, .ref q27, .null, .int 0, .int 0, .int 0, .int 0, .int 0, .int 0, .int 0, .int 0, .int 0, .int 0, .int 0]))] ++ wN_X7 G q5 u9 ++ wN_X0 G q16 u20 ++ wN_X1 G q27 u31 ++ [(q40, .inl (G.2.1, 16, .inl (fun _ => 0)))]) H := hP
  have hD : va_D A ([(h0, .inr (3, [.ref q5, .ref q16, .ref q27, .null, .int 0, .int 0, .int 0, .int 0, .int 0, .int 0, .int 0, .int 0, .int 0, .int 0, .int 0]))] ++ wN_X7 G q5 u9 ++ wN_X0 G q16 u20 ++ wN_X1 G q27 u31 ++ [(q40, .inl (G.2.1, 16, .inl (fun _ => 0)))]) := hD
  refine va_putF (ci := 3) (v := .ref q40) (ty := (.array .int)) (C := RX3) (T := TX3) (N := 15) hx hb ht0 iX3 tyX3 tyX3_ok nmX3 hown hK hP hD hS 0 rfl rfl 3 (by decide) (ht0 _ wd_253) (fun _ h9 => h9) rfl hin rfl rfl rfl rfl (Nat.le_of_ble_eq_true rfl) dX3_init_42 (fun H locs hP hD hS => ?_)
  have hP : va_P G.1 vwCl ([(h0, .inr (3, [.ref q5, .ref q16, .ref q27, .ref q40, .int 0, .int 0, .int 0, .int 0, .int 0, .int 0, .int 0, .int 0, .int 0, .int 0, .int 0]))] ++ wN_X7 G q5 u9 ++ wN_X0 G q16 u20 ++ wN_X1 G q27 u31 ++ [(q40, .inl (G.2.1, 16, .inl (fun _ => 0)))]) H := hP
  have hD : va_D A ([(h0, .inr (3, [.ref q5, .ref q16, .ref q27, .ref q40, .int 0, .int 0, .int 0, .int 0, .int 0, .int 0, .int 0, .int 0, .int 0, .int 0, .int 0]))] ++ wN_X7 G q5 u9 ++ wN_X0 G q16 u20 ++ wN_X1 G q27 u31 ++ [(q40, .inl (G.2.1, 16, .inl (fun _ => 0)))]) := hD
  exact ret_vN (w1 := wN_X3 G h0) ((q5, u9, q16, u20, q27, u31, q40) : tX3) hx hb hr hlk hK hP hD hS dX3_init_45
abbrev tX4 : Type := Nat × Nat × Nat × tX1 × Nat × tX2
def wN_X4 (G : GG) (h0 : Nat) (u : tX4) : va_W := ([(h0, .inr (4, [.ref u.1, .ref u.2.1, .ref u.2.2.1, .ref u.2.2.2.2.1, .int (-1 : Int32), .int (-1 : Int32), .int (-1 : Int32)]))] ++ [(u.1, .inl (G.2.1, 256, .inl (fun _ => 0)))] ++ [(u.2.1, .inl (G.2.1, 256, .inl (fun _ => 0)))] ++ wN_X1 G u.2.2.1 u.2.2.2.1 ++ wN_X2 G u.2.2.2.2.1 u.2.2.2.2.2)
theorem ykN_X4_init : ykN yX4_init cX4_init 1 := ⟨wd_388, wd_136, wd_389, ⟨by decide, by decide, by decide +kernel⟩, rfl⟩
theorem dX4_init_0 : decode cX4_init 0 = .ok (.aload_n 0, 1) := by decide +kernel
theorem dX4_init_1 : decode cX4_init 1 = .ok (.invokespecial 3, 3) := by decide +kernel
theorem dX4_init_4 : decode cX4_init 4 = .ok (.aload_n 0, 1) := by decide +kernel
theorem dX4_init_5 : decode cX4_init 5 = .ok (.sipush 256, 3) := by decide +kernel
theorem dX4_init_8 : decode cX4_init 8 = .ok (.newarray .int, 2) := by decide +kernel
theorem dX4_init_10 : decode cX4_init 10 = .ok (.putfield 9, 3) := by decide +kernel
theorem dX4_init_13 : decode cX4_init 13 = .ok (.aload_n 0, 1) := by decide +kernel
theorem dX4_init_14 : decode cX4_init 14 = .ok (.sipush 256, 3) := by decide +kernel
theorem dX4_init_17 : decode cX4_init 17 = .ok (.newarray .int, 2) := by decide +kernel
theorem dX4_init_19 : decode cX4_init 19 = .ok (.putfield 15, 3) := by decide +kernel
theorem dX4_init_22 : decode cX4_init 22 = .ok (.aload_n 0, 1) := by decide +kernel
theorem dX4_init_23 : decode cX4_init 23 = .ok (.new 18, 3) := by decide +kernel
theorem dX4_init_26 : decode cX4_init 26 = .ok (.dup, 1) := by decide +kernel
theorem dX4_init_27 : decode cX4_init 27 = .ok (.invokespecial 20, 3) := by decide +kernel
theorem dX4_init_30 : decode cX4_init 30 = .ok (.putfield 21, 3) := by decide +kernel
theorem dX4_init_33 : decode cX4_init 33 = .ok (.aload_n 0, 1) := by decide +kernel
theorem dX4_init_34 : decode cX4_init 34 = .ok (.new 25, 3) := by decide +kernel
theorem dX4_init_37 : decode cX4_init 37 = .ok (.dup, 1) := by decide +kernel
theorem dX4_init_38 : decode cX4_init 38 = .ok (.invokespecial 27, 3) := by decide +kernel
theorem dX4_init_41 : decode cX4_init 41 = .ok (.putfield 28, 3) := by decide +kernel
theorem dX4_init_44 : decode cX4_init 44 = .ok (.aload_n 0, 1) := by decide +kernel
theorem dX4_init_45 : decode cX4_init 45 = .ok (.iconst (-1), 1) := by decide +kernel
theorem dX4_init_46 : decode cX4_init 46 = .ok (.putfield 32, 3) := by decide +kernel
theorem dX4_init_49 : decode cX4_init 49 = .ok (.aload_n 0, 1) := by decide +kernel
theorem dX4_init_50 : decode cX4_init 50 = .ok (.iconst (-1), 1) := by decide +kernel
theorem dX4_init_51 : decode cX4_init 51 = .ok (.putfield 36, 3) := by decide +kernel
theorem dX4_init_54 : decode cX4_init 54 = .ok (.aload_n 0, 1) := by decide +kernel
theorem dX4_init_55 : decode cX4_init 55 = .ok (.iconst (-1), 1) := by decide +kernel
theorem dX4_init_56 : decode cX4_init 56 = .ok (.putfield 39, 3) := by decide +kernel
theorem dX4_init_59 : decode cX4_init 59 = .ok (.return_, 1) := by decide +kernel
set_option maxRecDepth 100000 in
set_option maxHeartbeats 4000000 in
theorem c_X4_init (l : Launch) (G : GG) (h0 sz : Nat) : Met l yX4_init (.code yX4_init cX4_init 1 none :: gtbl) ({ frames := 2, cells := 7, slots := 1065, locals := 32 } : Room) (PcN G [.ref h0] [(h0, .inr (4, [.null, .null, .null, .null, .int 0, .int 0, .int 0]))] sz) (QvN G (va_A [(h0, .inr (4, [.null, .null, .null, .null, .int 0, .int 0, .int 0]))] sz) (wN_X4 G h0)) 7 1065 (va_A [(h0, .inr (4, [.null, .null, .null, .null, .int 0, .int 0, .int 0]))] sz) := by
  refine met_startN (by decide) (Nat.le_of_ble_eq_true rfl) ?_
  intro p e s m below meth c F hr hlk hin hK hP hD hA hS hX hO ls hl
  obtain ⟨hx, hb, hml, hown, ht0⟩ := F
  generalize va_A [(h0, .inr (4, [.null, .null, .null, .null, .int 0, .int 0, .int 0]))] sz = A at hD hA hS hX ⊢
  have hl : lv_has ls 1 [(0, .ref h0)] := hl
  refine lv_aload_n hx hb dX4_init_0 rfl (lv_at hl 0 rfl) ?_
  refine W.objInit hx hb hown (ht0 _ wd_390) (ht0 _ wd_153) (ht0 _ wd_154) rfl (by rw [hml]; exact hl.1) rfl dX4_init_1 (Nat.le_of_ble_eq_true rfl) (Nat.le_of_ble_eq_true rfl) ?_
  refine W.eq (g2 := F0 m 4 ls []) rfl ?_
  refine lv_aload_n hx hb dX4_init_4 rfl (lv_at hl 0 rfl) ?_
  refine lv_sipush (v := (256 : Int32)) hx hb dX4_init_5 (by decide) ?_
  refine nw_I (n := (256 : Int32)) (N := 256) (rest := [.ref h0]) hx hb (ht0 _ wd_176) hK hP hD hS hA (by decide) (by decide) (by decide) (Nat.le_of_ble_eq_true rfl) (Nat.le_of_ble_eq_true rfl) dX4_init_8 (fun q8 H hP hD hS => ?_)
  refine W.widen (k := 1) (n := 256) (by decide) (by decide) ?_
  have hP : va_P G.1 vwCl ([(h0, .inr (4, [.null, .null, .null, .null, .int 0, .int 0, .int 0]))] ++ [(q8, .inl (G.2.1, 256, .inl (fun _ => 0)))]) H := hP
  have hD : va_D A ([(h0, .inr (4, [.null, .null, .null, .null, .int 0, .int 0, .int 0]))] ++ [(q8, .inl (G.2.1, 256, .inl (fun _ => 0)))]) := hD
  refine va_putF (ci := 4) (v := .ref q8) (ty := (.array .int)) (C := RX4) (T := TX4) (N := 7) hx hb ht0 iX4 tyX4 tyX4_ok nmX4 hown hK hP hD hS 0 rfl rfl 0 (by decide) (ht0 _ wd_395) (fun _ h9 => h9) rfl hin rfl rfl rfl rfl (Nat.le_of_ble_eq_true rfl) dX4_init_10 (fun H locs hP hD hS => ?_)
  have hP : va_P G.1 vwCl ([(h0, .inr (4, [.ref q8, .null, .null, .null, .int 0, .int 0, .int 0]))] ++ [(q8, .inl (G.2.1, 256, .inl (fun _ => 0)))]) H := hP
  have hD : va_D A ([(h0, .inr (4, [.ref q8, .null, .null, .null, .int 0, .int 0, .int 0]))] ++ [(q8, .inl (G.2.1, 256, .inl (fun _ => 0)))]) := hD
  refine lv_aload_n hx hb dX4_init_13 rfl (lv_at hl 0 rfl) ?_
  refine lv_sipush (v := (256 : Int32)) hx hb dX4_init_14 (by decide) ?_
  refine nw_I (n := (256 : Int32)) (N := 256) (rest := [.ref h0]) hx hb (ht0 _ wd_176) hK hP hD hS hA (by decide) (by decide) (by decide) (Nat.le_of_ble_eq_true rfl) (Nat.le_of_ble_eq_true rfl) dX4_init_17 (fun q17 H hP hD hS => ?_)
  refine W.widen (k := 2) (n := 512) (by decide) (by decide) ?_
  have hP : va_P G.1 vwCl ([(h0, .inr (4, [.ref q8, .null, .null, .null, .int 0, .int 0, .int 0]))] ++ [(q8, .inl (G.2.1, 256, .inl (fun _ => 0)))] ++ [(q17, .inl (G.2.1, 256, .inl (fun _ => 0)))]) H := hP
  have hD : va_D A ([(h0, .inr (4, [.ref q8, .null, .null, .null, .int 0, .int 0, .int 0]))] ++ [(q8, .inl (G.2.1, 256, .inl (fun _ => 0)))] ++ [(q17, .inl (G.2.1, 256, .inl (fun _ => 0)))]) := hD
  refine va_putF (ci := 4) (v := .ref q17) (ty := (.array .int)) (C := RX4) (T := TX4) (N := 7) hx hb ht0 iX4 tyX4 tyX4_ok nmX4 hown hK hP hD hS 0 rfl rfl 1 (by decide) (ht0 _ wd_396) (fun _ h9 => h9) rfl hin rfl rfl rfl rfl (Nat.le_of_ble_eq_true rfl) dX4_init_19 (fun H locs hP hD hS => ?_)
  have hP : va_P G.1 vwCl ([(h0, .inr (4, [.ref q8, .ref q17, .null, .null, .int 0, .int 0, .int 0]))] ++ [(q8, .inl (G.2.1, 256, .inl (fun _ => 0)))] ++ [(q17, .inl (G.2.1, 256, .inl (fun _ => 0)))]) H := hP
  have hD : va_D A ([(h0, .inr (4, [.ref q8, .ref q17, .null, .null, .int 0, .int 0, .int 0]))] ++ [(q8, .inl (G.2.1, 256, .inl (fun _ => 0)))] ++ [(q17, .inl (G.2.1, 256, .inl (fun _ => 0)))]) := hD
  refine lv_aload_n hx hb dX4_init_22 rfl (lv_at hl 0 rfl) ?_
  refine va_new (ci := 1) (fs := [.int 0, .int 0, .int 0, .null, .null, .null]) (C := RX1) (T := TX1) (N := 6) hx hb ht0 iX1 tyX1 tyX1_ok hown (ht0 _ wd_391) (ht0 _ wd_204) (ht0 _ wd_131) hK hP hD hS hA rfl (fun j hj => by rcases (show j = 0 ∨ j = 1 ∨ j = 2 ∨ j = 3 ∨ j = 4 ∨ j = 5 by omega) with rfl | rfl | rfl | rfl | rfl | rfl <;> rfl) (Nat.le_of_ble_eq_true rfl) (Nat.le_of_ble_eq_true rfl) dX4_init_23 (fun q23 H hP hD hS => ?_)
  refine W.widen (k := 3) (n := 518) (by decide) (by decide) ?_
  have hP : va_P G.1 vwCl ([(h0, .inr (4, [.ref q8, .ref q17, .null, .null, .int 0, .int 0, .int 0]))] ++ [(q8, .inl (G.2.1, 256, .inl (fun _ => 0)))] ++ [(q17, .inl (G.2.1, 256, .inl (fun _ => 0)))] ++ [(q23, .inr (1, [.int 0, .int 0, .int 0, .null, .null, .null]))]) H := hP
  have hD : va_D A ([(h0, .inr (4, [.ref q8, .ref q17, .null, .null, .int 0, .int 0, .int 0]))] ++ [(q8, .inl (G.2.1, 256, .inl (fun _ => 0)))] ++ [(q17, .inl (G.2.1, 256, .inl (fun _ => 0)))] ++ [(q23, .inr (1, [.int 0, .int 0, .int 0, .null, .null, .null]))]) := hD
  refine lv_dup hx hb dX4_init_26 rfl ?_
  refine cl_N (rest := [.ref q23, .ref h0]) ⟨hx, hb, hml, hown, ht0⟩ (c_X1_init l G q23 H.size) ykN_X1_init (List.mem_of_getElem? (i := 10) rfl) ⟨rfl, rfl, Nat.le_of_ble_eq_true rfl, Nat.le_of_ble_eq_true rfl⟩ ⟨Nat.le_of_ble_eq_true rfl, Nat.le_of_ble_eq_true rfl⟩ hX hO hK hP hD hS hA hl.1 (Nat.le_of_ble_eq_true rfl) dX4_init_27 (fun u27 H locs hP hD hS => ?_)
  refine W.widen (k := 6) (n := 1062) (by decide) (by decide) ?_
  have hP : va_P G.1 vwCl ([(h0, .inr (4, [.ref q8, .ref q17, .null, .null, .int 0, .int 0, .int 0]))] ++ [(q8, .inl (G.2.1, 256, .inl (fun _ => 0)))] ++ [(q17, .inl (G.2.1, 256, .inl (fun _ => 0)))] ++ wN_X1 G q23 u27) H := hP
  have hD : va_D A ([(h0, .inr (4, [.ref q8, .ref q17, .null, .null, .int 0, .int 0, .int 0]))] ++ [(q8, .inl (G.2.1, 256, .inl (fun _ => 0)))] ++ [(q17, .inl (G.2.1, 256, .inl (fun _ => 0)))] ++ wN_X1 G q23 u27) := hD
  refine va_putF (ci := 4) (v := .ref q23) (ty := .object "OddColumns$Code") (C := RX4) (T := TX4) (N := 7) hx hb ht0 iX4 tyX4 tyX4_ok nmX4 hown hK hP hD hS 0 rfl rfl 2 (by decide) (ht0 _ wd_397) (fun _ h9 => h9) rfl hin rfl rfl rfl rfl (Nat.le_of_ble_eq_true rfl) dX4_init_30 (fun H locs hP hD hS => ?_)
  have hP : va_P G.1 vwCl ([(h0, .inr (4, [.ref q8, .ref q17, .ref q23, .null, .int 0, .int 0, .int 0]))] ++ [(q8, .inl (G.2.1, 256, .inl (fun _ => 0)))] ++ [(q17, .inl (G.2.1, 256, .inl (fun _ => 0)))] ++ wN_X1 G q23 u27) H := hP
  have hD : va_D A ([(h0, .inr (4, [.ref q8, .ref q17, .ref q23, .null, .int 0, .int 0, .int 0]))] ++ [(q8, .inl (G.2.1, 256, .inl (fun _ => 0)))] ++ [(q17, .inl (G.2.1, 256, .inl (fun _ => 0)))] ++ wN_X1 G q23 u27) := hD
  refine lv_aload_n hx hb dX4_init_33 rfl (lv_at hl 0 rfl) ?_
  refine va_new (ci := 2) (fs := [.int 0, .int 0, .int 0]) (C := RX2) (T := TX2) (N := 3) hx hb ht0 iX2 tyX2 tyX2_ok hown (ht0 _ wd_393) (ht0 _ wd_365) (ht0 _ wd_135) hK hP hD hS hA rfl (fun j hj => by rcases (show j = 0 ∨ j = 1 ∨ j = 2 by omega) with rfl | rfl | rfl <;> rfl) (Nat.le_of_ble_eq_true rfl) (Nat.le_of_ble_eq_true rfl) dX4_init_34 (fun q34 H hP hD hS => ?_)
  refine W.widen (k := 7) (n := 1065) (by decide) (by decide) ?_
  have hP : va_P G.1 vwCl ([(h0, .inr (4, [.ref q8, .ref q17, .ref q23, .null, .int 0, .int 0, .int 0]))] ++ [(q8, .inl (G.2.1, 256, .inl (fun _ => 0)))] ++ [(q17, .inl (G.2.1, 256, .inl (fun _ => 0)))] ++ wN_X1 G q23 u27 ++ [(q34, .inr (2, [.int 0, .int 0, .int 0]))]) H := hP
  have hD : va_D A ([(h0, .inr (4, [.ref q8, .ref q17, .ref q23, .null, .int 0, .int 0, .int 0]))] ++ [(q8, .inl (G.2.1, 256, .inl (fun _ => 0)))] ++ [(q17, .inl (G.2.1, 256, .inl (fun _ => 0)))] ++ wN_X1 G q23 u27 ++ [(q34, .inr (2, [.int 0, .int 0, .int 0]))]) := hD
  refine lv_dup hx hb dX4_init_37 rfl ?_
  refine cl_N (rest := [.ref q34, .ref h0]) ⟨hx, hb, hml, hown, ht0⟩ (c_X2_init l G q34 H.size) ykN_X2_init (List.mem_of_getElem? (i := 11) rfl) ⟨rfl, rfl, Nat.le_of_ble_eq_true rfl, Nat.le_of_ble_eq_true rfl⟩ ⟨Nat.le_of_ble_eq_true rfl, Nat.le_of_ble_eq_true rfl⟩ hX hO hK hP hD hS hA hl.1 (Nat.le_of_ble_eq_true rfl) dX4_init_38 (fun u38 H locs hP hD hS => ?_)
  refine W.widen (k := 7) (n := 1065) (by decide) (by decide) ?_
  have hP : va_P G.1 vwCl ([(h0, .inr (4, [.ref q8, .ref q17, .ref q23, .null, .int 0, .int 0, .int 0]))] ++ [(q8, .inl (G.2.1, 256, .inl (fun _ => 0)))] ++ [(q17, .inl (G.2.1, 256, .inl (fun _ => 0)))] ++ wN_X1 G q23 u27 ++ wN_X2 G q34 u38) H := hP
  have hD : va_D A ([(h0, .inr (4, [.ref q8, .ref q17, .ref q23, .null, .int 0, .int 0, .int 0]))] ++ [(q8, .inl (G.2.1, 256, .inl (fun _ => 0)))] ++ [(q17, .inl (G.2.1, 256, .inl (fun _ => 0)))] ++ wN_X1 G q23 u27 ++ wN_X2 G q34 u38) := hD
  refine va_putF (ci := 4) (v := .ref q34) (ty := .object "OddColumns$Reading") (C := RX4) (T := TX4) (N := 7) hx hb ht0 iX4 tyX4 tyX4_ok nmX4 hown hK hP hD hS 0 rfl rfl 3 (by decide) (ht0 _ wd_398) (fun _ h9 => h9) rfl hin rfl rfl rfl rfl (Nat.le_of_ble_eq_true rfl) dX4_init_41 (fun H locs hP hD hS => ?_)
  have hP : va_P G.1 vwCl ([(h0, .inr (4, [.ref q8, .ref q17, .ref q23, .ref q34, .int 0, .int 0, .int 0]))] ++ [(q8, .inl (G.2.1, 256, .inl (fun _ => 0)))] ++ [(q17, .inl (G.2.1, 256, .inl (fun _ => 0)))] ++ wN_X1 G q23 u27 ++ wN_X2 G q34 u38) H := hP
  have hD : va_D A ([(h0, .inr (4, [.ref q8, .ref q17, .ref q23, .ref q34, .int 0, .int 0, .int 0]))] ++ [(q8, .inl (G.2.1, 256, .inl (fun _ => 0)))] ++ [(q17, .inl (G.2.1, 256, .inl (fun _ => 0)))] ++ wN_X1 G q23 u27 ++ wN_X2 G q34 u38) := hD
  refine lv_aload_n hx hb dX4_init_44 rfl (lv_at hl 0 rfl) ?_
  refine lv_iconst (v := (-1 : Int32)) hx hb dX4_init_45 (by decide) ?_
  refine va_put (ci := 4) (v := .int (-1 : Int32)) (ty := .int) (C := RX4) (T := TX4) (N := 7) hx hb ht0 iX4 tyX4 tyX4_ok nmX4 hown hK hP hD hS 0 rfl rfl 4 (by decide) (ht0 _ wd_399) (fun _ h9 => h9) rfl rfl rfl rfl (Nat.le_of_ble_eq_true rfl) dX4_init_46 (fun H locs hP hD hS => ?_)
  have hP : va_P G.1 vwCl ([(h0, .inr (4, [.ref q8, .ref q17, .ref q23, .ref q34, .int (-1 : Int32), .int 0, .int 0]))] ++ [(q8, .inl (G.2.1, 256, .inl (fun _ => 0)))] ++ [(q17, .inl (G.2.1, 256, .inl (fun _ => 0)))] ++ wN_X1 G q23 u27 ++ wN_X2 G q34 u38) H := hP
  have hD : va_D A ([(h0, .inr (4, [.ref q8, .ref q17, .ref q23, .ref q34, .int (-1 : Int32), .int 0, .int 0]))] ++ [(q8, .inl (G.2.1, 256, .inl (fun _ => 0)))] ++ [(q17, .inl (G.2.1, 256, .inl (fun _ => 0)))] ++ wN_X1 G q23 u27 ++ wN_X2 G q34 u38) := hD
  refine lv_aload_n hx hb dX4_init_49 rfl (lv_at hl 0 rfl) ?_
  refine lv_iconst (v := (-1 : Int32)) hx hb dX4_init_50 (by decide) ?_
  refine va_put (ci := 4) (v := .int (-1 : Int32)) (ty := .int) (C := RX4) (T := TX4) (N := 7) hx hb ht0 iX4 tyX4 tyX4_ok nmX4 hown hK hP hD hS 0 rfl rfl 5 (by decide) (ht0 _ wd_401) (fun _ h9 => h9) rfl rfl rfl rfl (Nat.le_of_ble_eq_true rfl) dX4_init_51 (fun H locs hP hD hS => ?_)
  have hP : va_P G.1 vwCl ([(h0, .inr (4, [.ref q8, .ref q17, .ref q23, .ref q34, .int (-1 : Int32), .int (-1 : Int32), .int 0]))] ++ [(q8, .inl (G.2.1, 256, .inl (fun _ => 0)))] ++ [(q17, .inl (G.2.1, 256, .inl (fun _ => 0)))] ++ wN_X1 G q23 u27 ++ wN_X2 G q34 u38) H := hP
  have hD : va_D A ([(h0, .inr (4, [.ref q8, .ref q17, .ref q23, .ref q34, .int (-1 : Int32), .int (-1 : Int32), .int 0]))] ++ [(q8, .inl (G.2.1, 256, .inl (fun _ => 0)))] ++ [(q17, .inl (G.2.1, 256, .inl (fun _ => 0)))] ++ wN_X1 G q23 u27 ++ wN_X2 G q34 u38) := hD
  refine lv_aload_n hx hb dX4_init_54 rfl (lv_at hl 0 rfl) ?_
  refine lv_iconst (v := (-1 : Int32)) hx hb dX4_init_55 (by decide) ?_
  refine va_put (ci := 4) (v := .int (-1 : Int32)) (ty := .int) (C := RX4) (T := TX4) (N := 7) hx hb ht0 iX4 tyX4 tyX4_ok nmX4 hown hK hP hD hS 0 rfl rfl 6 (by decide) (ht0 _ wd_403) (fun _ h9 => h9) rfl rfl rfl rfl (Nat.le_of_ble_eq_true rfl) dX4_init_56 (fun H locs hP hD hS => ?_)
  have hP : va_P G.1 vwCl ([(h0, .inr (4, [.ref q8, .ref q17, .ref q23, .ref q34, .int (-1 : Int32), .int (-1 : Int32), .int (-1 : Int32)]))] ++ [(q8, .inl (G.2.1, 256, .inl (fun _ => 0)))] ++ [(q17, .inl (G.2.1, 256, .inl (fun _ => 0)))] ++ wN_X1 G q23 u27 ++ wN_X2 G q34 u38) H := hP
  have hD : va_D A ([(h0, .inr (4, [.ref q8, .ref q17, .ref q23, .ref q34, .int (-1 : Int32), .int (-1 : Int32), .int (-1 : Int32)]))] ++ [(q8, .inl (G.2.1, 256, .inl (fun _ => 0)))] ++ [(q17, .inl (G.2.1, 256, .inl (fun _ => 0)))] ++ wN_X1 G q23 u27 ++ wN_X2 G q34 u38) := hD
  exact ret_vN (w1 := wN_X4 G h0) ((q8, q17, q23, u27, q34, u38) : tX4) hx hb hr hlk hK hP hD hS dX4_init_59
abbrev tX6 : Type := Nat × tX1 × Nat × tX9
def wN_X6 (G : GG) (h0 : Nat) (u : tX6) : va_W := ([(h0, .inr (6, [.ref u.1, .ref u.2.2.1]))] ++ wN_X1 G u.1 u.2.1 ++ wN_X9 G u.2.2.1 u.2.2.2)
theorem ykN_X6_init : ykN yX6_init cX6_init 1 := ⟨wd_309, wd_133, wd_310, ⟨by decide, by decide, by decide +kernel⟩, rfl⟩
theorem dX6_init_0 : decode cX6_init 0 = .ok (.aload_n 0, 1) := by decide +kernel
theorem dX6_init_1 : decode cX6_init 1 = .ok (.invokespecial 1, 3) := by decide +kernel
theorem dX6_init_4 : decode cX6_init 4 = .ok (.aload_n 0, 1) := by decide +kernel
theorem dX6_init_5 : decode cX6_init 5 = .ok (.new 7, 3) := by decide +kernel
theorem dX6_init_8 : decode cX6_init 8 = .ok (.dup, 1) := by decide +kernel
theorem dX6_init_9 : decode cX6_init 9 = .ok (.invokespecial 9, 3) := by decide +kernel
theorem dX6_init_12 : decode cX6_init 12 = .ok (.putfield 10, 3) := by decide +kernel
theorem dX6_init_15 : decode cX6_init 15 = .ok (.aload_n 0, 1) := by decide +kernel
theorem dX6_init_16 : decode cX6_init 16 = .ok (.new 16, 3) := by decide +kernel
theorem dX6_init_19 : decode cX6_init 19 = .ok (.dup, 1) := by decide +kernel
theorem dX6_init_20 : decode cX6_init 20 = .ok (.invokespecial 18, 3) := by decide +kernel
theorem dX6_init_23 : decode cX6_init 23 = .ok (.putfield 19, 3) := by decide +kernel
theorem dX6_init_26 : decode cX6_init 26 = .ok (.return_, 1) := by decide +kernel
set_option maxRecDepth 100000 in
set_option maxHeartbeats 4000000 in
theorem c_X6_init (l : Launch) (G : GG) (h0 sz : Nat) : Met l yX6_init (.code yX6_init cX6_init 1 none :: gtbl) ({ frames := 2, cells := 10, slots := 627, locals := 32 } : Room) (PcN G [.ref h0] [(h0, .inr (6, [.null, .null]))] sz) (QvN G (va_A [(h0, .inr (6, [.null, .null]))] sz) (wN_X6 G h0)) 10 627 (va_A [(h0, .inr (6, [.null, .null]))] sz) := by
  refine met_startN (by decide) (Nat.le_of_ble_eq_true rfl) ?_
  intro p e s m below meth c F hr hlk hin hK hP hD hA hS hX hO ls hl
  obtain ⟨hx, hb, hml, hown, ht0⟩ := F
  generalize va_A [(h0, .inr (6, [.null, .null]))] sz = A at hD hA hS hX ⊢
  have hl : lv_has ls 1 [(0, .ref h0)] := hl
  refine lv_aload_n hx hb dX6_init_0 rfl (lv_at hl 0 rfl) ?_
  refine W.objInit hx hb hown (ht0 _ wd_311) (ht0 _ wd_153) (ht0 _ wd_154) rfl (by rw [hml]; exact hl.1) rfl dX6_init_1 (Nat.le_of_ble_eq_true rfl) (Nat.le_of_ble_eq_true rfl) ?_
  refine W.eq (g2 := F0 m 4 ls []) rfl ?_
  refine lv_aload_n hx hb dX6_init_4 rfl (lv_at hl 0 rfl) ?_
  refine va_new (ci := 1) (fs := [.int 0, .int 0, .int 0, .null, .null, .null]) (C := RX1) (T := TX1) (N := 6) hx hb ht0 iX1 tyX1 tyX1_ok hown (ht0 _ wd_312) (ht0 _ wd_204) (ht0 _ wd_131) hK hP hD hS hA rfl (fun j hj => by rcases (show j = 0 ∨ j = 1 ∨ j = 2 ∨ j = 3 ∨ j = 4 ∨ j = 5 by omega) with rfl | rfl | rfl | rfl | rfl | rfl <;> rfl) (Nat.le_of_ble_eq_true rfl) (Nat.le_of_ble_eq_true rfl) dX6_init_5 (fun q5 H hP hD hS => ?_)
  refine W.widen (k := 1) (n := 6) (by decide) (by decide) ?_
  have hP : va_P G.1 vwCl ([(h0, .inr (6, [.null, .null]))] ++ [(q5, .inr (1, [.int 0, .int 0, .int 0, .null, .null, .null]))]) H := hP
  have hD : va_D A ([(h0, .inr (6, [.null, .null]))] ++ [(q5, .inr (1, [.int 0, .int 0, .int 0, .null, .null, .null]))]) := hD
  refine lv_dup hx hb dX6_init_8 rfl ?_
  refine cl_N (rest := [.ref q5, .ref h0]) ⟨hx, hb, hml, hown, ht0⟩ (c_X1_init l G q5 H.size) ykN_X1_init (List.mem_of_getElem? (i := 5) rfl) ⟨rfl, rfl, Nat.le_of_ble_eq_true rfl, Nat.le_of_ble_eq_true rfl⟩ ⟨Nat.le_of_ble_eq_true rfl, Nat.le_of_ble_eq_true rfl⟩ hX hO hK hP hD hS hA hl.1 (Nat.le_of_ble_eq_true rfl) dX6_init_9 (fun u9 H locs hP hD hS => ?_)
  refine W.widen (k := 4) (n := 550) (by decide) (by decide) ?_
  have hP : va_P G.1 vwCl ([(h0, .inr (6, [.null, .null]))] ++ wN_X1 G q5 u9) H := hP
  have hD : va_D A ([(h0, .inr (6, [.null, .null]))] ++ wN_X1 G q5 u9) := hD
  refine va_putF (ci := 6) (v := .ref q5) (ty := .object "OddColumns$Code") (C := RX6) (T := TX6) (N := 2) hx hb ht0 iX6 tyX6 tyX6_ok nmX6 hown hK hP hD hS 0 rfl rfl 0 (by decide) (ht0 _ wd_341) (fun _ h9 => h9) rfl hin rfl rfl rfl rfl (Nat.le_of_ble_eq_true rfl) dX6_init_12 (fun H locs hP hD hS => ?_)
  have hP : va_P G.1 vwCl ([(h0, .inr (6, [.ref q5, .null]))] ++ wN_X1 G q5 u9) H := hP
  have hD : va_D A ([(h0, .inr (6, [.ref q5, .null]))] ++ wN_X1 G q5 u9) := hD
  refine lv_aload_n hx hb dX6_init_15 rfl (lv_at hl 0 rfl) ?_
  refine va_new (ci := 9) (fs := [.null, .null, .null, .null, .null]) (C := RX9) (T := TX9) (N := 5) hx hb ht0 iX9 tyX9 tyX9_ok hown (ht0 _ wd_314) (ht0 _ wd_315) (ht0 _ wd_134) hK hP hD hS hA rfl (fun j hj => by rcases (show j = 0 ∨ j = 1 ∨ j = 2 ∨ j = 3 ∨ j = 4 by omega) with rfl | rfl | rfl | rfl | rfl <;> rfl) (Nat.le_of_ble_eq_true rfl) (Nat.le_of_ble_eq_true rfl) dX6_init_16 (fun q16 H hP hD hS => ?_)
  refine W.widen (k := 5) (n := 555) (by decide) (by decide) ?_
  have hP : va_P G.1 vwCl ([(h0, .inr (6, [.ref q5, .null]))] ++ wN_X1 G q5 u9 ++ [(q16, .inr (9, [.null, .null, .null, .null, .null]))]) H := hP
  have hD : va_D A ([(h0, .inr (6, [.ref q5, .null]))] ++ wN_X1 G q5 u9 ++ [(q16, .inr (9, [.null, .null, .null, .null, .null]))]) := hD
  refine lv_dup hx hb dX6_init_19 rfl ?_
  refine cl_N (rest := [.ref q16, .ref h0]) ⟨hx, hb, hml, hown, ht0⟩ (c_X9_init l G q16 H.size) ykN_X9_init (List.mem_of_getElem? (i := 6) rfl) ⟨rfl, rfl, Nat.le_of_ble_eq_true rfl, Nat.le_of_ble_eq_true rfl⟩ ⟨Nat.le_of_ble_eq_true rfl, Nat.le_of_ble_eq_true rfl⟩ hX hO hK hP hD hS hA hl.1 (Nat.le_of_ble_eq_true rfl) dX6_init_20 (fun u20 H locs hP hD hS => ?_)
  refine W.widen (k := 10) (n := 627) (by decide) (by decide) ?_
  have hP : va_P G.1 vwCl ([(h0, .inr (6, [.ref q5, .null]))] ++ wN_X1 G q5 u9 ++ wN_X9 G q16 u20) H := hP
  have hD : va_D A ([(h0, .inr (6, [.ref q5, .null]))] ++ wN_X1 G q5 u9 ++ wN_X9 G q16 u20) := hD
  refine va_putF (ci := 6) (v := .ref q16) (ty := .object "OddColumns$Words") (C := RX6) (T := TX6) (N := 2) hx hb ht0 iX6 tyX6 tyX6_ok nmX6 hown hK hP hD hS 0 rfl rfl 1 (by decide) (ht0 _ wd_343) (fun _ h9 => h9) rfl hin rfl rfl rfl rfl (Nat.le_of_ble_eq_true rfl) dX6_init_23 (fun H locs hP hD hS => ?_)
  have hP : va_P G.1 vwCl ([(h0, .inr (6, [.ref q5, .ref q16]))] ++ wN_X1 G q5 u9 ++ wN_X9 G q16 u20) H := hP
  have hD : va_D A ([(h0, .inr (6, [.ref q5, .ref q16]))] ++ wN_X1 G q5 u9 ++ wN_X9 G q16 u20) := hD
  exact ret_vN (w1 := wN_X6 G h0) ((q5, u9, q16, u20) : tX6) hx hb hr hlk hK hP hD hS dX6_init_26
