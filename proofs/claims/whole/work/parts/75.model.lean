theorem dX11_row_0 : decode cX11_row 0 = .ok (.iload_n 1, 1) := by decide +kernel
theorem dX11_row_1 : decode cX11_row 1 = .ok (.iconst 0, 1) := by decide +kernel
theorem dX11_row_2 : decode cX11_row 2 = .ok (.aload_n 0, 1) := by decide +kernel
theorem dX11_row_3 : decode cX11_row 3 = .ok (.invokevirtual 224, 3) := by decide +kernel
theorem dX11_row_6 : decode cX11_row 6 = .ok (.iconst 1, 1) := by decide +kernel
theorem dX11_row_7 : decode cX11_row 7 = .ok (.isub, 1) := by decide +kernel
theorem dX11_row_8 : decode cX11_row 8 = .ok (.invokestatic 163, 3) := by decide +kernel
theorem dX11_row_11 : decode cX11_row 11 = .ok (.ifCond .ne 5, 3) := by decide +kernel
theorem dX11_row_14 : decode cX11_row 14 = .ok (.iconst (-1), 1) := by decide +kernel
theorem dX11_row_15 : decode cX11_row 15 = .ok (.ireturn, 1) := by decide +kernel
theorem dX11_row_16 : decode cX11_row 16 = .ok (.iload_n 2, 1) := by decide +kernel
theorem dX11_row_17 : decode cX11_row 17 = .ok (.ifCond .ne 11, 3) := by decide +kernel
theorem dX11_row_20 : decode cX11_row 20 = .ok (.aload_n 0, 1) := by decide +kernel
theorem dX11_row_21 : decode cX11_row 21 = .ok (.iload_n 1, 1) := by decide +kernel
theorem dX11_row_22 : decode cX11_row 22 = .ok (.invokevirtual 396, 3) := by decide +kernel
theorem dX11_row_25 : decode cX11_row 25 = .ok (.goto 17, 3) := by decide +kernel
theorem dX11_row_28 : decode cX11_row 28 = .ok (.iload_n 2, 1) := by decide +kernel
theorem dX11_row_29 : decode cX11_row 29 = .ok (.iconst 1, 1) := by decide +kernel
theorem dX11_row_30 : decode cX11_row 30 = .ok (.if_icmp .ne 11, 3) := by decide +kernel
theorem dX11_row_33 : decode cX11_row 33 = .ok (.aload_n 0, 1) := by decide +kernel
theorem dX11_row_34 : decode cX11_row 34 = .ok (.iload_n 1, 1) := by decide +kernel
theorem dX11_row_35 : decode cX11_row 35 = .ok (.invokevirtual 399, 3) := by decide +kernel
theorem dX11_row_38 : decode cX11_row 38 = .ok (.goto 4, 3) := by decide +kernel
theorem dX11_row_41 : decode cX11_row 41 = .ok (.iconst (-1), 1) := by decide +kernel
theorem dX11_row_42 : decode cX11_row 42 = .ok (.ireturn, 1) := by decide +kernel
def wW_X11_row (G : GG) (h0 h1 h2 h3 y0_3 y0_4 y0_6 y0_18 y0_21 y0_22 y0_23 y0_24 y0_25 y0_26 y0_33 y0_34 y0_38 y0_39 y0_40 y0_41 y0_42 y0_43 y0_45 y0_46 y0_47 y0_48 : Nat) (x0_5 : Int32) (x0_7 : Int32) (x0_8 : Int32) (x0_9 : Int32) (x0_10 : Int32) (x0_11 : Int32) (x0_12 : Int32) (x0_13 : Int32) (x0_14 : Int32) (x0_15 : Int32) (x0_16 : Int32) (x0_17 : Int32) (x0_19 : Int32) (x0_20 : Int32) (x0_27 : Int32) (x0_28 : Int32) (x0_29 : Int32) (x0_30 : Int32) (x0_31 : Int32) (x0_32 : Int32) (x0_35 : Int32) (x0_36 : Int32) (x0_37 : Int32) (x0_44 : Int32) (x0_49 : Int32) (x0_50 : Int32) (a1 : Nat → Int32) (a2 : Nat → Int32) (a3 : Nat → Int32) : va_W := [(h0, .inr (11, [.ref h1, .ref h2, .ref h3, .ref y0_3, .ref y0_4, .int x0_5, .ref y0_6, .int x0_7, .int x0_8, .int x0_9, .int x0_10, .int x0_11, .int x0_12, .int x0_13, .int x0_14, .int x0_15, .int x0_16, .int x0_17, .ref y0_18, .int x0_19, .int x0_20, .ref y0_21, .ref y0_22, .ref y0_23, .ref y0_24, .ref y0_25, .ref y0_26, .int x0_27, .int x0_28, .int x0_29, .int x0_30, .int x0_31, .int x0_32, .ref y0_33, .ref y0_34, .int x0_35, .int x0_36, .int x0_37, .ref y0_38, .ref y0_39, .ref y0_40, .ref y0_41, .ref y0_42, .ref y0_43, .int x0_44, .ref y0_45, .ref y0_46, .ref y0_47, .ref y0_48, .int x0_49, .int x0_50])), (h1, .inl (G.2.1, 121, .inl a1)), (h2, .inl (G.2.1, 2, .inl a2)), (h3, .inl (G.2.1, 2, .inl a3))]
set_option maxHeartbeats 4000000 in
set_option maxRecDepth 100000 in
theorem c_X11_row (l : Launch) (G : GG) (h0 h1 h2 h3 y0_3 y0_4 y0_6 y0_18 y0_21 y0_22 y0_23 y0_24 y0_25 y0_26 y0_33 y0_34 y0_38 y0_39 y0_40 y0_41 y0_42 y0_43 y0_45 y0_46 y0_47 y0_48 : Nat) (sz : Nat) (x0_5 : Int32) (x0_7 : Int32) (x0_8 : Int32) (x0_9 : Int32) (x0_10 : Int32) (x0_11 : Int32) (x0_12 : Int32) (x0_13 : Int32) (x0_14 : Int32) (x0_15 : Int32) (x0_16 : Int32) (x0_17 : Int32) (x0_19 : Int32) (x0_20 : Int32) (x0_27 : Int32) (x0_28 : Int32) (x0_29 : Int32) (x0_30 : Int32) (x0_31 : Int32) (x0_32 : Int32) (x0_35 : Int32) (x0_36 : Int32) (x0_37 : Int32) (x0_44 : Int32) (x0_49 : Int32) (x0_50 : Int32) (a1 : Nat → Int32) (a2 : Nat → Int32) (a3 : Nat → Int32) (F : Nat) (b1 : Int32) (b2 : Int32)  (r0 : Int32) (hf : p_X11_row F x0_5 a1 a2 a3 b1 b2 = some r0) : Met l yX11_row (.code yX11_row cX11_row 3 (some .int) :: gtbl) ({ frames := 3, cells := 0, slots := 0, locals := 67 } : Room) (PcS G [.ref h0, .int b1, .int b2] (wW_X11_row G h0 h1 h2 h3 y0_3 y0_4 y0_6 y0_18 y0_21 y0_22 y0_23 y0_24 y0_25 y0_26 y0_33 y0_34 y0_38 y0_39 y0_40 y0_41 y0_42 y0_43 y0_45 y0_46 y0_47 y0_48 x0_5 x0_7 x0_8 x0_9 x0_10 x0_11 x0_12 x0_13 x0_14 x0_15 x0_16 x0_17 x0_19 x0_20 x0_27 x0_28 x0_29 x0_30 x0_31 x0_32 x0_35 x0_36 x0_37 x0_44 x0_49 x0_50 a1 a2 a3) sz) (QiS G r0 (va_A (wW_X11_row G h0 h1 h2 h3 y0_3 y0_4 y0_6 y0_18 y0_21 y0_22 y0_23 y0_24 y0_25 y0_26 y0_33 y0_34 y0_38 y0_39 y0_40 y0_41 y0_42 y0_43 y0_45 y0_46 y0_47 y0_48 x0_5 x0_7 x0_8 x0_9 x0_10 x0_11 x0_12 x0_13 x0_14 x0_15 x0_16 x0_17 x0_19 x0_20 x0_27 x0_28 x0_29 x0_30 x0_31 x0_32 x0_35 x0_36 x0_37 x0_44 x0_49 x0_50 a1 a2 a3) sz) (wW_X11_row G h0 h1 h2 h3 y0_3 y0_4 y0_6 y0_18 y0_21 y0_22 y0_23 y0_24 y0_25 y0_26 y0_33 y0_34 y0_38 y0_39 y0_40 y0_41 y0_42 y0_43 y0_45 y0_46 y0_47 y0_48 x0_5 x0_7 x0_8 x0_9 x0_10 x0_11 x0_12 x0_13 x0_14 x0_15 x0_16 x0_17 x0_19 x0_20 x0_27 x0_28 x0_29 x0_30 x0_31 x0_32 x0_35 x0_36 x0_37 x0_44 x0_49 x0_50 a1 a2 a3)) 0 0 (va_A (wW_X11_row G h0 h1 h2 h3 y0_3 y0_4 y0_6 y0_18 y0_21 y0_22 y0_23 y0_24 y0_25 y0_26 y0_33 y0_34 y0_38 y0_39 y0_40 y0_41 y0_42 y0_43 y0_45 y0_46 y0_47 y0_48 x0_5 x0_7 x0_8 x0_9 x0_10 x0_11 x0_12 x0_13 x0_14 x0_15 x0_16 x0_17 x0_19 x0_20 x0_27 x0_28 x0_29 x0_30 x0_31 x0_32 x0_35 x0_36 x0_37 x0_44 x0_49 x0_50 a1 a2 a3) sz) := by
  refine met_start (by decide) (Nat.le_of_ble_eq_true rfl) ?_
  intro p e s m below meth c hC hr hlk hnm hK hP hD hA hS hX ls hl
  obtain ⟨hx, hb, hml, hown, ht0⟩ := hC
  have hown : s.vm.findClass RX11 = some m.cls := hown
  generalize va_A (wW_X11_row G h0 h1 h2 h3 y0_3 y0_4 y0_6 y0_18 y0_21 y0_22 y0_23 y0_24 y0_25 y0_26 y0_33 y0_34 y0_38 y0_39 y0_40 y0_41 y0_42 y0_43 y0_45 y0_46 y0_47 y0_48 x0_5 x0_7 x0_8 x0_9 x0_10 x0_11 x0_12 x0_13 x0_14 x0_15 x0_16 x0_17 x0_19 x0_20 x0_27 x0_28 x0_29 x0_30 x0_31 x0_32 x0_35 x0_36 x0_37 x0_44 x0_49 x0_50 a1 a2 a3) sz = A at hD hA hS hX ⊢
  have hl : lv_has ls 3 [(0, .ref h0), (1, .int b1), (2, .int b2)] := hl
  have hf : p_X11_row F x0_5 a1 a2 a3 b1 b2 = some r0 := hf
  refine lv_iload_n hx hb dX11_row_0 rfl (lv_at hl 1 rfl) ?_
  refine lv_iconst (v := (0 : Int32)) hx hb dX11_row_1 (by decide) ?_
  refine lv_aload_n hx hb dX11_row_2 rfl (lv_at hl 0 rfl) ?_
  obtain ⟨r_3_0, hc_r_3_0, hf⟩ := of_bnd hf
  refine cl_Vi (w2 := (wW_X11_row G h0 h1 h2 h3 y0_3 y0_4 y0_6 y0_18 y0_21 y0_22 y0_23 y0_24 y0_25 y0_26 y0_33 y0_34 y0_38 y0_39 y0_40 y0_41 y0_42 y0_43 y0_45 y0_46 y0_47 y0_48 x0_5 x0_7 x0_8 x0_9 x0_10 x0_11 x0_12 x0_13 x0_14 x0_15 x0_16 x0_17 x0_19 x0_20 x0_27 x0_28 x0_29 x0_30 x0_31 x0_32 x0_35 x0_36 x0_37 x0_44 x0_49 x0_50 a1 a2 a3)) (As := []) (rest := [.int (0 : Int32), .int b1]) ⟨hx, hb, hml, hown, ht0⟩ (c_X11_checksNow l G h0 h3 h1 h2 y0_3 y0_4 y0_6 y0_18 y0_21 y0_22 y0_23 y0_24 y0_25 y0_26 y0_33 y0_34 y0_38 y0_39 y0_40 y0_41 y0_42 y0_43 y0_45 y0_46 y0_47 y0_48 _ x0_5 x0_7 x0_8 x0_9 x0_10 x0_11 x0_12 x0_13 x0_14 x0_15 x0_16 x0_17 x0_19 x0_20 x0_27 x0_28 x0_29 x0_30 x0_31 x0_32 x0_35 x0_36 x0_37 x0_44 x0_49 x0_50 a3 F _ hc_r_3_0) yk_X11_checksNow wd_1576 ⟨rfl, rfl, by decide, by decide⟩ ⟨Nat.le_refl _, Nat.le_refl _⟩ hX hK hP hD hS hA [0, 3] [1, 2] [2, 0, 1, 3] (va_recv hK hP (ci := 11) (q0 := 0) rfl rfl) rfl rfl (by decide) rfl rfl rfl rfl rfl hl.1 rfl (Nat.le_of_ble_eq_true rfl) dX11_row_3 (fun H locs hP hD hS => ?_)
  refine lv_iconst (v := (1 : Int32)) hx hb dX11_row_6 (by decide) ?_
  refine lv_isub hx hb dX11_row_7 ?_
  obtain ⟨r_8_1, hc_r_8_1, hf⟩ := of_bnd hf
  refine cl_Si (w2 := (wW_X11_row G h0 h1 h2 h3 y0_3 y0_4 y0_6 y0_18 y0_21 y0_22 y0_23 y0_24 y0_25 y0_26 y0_33 y0_34 y0_38 y0_39 y0_40 y0_41 y0_42 y0_43 y0_45 y0_46 y0_47 y0_48 x0_5 x0_7 x0_8 x0_9 x0_10 x0_11 x0_12 x0_13 x0_14 x0_15 x0_16 x0_17 x0_19 x0_20 x0_27 x0_28 x0_29 x0_30 x0_31 x0_32 x0_35 x0_36 x0_37 x0_44 x0_49 x0_50 a1 a2 a3)) (As := [.int b1, .int (0 : Int32), .int (r_3_0 - (1 : Int32))]) (rest := []) ⟨hx, hb, hml, hown, ht0⟩ (c_X11_isIn l G _ F b1 (0 : Int32) (r_3_0 - (1 : Int32)) _ hc_r_8_1) yk_X11_isIn wd_1321 ⟨rfl, rfl, by decide, by decide⟩ ⟨Nat.le_refl _, Nat.le_refl _⟩ hX hK hP hD hS hA [] [0, 1, 2, 3] [0, 1, 2, 3] rfl rfl (by decide) rfl rfl rfl rfl rfl hl.1 rfl (Nat.le_of_ble_eq_true rfl) dX11_row_8 (fun H locs hP hD hS => ?_)
  refine lv_if_ne (tgt := 16) hx hb dX11_row_11 (by decide) (fun c3 => ?_) (fun c3 => ?_)
  · have hf := of_neg hf c3
    refine lv_iload_n hx hb dX11_row_16 rfl (lv_at hl 2 rfl) ?_
    refine lv_if_ne (tgt := 28) hx hb dX11_row_17 (by decide) (fun c4 => ?_) (fun c4 => ?_)
    · have hf := of_neg hf c4
      refine lv_iload_n hx hb dX11_row_28 rfl (lv_at hl 2 rfl) ?_
      refine lv_iconst (v := (1 : Int32)) hx hb dX11_row_29 (by decide) ?_
      refine lv_icmp_ne (tgt := 41) hx hb dX11_row_30 (by decide) (fun c5 => ?_) (fun c5 => ?_)
      · have hf := of_neg hf c5
        refine lv_iconst (v := (-1 : Int32)) hx hb dX11_row_41 (by decide) ?_
        cases hf
        exact ret_i hx hb hr hlk hK hP hD hS dX11_row_42
      · have hf := of_pos hf c5
        refine lv_aload_n hx hb dX11_row_33 rfl (lv_at hl 0 rfl) ?_
        refine lv_iload_n hx hb dX11_row_34 rfl (lv_at hl 1 rfl) ?_
        obtain ⟨r_35_5, hc_r_35_5, hf⟩ := of_bnd hf
        refine cl_Vi (w2 := (wW_X11_row G h0 h1 h2 h3 y0_3 y0_4 y0_6 y0_18 y0_21 y0_22 y0_23 y0_24 y0_25 y0_26 y0_33 y0_34 y0_38 y0_39 y0_40 y0_41 y0_42 y0_43 y0_45 y0_46 y0_47 y0_48 x0_5 x0_7 x0_8 x0_9 x0_10 x0_11 x0_12 x0_13 x0_14 x0_15 x0_16 x0_17 x0_19 x0_20 x0_27 x0_28 x0_29 x0_30 x0_31 x0_32 x0_35 x0_36 x0_37 x0_44 x0_49 x0_50 a1 a2 a3)) (As := [.int b1]) (rest := []) ⟨hx, hb, hml, hown, ht0⟩ (c_X11_deepOf l G h0 h1 h2 h3 y0_3 y0_4 y0_6 y0_18 y0_21 y0_22 y0_23 y0_24 y0_25 y0_26 y0_33 y0_34 y0_38 y0_39 y0_40 y0_41 y0_42 y0_43 y0_45 y0_46 y0_47 y0_48 _ x0_5 x0_7 x0_8 x0_9 x0_10 x0_11 x0_12 x0_13 x0_14 x0_15 x0_16 x0_17 x0_19 x0_20 x0_27 x0_28 x0_29 x0_30 x0_31 x0_32 x0_35 x0_36 x0_37 x0_44 x0_49 x0_50 a1 a2 F b1 _ hc_r_35_5) yk_X11_deepOf wd_1794 ⟨rfl, rfl, by decide, by decide⟩ ⟨Nat.le_refl _, Nat.le_refl _⟩ hX hK hP hD hS hA [0, 1, 2] [3] [1, 2, 3, 0] (va_recv hK hP (ci := 11) (q0 := 0) rfl rfl) rfl rfl (by decide) rfl rfl rfl rfl rfl hl.1 rfl (Nat.le_of_ble_eq_true rfl) dX11_row_35 (fun H locs hP hD hS => ?_)
        refine lv_goto (tgt := 42) hx hb dX11_row_38 (by decide) ?_
        cases hf
        exact ret_i hx hb hr hlk hK hP hD hS dX11_row_42
    · have hf := of_pos hf c4
      refine lv_aload_n hx hb dX11_row_20 rfl (lv_at hl 0 rfl) ?_
      refine lv_iload_n hx hb dX11_row_21 rfl (lv_at hl 1 rfl) ?_
      obtain ⟨r_22_6, hc_r_22_6, hf⟩ := of_bnd hf
      refine cl_Vi (w2 := (wW_X11_row G h0 h1 h2 h3 y0_3 y0_4 y0_6 y0_18 y0_21 y0_22 y0_23 y0_24 y0_25 y0_26 y0_33 y0_34 y0_38 y0_39 y0_40 y0_41 y0_42 y0_43 y0_45 y0_46 y0_47 y0_48 x0_5 x0_7 x0_8 x0_9 x0_10 x0_11 x0_12 x0_13 x0_14 x0_15 x0_16 x0_17 x0_19 x0_20 x0_27 x0_28 x0_29 x0_30 x0_31 x0_32 x0_35 x0_36 x0_37 x0_44 x0_49 x0_50 a1 a2 a3)) (As := [.int b1]) (rest := []) ⟨hx, hb, hml, hown, ht0⟩ (c_X11_wiresOf l G h0 h1 h2 h3 y0_3 y0_4 y0_6 y0_18 y0_21 y0_22 y0_23 y0_24 y0_25 y0_26 y0_33 y0_34 y0_38 y0_39 y0_40 y0_41 y0_42 y0_43 y0_45 y0_46 y0_47 y0_48 _ x0_5 x0_7 x0_8 x0_9 x0_10 x0_11 x0_12 x0_13 x0_14 x0_15 x0_16 x0_17 x0_19 x0_20 x0_27 x0_28 x0_29 x0_30 x0_31 x0_32 x0_35 x0_36 x0_37 x0_44 x0_49 x0_50 a1 a2 F b1 _ hc_r_22_6) yk_X11_wiresOf wd_1790 ⟨rfl, rfl, by decide, by decide⟩ ⟨Nat.le_refl _, Nat.le_refl _⟩ hX hK hP hD hS hA [0, 1, 2] [3] [1, 2, 3, 0] (va_recv hK hP (ci := 11) (q0 := 0) rfl rfl) rfl rfl (by decide) rfl rfl rfl rfl rfl hl.1 rfl (Nat.le_of_ble_eq_true rfl) dX11_row_22 (fun H locs hP hD hS => ?_)
      refine lv_goto (tgt := 42) hx hb dX11_row_25 (by decide) ?_
      cases hf
      exact ret_i hx hb hr hlk hK hP hD hS dX11_row_42
  · have hf := of_pos hf c3
    refine lv_iconst (v := (-1 : Int32)) hx hb dX11_row_14 (by decide) ?_
    cases hf
    exact ret_i hx hb hr hlk hK hP hD hS dX11_row_15
theorem yk_X11_row : ykV yX11_row RX11 cX11_row 3 (some .int) 2 := ⟨wd_1787, wd_1788, wd_142, wd_1789, rfl, by decide +kernel, by decide +kernel, by decide +kernel⟩
theorem dX11_rows_0 : decode cX11_rows 0 = .ok (.iconst 0, 1) := by decide +kernel
theorem dX11_rows_1 : decode cX11_rows 1 = .ok (.istore_n 2, 1) := by decide +kernel
theorem dX11_rows_2 : decode cX11_rows 2 = .ok (.iconst 0, 1) := by decide +kernel
theorem dX11_rows_3 : decode cX11_rows 3 = .ok (.istore_n 3, 1) := by decide +kernel
theorem dX11_rows_4 : decode cX11_rows 4 = .ok (.ldc 251, 2) := by decide +kernel
theorem dX11_rows_6 : decode cX11_rows 6 = .ok (.istore 4, 2) := by decide +kernel
theorem dX11_rows_8 : decode cX11_rows 8 = .ok (.iconst (-1), 1) := by decide +kernel
theorem dX11_rows_9 : decode cX11_rows 9 = .ok (.istore 5, 2) := by decide +kernel
theorem dX11_rows_11 : decode cX11_rows 11 = .ok (.iconst 0, 1) := by decide +kernel
theorem dX11_rows_12 : decode cX11_rows 12 = .ok (.istore 6, 2) := by decide +kernel
theorem dX11_rows_14 : decode cX11_rows 14 = .ok (.iload 6, 2) := by decide +kernel
theorem dX11_rows_16 : decode cX11_rows 16 = .ok (.aload_n 0, 1) := by decide +kernel
theorem dX11_rows_17 : decode cX11_rows 17 = .ok (.invokevirtual 224, 3) := by decide +kernel
theorem dX11_rows_20 : decode cX11_rows 20 = .ok (.if_icmp .ge 55, 3) := by decide +kernel
theorem dX11_rows_23 : decode cX11_rows 23 = .ok (.iload_n 2, 1) := by decide +kernel
theorem dX11_rows_24 : decode cX11_rows 24 = .ok (.aload_n 0, 1) := by decide +kernel
theorem dX11_rows_25 : decode cX11_rows 25 = .ok (.iload 6, 2) := by decide +kernel
theorem dX11_rows_27 : decode cX11_rows 27 = .ok (.invokevirtual 396, 3) := by decide +kernel
theorem dX11_rows_30 : decode cX11_rows 30 = .ok (.iadd, 1) := by decide +kernel
theorem dX11_rows_31 : decode cX11_rows 31 = .ok (.istore_n 2, 1) := by decide +kernel
theorem dX11_rows_32 : decode cX11_rows 32 = .ok (.iload_n 3, 1) := by decide +kernel
theorem dX11_rows_33 : decode cX11_rows 33 = .ok (.aload_n 0, 1) := by decide +kernel
theorem dX11_rows_34 : decode cX11_rows 34 = .ok (.iload 6, 2) := by decide +kernel
theorem dX11_rows_36 : decode cX11_rows 36 = .ok (.invokevirtual 396, 3) := by decide +kernel
theorem dX11_rows_39 : decode cX11_rows 39 = .ok (.invokestatic 252, 3) := by decide +kernel
theorem dX11_rows_42 : decode cX11_rows 42 = .ok (.istore_n 3, 1) := by decide +kernel
theorem dX11_rows_43 : decode cX11_rows 43 = .ok (.iload 4, 2) := by decide +kernel
theorem dX11_rows_45 : decode cX11_rows 45 = .ok (.aload_n 0, 1) := by decide +kernel
theorem dX11_rows_46 : decode cX11_rows 46 = .ok (.iload 6, 2) := by decide +kernel
theorem dX11_rows_48 : decode cX11_rows 48 = .ok (.invokevirtual 396, 3) := by decide +kernel
theorem dX11_rows_51 : decode cX11_rows 51 = .ok (.invokestatic 402, 3) := by decide +kernel
theorem dX11_rows_54 : decode cX11_rows 54 = .ok (.istore 4, 2) := by decide +kernel
theorem dX11_rows_56 : decode cX11_rows 56 = .ok (.iload 5, 2) := by decide +kernel
theorem dX11_rows_58 : decode cX11_rows 58 = .ok (.aload_n 0, 1) := by decide +kernel
theorem dX11_rows_59 : decode cX11_rows 59 = .ok (.iload 6, 2) := by decide +kernel
theorem dX11_rows_61 : decode cX11_rows 61 = .ok (.invokevirtual 399, 3) := by decide +kernel
theorem dX11_rows_64 : decode cX11_rows 64 = .ok (.invokestatic 252, 3) := by decide +kernel
theorem dX11_rows_67 : decode cX11_rows 67 = .ok (.istore 5, 2) := by decide +kernel
theorem dX11_rows_69 : decode cX11_rows 69 = .ok (.iinc 6 1, 3) := by decide +kernel
theorem dX11_rows_72 : decode cX11_rows 72 = .ok (.goto (-58), 3) := by decide +kernel
theorem dX11_rows_75 : decode cX11_rows 75 = .ok (.iload_n 1, 1) := by decide +kernel
theorem dX11_rows_76 : decode cX11_rows 76 = .ok (.ifCond .ne 7, 3) := by decide +kernel
theorem dX11_rows_79 : decode cX11_rows 79 = .ok (.iload_n 2, 1) := by decide +kernel
theorem dX11_rows_80 : decode cX11_rows 80 = .ok (.goto 26, 3) := by decide +kernel
theorem dX11_rows_83 : decode cX11_rows 83 = .ok (.iload_n 1, 1) := by decide +kernel
theorem dX11_rows_84 : decode cX11_rows 84 = .ok (.iconst 1, 1) := by decide +kernel
theorem dX11_rows_85 : decode cX11_rows 85 = .ok (.if_icmp .ne 10, 3) := by decide +kernel
theorem dX11_rows_88 : decode cX11_rows 88 = .ok (.iload_n 3, 1) := by decide +kernel
theorem dX11_rows_89 : decode cX11_rows 89 = .ok (.iload 4, 2) := by decide +kernel
theorem dX11_rows_91 : decode cX11_rows 91 = .ok (.isub, 1) := by decide +kernel
theorem dX11_rows_92 : decode cX11_rows 92 = .ok (.goto 14, 3) := by decide +kernel
theorem dX11_rows_95 : decode cX11_rows 95 = .ok (.iload_n 1, 1) := by decide +kernel
theorem dX11_rows_96 : decode cX11_rows 96 = .ok (.iconst 2, 1) := by decide +kernel
theorem dX11_rows_97 : decode cX11_rows 97 = .ok (.if_icmp .ne 8, 3) := by decide +kernel
theorem dX11_rows_100 : decode cX11_rows 100 = .ok (.iload 5, 2) := by decide +kernel
theorem dX11_rows_102 : decode cX11_rows 102 = .ok (.goto 4, 3) := by decide +kernel
theorem dX11_rows_105 : decode cX11_rows 105 = .ok (.iconst (-1), 1) := by decide +kernel
theorem dX11_rows_106 : decode cX11_rows 106 = .ok (.ireturn, 1) := by decide +kernel
def wW_X11_rows (G : GG) (h0 h1 h2 h3 y0_3 y0_4 y0_6 y0_18 y0_21 y0_22 y0_23 y0_24 y0_25 y0_26 y0_33 y0_34 y0_38 y0_39 y0_40 y0_41 y0_42 y0_43 y0_45 y0_46 y0_47 y0_48 : Nat) (x0_5 : Int32) (x0_7 : Int32) (x0_8 : Int32) (x0_9 : Int32) (x0_10 : Int32) (x0_11 : Int32) (x0_12 : Int32) (x0_13 : Int32) (x0_14 : Int32) (x0_15 : Int32) (x0_16 : Int32) (x0_17 : Int32) (x0_19 : Int32) (x0_20 : Int32) (x0_27 : Int32) (x0_28 : Int32) (x0_29 : Int32) (x0_30 : Int32) (x0_31 : Int32) (x0_32 : Int32) (x0_35 : Int32) (x0_36 : Int32) (x0_37 : Int32) (x0_44 : Int32) (x0_49 : Int32) (x0_50 : Int32) (a1 : Nat → Int32) (a2 : Nat → Int32) (a3 : Nat → Int32) : va_W := [(h0, .inr (11, [.ref h1, .ref h2, .ref h3, .ref y0_3, .ref y0_4, .int x0_5, .ref y0_6, .int x0_7, .int x0_8, .int x0_9, .int x0_10, .int x0_11, .int x0_12, .int x0_13, .int x0_14, .int x0_15, .int x0_16, .int x0_17, .ref y0_18, .int x0_19, .int x0_20, .ref y0_21, .ref y0_22, .ref y0_23, .ref y0_24, .ref y0_25, .ref y0_26, .int x0_27, .int x0_28, .int x0_29, .int x0_30, .int x0_31, .int x0_32, .ref y0_33, .ref y0_34, .int x0_35, .int x0_36, .int x0_37, .ref y0_38, .ref y0_39, .ref y0_40, .ref y0_41, .ref y0_42, .ref y0_43, .int x0_44, .ref y0_45, .ref y0_46, .ref y0_47, .ref y0_48, .int x0_49, .int x0_50])), (h1, .inl (G.2.1, 121, .inl a1)), (h2, .inl (G.2.1, 2, .inl a2)), (h3, .inl (G.2.1, 2, .inl a3))]
set_option maxHeartbeats 4000000 in
set_option maxRecDepth 100000 in
theorem c_X11_rows (l : Launch) (G : GG) (h0 h1 h2 h3 y0_3 y0_4 y0_6 y0_18 y0_21 y0_22 y0_23 y0_24 y0_25 y0_26 y0_33 y0_34 y0_38 y0_39 y0_40 y0_41 y0_42 y0_43 y0_45 y0_46 y0_47 y0_48 : Nat) (sz : Nat) (x0_5 : Int32) (x0_7 : Int32) (x0_8 : Int32) (x0_9 : Int32) (x0_10 : Int32) (x0_11 : Int32) (x0_12 : Int32) (x0_13 : Int32) (x0_14 : Int32) (x0_15 : Int32) (x0_16 : Int32) (x0_17 : Int32) (x0_19 : Int32) (x0_20 : Int32) (x0_27 : Int32) (x0_28 : Int32) (x0_29 : Int32) (x0_30 : Int32) (x0_31 : Int32) (x0_32 : Int32) (x0_35 : Int32) (x0_36 : Int32) (x0_37 : Int32) (x0_44 : Int32) (x0_49 : Int32) (x0_50 : Int32) (a1 : Nat → Int32) (a2 : Nat → Int32) (a3 : Nat → Int32) (F : Nat) (b1 : Int32)  (r0 : Int32) (hf : p_X11_rows F x0_5 a1 a2 a3 b1 = some r0) : Met l yX11_rows (.code yX11_rows cX11_rows 7 (some .int) :: gtbl) ({ frames := 3, cells := 0, slots := 0, locals := 67 } : Room) (PcS G [.ref h0, .int b1] (wW_X11_rows G h0 h1 h2 h3 y0_3 y0_4 y0_6 y0_18 y0_21 y0_22 y0_23 y0_24 y0_25 y0_26 y0_33 y0_34 y0_38 y0_39 y0_40 y0_41 y0_42 y0_43 y0_45 y0_46 y0_47 y0_48 x0_5 x0_7 x0_8 x0_9 x0_10 x0_11 x0_12 x0_13 x0_14 x0_15 x0_16 x0_17 x0_19 x0_20 x0_27 x0_28 x0_29 x0_30 x0_31 x0_32 x0_35 x0_36 x0_37 x0_44 x0_49 x0_50 a1 a2 a3) sz) (QiS G r0 (va_A (wW_X11_rows G h0 h1 h2 h3 y0_3 y0_4 y0_6 y0_18 y0_21 y0_22 y0_23 y0_24 y0_25 y0_26 y0_33 y0_34 y0_38 y0_39 y0_40 y0_41 y0_42 y0_43 y0_45 y0_46 y0_47 y0_48 x0_5 x0_7 x0_8 x0_9 x0_10 x0_11 x0_12 x0_13 x0_14 x0_15 x0_16 x0_17 x0_19 x0_20 x0_27 x0_28 x0_29 x0_30 x0_31 x0_32 x0_35 x0_36 x0_37 x0_44 x0_49 x0_50 a1 a2 a3) sz) (wW_X11_rows G h0 h1 h2 h3 y0_3 y0_4 y0_6 y0_18 y0_21 y0_22 y0_23 y0_24 y0_25 y0_26 y0_33 y0_34 y0_38 y0_39 y0_40 y0_41 y0_42 y0_43 y0_45 y0_46 y0_47 y0_48 x0_5 x0_7 x0_8 x0_9 x0_10 x0_11 x0_12 x0_13 x0_14 x0_15 x0_16 x0_17 x0_19 x0_20 x0_27 x0_28 x0_29 x0_30 x0_31 x0_32 x0_35 x0_36 x0_37 x0_44 x0_49 x0_50 a1 a2 a3)) 0 0 (va_A (wW_X11_rows G h0 h1 h2 h3 y0_3 y0_4 y0_6 y0_18 y0_21 y0_22 y0_23 y0_24 y0_25 y0_26 y0_33 y0_34 y0_38 y0_39 y0_40 y0_41 y0_42 y0_43 y0_45 y0_46 y0_47 y0_48 x0_5 x0_7 x0_8 x0_9 x0_10 x0_11 x0_12 x0_13 x0_14 x0_15 x0_16 x0_17 x0_19 x0_20 x0_27 x0_28 x0_29 x0_30 x0_31 x0_32 x0_35 x0_36 x0_37 x0_44 x0_49 x0_50 a1 a2 a3) sz) := by
  refine met_start (by decide) (Nat.le_of_ble_eq_true rfl) ?_
  intro p e s m below meth c hC hr hlk hnm hK hP hD hA hS hX ls hl
  obtain ⟨hx, hb, hml, hown, ht0⟩ := hC
  have hown : s.vm.findClass RX11 = some m.cls := hown
  generalize va_A (wW_X11_rows G h0 h1 h2 h3 y0_3 y0_4 y0_6 y0_18 y0_21 y0_22 y0_23 y0_24 y0_25 y0_26 y0_33 y0_34 y0_38 y0_39 y0_40 y0_41 y0_42 y0_43 y0_45 y0_46 y0_47 y0_48 x0_5 x0_7 x0_8 x0_9 x0_10 x0_11 x0_12 x0_13 x0_14 x0_15 x0_16 x0_17 x0_19 x0_20 x0_27 x0_28 x0_29 x0_30 x0_31 x0_32 x0_35 x0_36 x0_37 x0_44 x0_49 x0_50 a1 a2 a3) sz = A at hD hA hS hX ⊢
  have hl : lv_has ls 7 [(0, .ref h0), (1, .int b1)] := hl
  have hf : p_X11_rows F x0_5 a1 a2 a3 b1 = some r0 := hf
  have kL14 : ∀ (c14_1 : Int32) (n14 : Nat) (u14_2 : Int32) (u14_3 : Int32) (u14_4 : Int32) (u14_5 : Int32) (u14_6 : Int32), p_X11_rows_L14 F x0_5 a1 a2 a3 c14_1 n14 u14_2 u14_3 u14_4 u14_5 u14_6 = some r0 → ∀ (H : Heap) (locs : List Loc), va_P G.1 vwCl (wW_X11_rows G h0 h1 h2 h3 y0_3 y0_4 y0_6 y0_18 y0_21 y0_22 y0_23 y0_24 y0_25 y0_26 y0_33 y0_34 y0_38 y0_39 y0_40 y0_41 y0_42 y0_43 y0_45 y0_46 y0_47 y0_48 x0_5 x0_7 x0_8 x0_9 x0_10 x0_11 x0_12 x0_13 x0_14 x0_15 x0_16 x0_17 x0_19 x0_20 x0_27 x0_28 x0_29 x0_30 x0_31 x0_32 x0_35 x0_36 x0_37 x0_44 x0_49 x0_50 a1 a2 a3) H → va_D A (wW_X11_rows G h0 h1 h2 h3 y0_3 y0_4 y0_6 y0_18 y0_21 y0_22 y0_23 y0_24 y0_25 y0_26 y0_33 y0_34 y0_38 y0_39 y0_40 y0_41 y0_42 y0_43 y0_45 y0_46 y0_47 y0_48 x0_5 x0_7 x0_8 x0_9 x0_10 x0_11 x0_12 x0_13 x0_14 x0_15 x0_16 x0_17 x0_19 x0_20 x0_27 x0_28 x0_29 x0_30 x0_31 x0_32 x0_35 x0_36 x0_37 x0_44 x0_49 x0_50 a1 a2 a3) → va_S A s.heap H locs → ∀ ls : Array Slot, lv_has ls 7 [(0, .ref h0), (1, .int c14_1), (2, .int u14_2), (3, .int u14_3), (4, .int u14_4), (5, .int u14_5), (6, .int u14_6)] → W p l e ({ frames := 3, cells := 0, slots := 0, locals := 67 } : Room) s m (List.toArray [.ref h0, .int b1]) below meth c H locs 0 0 (MQ below (QiS G r0 A (wW_X11_rows G h0 h1 h2 h3 y0_3 y0_4 y0_6 y0_18 y0_21 y0_22 y0_23 y0_24 y0_25 y0_26 y0_33 y0_34 y0_38 y0_39 y0_40 y0_41 y0_42 y0_43 y0_45 y0_46 y0_47 y0_48 x0_5 x0_7 x0_8 x0_9 x0_10 x0_11 x0_12 x0_13 x0_14 x0_15 x0_16 x0_17 x0_19 x0_20 x0_27 x0_28 x0_29 x0_30 x0_31 x0_32 x0_35 x0_36 x0_37 x0_44 x0_49 x0_50 a1 a2 a3)) (List.toArray [.ref h0, .int b1]) s 0 0 A) (F0 m 14 ls []) := by
    intro c14_1 n14
    induction n14 with
    | zero =>
      intro u14_2 u14_3 u14_4 u14_5 u14_6 hf
      cases hf
    | succ n14 ih14 =>
      intro u14_2 u14_3 u14_4 u14_5 u14_6 hf H locs hP hD hS ls hl
      have hf : p_X11_rows_L14b F x0_5 a1 a2 a3 c14_1 (p_X11_rows_L14 F x0_5 a1 a2 a3 c14_1 n14) u14_2 u14_3 u14_4 u14_5 u14_6 = some r0 := hf
      refine lv_iload hx hb dX11_rows_14 (lv_at hl 6 rfl) ?_
      refine lv_aload_n hx hb dX11_rows_16 rfl (lv_at hl 0 rfl) ?_
      obtain ⟨r_17_0, hc_r_17_0, hf⟩ := of_bnd hf
      refine cl_Vi (w2 := (wW_X11_rows G h0 h1 h2 h3 y0_3 y0_4 y0_6 y0_18 y0_21 y0_22 y0_23 y0_24 y0_25 y0_26 y0_33 y0_34 y0_38 y0_39 y0_40 y0_41 y0_42 y0_43 y0_45 y0_46 y0_47 y0_48 x0_5 x0_7 x0_8 x0_9 x0_10 x0_11 x0_12 x0_13 x0_14 x0_15 x0_16 x0_17 x0_19 x0_20 x0_27 x0_28 x0_29 x0_30 x0_31 x0_32 x0_35 x0_36 x0_37 x0_44 x0_49 x0_50 a1 a2 a3)) (As := []) (rest := [.int u14_6]) ⟨hx, hb, hml, hown, ht0⟩ (c_X11_checksNow l G h0 h3 h1 h2 y0_3 y0_4 y0_6 y0_18 y0_21 y0_22 y0_23 y0_24 y0_25 y0_26 y0_33 y0_34 y0_38 y0_39 y0_40 y0_41 y0_42 y0_43 y0_45 y0_46 y0_47 y0_48 _ x0_5 x0_7 x0_8 x0_9 x0_10 x0_11 x0_12 x0_13 x0_14 x0_15 x0_16 x0_17 x0_19 x0_20 x0_27 x0_28 x0_29 x0_30 x0_31 x0_32 x0_35 x0_36 x0_37 x0_44 x0_49 x0_50 a3 F _ hc_r_17_0) yk_X11_checksNow wd_1576 ⟨rfl, rfl, by decide, by decide⟩ ⟨Nat.le_refl _, Nat.le_refl _⟩ hX hK hP hD hS hA [0, 3] [1, 2] [2, 0, 1, 3] (va_recv hK hP (ci := 11) (q0 := 0) rfl rfl) rfl rfl (by decide) rfl rfl rfl rfl rfl hl.1 rfl (Nat.le_of_ble_eq_true rfl) dX11_rows_17 (fun H locs hP hD hS => ?_)
      refine lv_icmp_ge (tgt := 75) hx hb dX11_rows_20 (by decide) (fun c2 => ?_) (fun c2 => ?_)
      · have hf := of_pos hf c2
        refine lv_iload_n hx hb dX11_rows_75 rfl (lv_at hl 1 rfl) ?_
        refine lv_if_ne (tgt := 83) hx hb dX11_rows_76 (by decide) (fun c3 => ?_) (fun c3 => ?_)
        · have hf := of_neg hf c3
          refine lv_iload_n hx hb dX11_rows_83 rfl (lv_at hl 1 rfl) ?_
          refine lv_iconst (v := (1 : Int32)) hx hb dX11_rows_84 (by decide) ?_
          refine lv_icmp_ne (tgt := 95) hx hb dX11_rows_85 (by decide) (fun c4 => ?_) (fun c4 => ?_)
          · have hf := of_neg hf c4
            refine lv_iload_n hx hb dX11_rows_95 rfl (lv_at hl 1 rfl) ?_
            refine lv_iconst (v := (2 : Int32)) hx hb dX11_rows_96 (by decide) ?_
            refine lv_icmp_ne (tgt := 105) hx hb dX11_rows_97 (by decide) (fun c5 => ?_) (fun c5 => ?_)
            · have hf := of_neg hf c5
              refine lv_iconst (v := (-1 : Int32)) hx hb dX11_rows_105 (by decide) ?_
              cases hf
              exact ret_i hx hb hr hlk hK hP hD hS dX11_rows_106
            · have hf := of_pos hf c5
              refine lv_iload hx hb dX11_rows_100 (lv_at hl 5 rfl) ?_
              refine lv_goto (tgt := 106) hx hb dX11_rows_102 (by decide) ?_
              cases hf
              exact ret_i hx hb hr hlk hK hP hD hS dX11_rows_106
          · have hf := of_pos hf c4
            refine lv_iload_n hx hb dX11_rows_88 rfl (lv_at hl 3 rfl) ?_
            refine lv_iload hx hb dX11_rows_89 (lv_at hl 4 rfl) ?_
            refine lv_isub hx hb dX11_rows_91 ?_
            refine lv_goto (tgt := 106) hx hb dX11_rows_92 (by decide) ?_
            cases hf
            exact ret_i hx hb hr hlk hK hP hD hS dX11_rows_106
        · have hf := of_pos hf c3
          refine lv_iload_n hx hb dX11_rows_79 rfl (lv_at hl 2 rfl) ?_
          refine lv_goto (tgt := 106) hx hb dX11_rows_80 (by decide) ?_
          cases hf
          exact ret_i hx hb hr hlk hK hP hD hS dX11_rows_106
      · have hf := of_neg hf c2
        refine lv_iload_n hx hb dX11_rows_23 rfl (lv_at hl 2 rfl) ?_
        refine lv_aload_n hx hb dX11_rows_24 rfl (lv_at hl 0 rfl) ?_
        refine lv_iload hx hb dX11_rows_25 (lv_at hl 6 rfl) ?_
        obtain ⟨r_27_5, hc_r_27_5, hf⟩ := of_bnd hf
        refine cl_Vi (w2 := (wW_X11_rows G h0 h1 h2 h3 y0_3 y0_4 y0_6 y0_18 y0_21 y0_22 y0_23 y0_24 y0_25 y0_26 y0_33 y0_34 y0_38 y0_39 y0_40 y0_41 y0_42 y0_43 y0_45 y0_46 y0_47 y0_48 x0_5 x0_7 x0_8 x0_9 x0_10 x0_11 x0_12 x0_13 x0_14 x0_15 x0_16 x0_17 x0_19 x0_20 x0_27 x0_28 x0_29 x0_30 x0_31 x0_32 x0_35 x0_36 x0_37 x0_44 x0_49 x0_50 a1 a2 a3)) (As := [.int u14_6]) (rest := [.int u14_2]) ⟨hx, hb, hml, hown, ht0⟩ (c_X11_wiresOf l G h0 h1 h2 h3 y0_3 y0_4 y0_6 y0_18 y0_21 y0_22 y0_23 y0_24 y0_25 y0_26 y0_33 y0_34 y0_38 y0_39 y0_40 y0_41 y0_42 y0_43 y0_45 y0_46 y0_47 y0_48 _ x0_5 x0_7 x0_8 x0_9 x0_10 x0_11 x0_12 x0_13 x0_14 x0_15 x0_16 x0_17 x0_19 x0_20 x0_27 x0_28 x0_29 x0_30 x0_31 x0_32 x0_35 x0_36 x0_37 x0_44 x0_49 x0_50 a1 a2 F u14_6 _ hc_r_27_5) yk_X11_wiresOf wd_1790 ⟨rfl, rfl, by decide, by decide⟩ ⟨Nat.le_refl _, Nat.le_refl _⟩ hX hK hP hD hS hA [0, 1, 2] [3] [1, 2, 3, 0] (va_recv hK hP (ci := 11) (q0 := 0) rfl rfl) rfl rfl (by decide) rfl rfl rfl rfl rfl hl.1 rfl (Nat.le_of_ble_eq_true rfl) dX11_rows_27 (fun H locs hP hD hS => ?_)
        refine lv_iadd hx hb dX11_rows_30 ?_
        refine lv_istore_n (lv' := [(2, .int (u14_2 + r_27_5)), (0, .ref h0), (1, .int c14_1), (3, .int u14_3), (4, .int u14_4), (5, .int u14_5), (6, .int u14_6)]) hx hb dX11_rows_31 rfl hl (by decide) rfl (fun ls hl => ?_)
        refine lv_iload_n hx hb dX11_rows_32 rfl (lv_at hl 3 rfl) ?_
        refine lv_aload_n hx hb dX11_rows_33 rfl (lv_at hl 1 rfl) ?_
        refine lv_iload hx hb dX11_rows_34 (lv_at hl 6 rfl) ?_
        obtain ⟨r_36_6, hc_r_36_6, hf⟩ := of_bnd hf
        refine cl_Vi (w2 := (wW_X11_rows G h0 h1 h2 h3 y0_3 y0_4 y0_6 y0_18 y0_21 y0_22 y0_23 y0_24 y0_25 y0_26 y0_33 y0_34 y0_38 y0_39 y0_40 y0_41 y0_42 y0_43 y0_45 y0_46 y0_47 y0_48 x0_5 x0_7 x0_8 x0_9 x0_10 x0_11 x0_12 x0_13 x0_14 x0_15 x0_16 x0_17 x0_19 x0_20 x0_27 x0_28 x0_29 x0_30 x0_31 x0_32 x0_35 x0_36 x0_37 x0_44 x0_49 x0_50 a1 a2 a3)) (As := [.int u14_6]) (rest := [.int u14_3]) ⟨hx, hb, hml, hown, ht0⟩ (c_X11_wiresOf l G h0 h1 h2 h3 y0_3 y0_4 y0_6 y0_18 y0_21 y0_22 y0_23 y0_24 y0_25 y0_26 y0_33 y0_34 y0_38 y0_39 y0_40 y0_41 y0_42 y0_43 y0_45 y0_46 y0_47 y0_48 _ x0_5 x0_7 x0_8 x0_9 x0_10 x0_11 x0_12 x0_13 x0_14 x0_15 x0_16 x0_17 x0_19 x0_20 x0_27 x0_28 x0_29 x0_30 x0_31 x0_32 x0_35 x0_36 x0_37 x0_44 x0_49 x0_50 a1 a2 F u14_6 _ hc_r_36_6) yk_X11_wiresOf wd_1790 ⟨rfl, rfl, by decide, by decide⟩ ⟨Nat.le_refl _, Nat.le_refl _⟩ hX hK hP hD hS hA [0, 1, 2] [3] [1, 2, 3, 0] (va_recv hK hP (ci := 11) (q0 := 0) rfl rfl) rfl rfl (by decide) rfl rfl rfl rfl rfl hl.1 rfl (Nat.le_of_ble_eq_true rfl) dX11_rows_36 (fun H locs hP hD hS => ?_)
        obtain ⟨r_39_7, hc_r_39_7, hf⟩ := of_bnd hf
        refine cl_Si (w2 := (wW_X11_rows G h0 h1 h2 h3 y0_3 y0_4 y0_6 y0_18 y0_21 y0_22 y0_23 y0_24 y0_25 y0_26 y0_33 y0_34 y0_38 y0_39 y0_40 y0_41 y0_42 y0_43 y0_45 y0_46 y0_47 y0_48 x0_5 x0_7 x0_8 x0_9 x0_10 x0_11 x0_12 x0_13 x0_14 x0_15 x0_16 x0_17 x0_19 x0_20 x0_27 x0_28 x0_29 x0_30 x0_31 x0_32 x0_35 x0_36 x0_37 x0_44 x0_49 x0_50 a1 a2 a3)) (As := [.int u14_3, .int r_36_6]) (rest := []) ⟨hx, hb, hml, hown, ht0⟩ (c_X11_more l G _ F u14_3 r_36_6 _ hc_r_39_7) yk_X11_more wd_1372 ⟨rfl, rfl, by decide, by decide⟩ ⟨Nat.le_refl _, Nat.le_refl _⟩ hX hK hP hD hS hA [] [0, 1, 2, 3] [0, 1, 2, 3] rfl rfl (by decide) rfl rfl rfl rfl rfl hl.1 rfl (Nat.le_of_ble_eq_true rfl) dX11_rows_39 (fun H locs hP hD hS => ?_)
        refine lv_istore_n (lv' := [(3, .int r_39_7), (2, .int (u14_2 + r_27_5)), (0, .ref h0), (1, .int c14_1), (4, .int u14_4), (5, .int u14_5), (6, .int u14_6)]) hx hb dX11_rows_42 rfl hl (by decide) rfl (fun ls hl => ?_)
        refine lv_iload hx hb dX11_rows_43 (lv_at hl 4 rfl) ?_
        refine lv_aload_n hx hb dX11_rows_45 rfl (lv_at hl 2 rfl) ?_
        refine lv_iload hx hb dX11_rows_46 (lv_at hl 6 rfl) ?_
        obtain ⟨r_48_8, hc_r_48_8, hf⟩ := of_bnd hf
        refine cl_Vi (w2 := (wW_X11_rows G h0 h1 h2 h3 y0_3 y0_4 y0_6 y0_18 y0_21 y0_22 y0_23 y0_24 y0_25 y0_26 y0_33 y0_34 y0_38 y0_39 y0_40 y0_41 y0_42 y0_43 y0_45 y0_46 y0_47 y0_48 x0_5 x0_7 x0_8 x0_9 x0_10 x0_11 x0_12 x0_13 x0_14 x0_15 x0_16 x0_17 x0_19 x0_20 x0_27 x0_28 x0_29 x0_30 x0_31 x0_32 x0_35 x0_36 x0_37 x0_44 x0_49 x0_50 a1 a2 a3)) (As := [.int u14_6]) (rest := [.int u14_4]) ⟨hx, hb, hml, hown, ht0⟩ (c_X11_wiresOf l G h0 h1 h2 h3 y0_3 y0_4 y0_6 y0_18 y0_21 y0_22 y0_23 y0_24 y0_25 y0_26 y0_33 y0_34 y0_38 y0_39 y0_40 y0_41 y0_42 y0_43 y0_45 y0_46 y0_47 y0_48 _ x0_5 x0_7 x0_8 x0_9 x0_10 x0_11 x0_12 x0_13 x0_14 x0_15 x0_16 x0_17 x0_19 x0_20 x0_27 x0_28 x0_29 x0_30 x0_31 x0_32 x0_35 x0_36 x0_37 x0_44 x0_49 x0_50 a1 a2 F u14_6 _ hc_r_48_8) yk_X11_wiresOf wd_1790 ⟨rfl, rfl, by decide, by decide⟩ ⟨Nat.le_refl _, Nat.le_refl _⟩ hX hK hP hD hS hA [0, 1, 2] [3] [1, 2, 3, 0] (va_recv hK hP (ci := 11) (q0 := 0) rfl rfl) rfl rfl (by decide) rfl rfl rfl rfl rfl hl.1 rfl (Nat.le_of_ble_eq_true rfl) dX11_rows_48 (fun H locs hP hD hS => ?_)
        obtain ⟨r_51_9, hc_r_51_9, hf⟩ := of_bnd hf
        refine cl_Si (w2 := (wW_X11_rows G h0 h1 h2 h3 y0_3 y0_4 y0_6 y0_18 y0_21 y0_22 y0_23 y0_24 y0_25 y0_26 y0_33 y0_34 y0_38 y0_39 y0_40 y0_41 y0_42 y0_43 y0_45 y0_46 y0_47 y0_48 x0_5 x0_7 x0_8 x0_9 x0_10 x0_11 x0_12 x0_13 x0_14 x0_15 x0_16 x0_17 x0_19 x0_20 x0_27 x0_28 x0_29 x0_30 x0_31 x0_32 x0_35 x0_36 x0_37 x0_44 x0_49 x0_50 a1 a2 a3)) (As := [.int u14_4, .int r_48_8]) (rest := []) ⟨hx, hb, hml, hown, ht0⟩ (c_X11_less l G _ F u14_4 r_48_8 _ hc_r_51_9) yk_X11_less wd_1802 ⟨rfl, rfl, by decide, by decide⟩ ⟨Nat.le_refl _, Nat.le_refl _⟩ hX hK hP hD hS hA [] [0, 1, 2, 3] [0, 1, 2, 3] rfl rfl (by decide) rfl rfl rfl rfl rfl hl.1 rfl (Nat.le_of_ble_eq_true rfl) dX11_rows_51 (fun H locs hP hD hS => ?_)
        refine lv_istore (lv' := [(4, .int r_51_9), (3, .int r_39_7), (2, .int (u14_2 + r_27_5)), (0, .ref h0), (1, .int c14_1), (5, .int u14_5), (6, .int u14_6)]) hx hb dX11_rows_54 hl (by decide) rfl (fun ls hl => ?_)
        refine lv_iload hx hb dX11_rows_56 (lv_at hl 5 rfl) ?_
        refine lv_aload_n hx hb dX11_rows_58 rfl (lv_at hl 3 rfl) ?_
        refine lv_iload hx hb dX11_rows_59 (lv_at hl 6 rfl) ?_
        obtain ⟨r_61_10, hc_r_61_10, hf⟩ := of_bnd hf
        refine cl_Vi (w2 := (wW_X11_rows G h0 h1 h2 h3 y0_3 y0_4 y0_6 y0_18 y0_21 y0_22 y0_23 y0_24 y0_25 y0_26 y0_33 y0_34 y0_38 y0_39 y0_40 y0_41 y0_42 y0_43 y0_45 y0_46 y0_47 y0_48 x0_5 x0_7 x0_8 x0_9 x0_10 x0_11 x0_12 x0_13 x0_14 x0_15 x0_16 x0_17 x0_19 x0_20 x0_27 x0_28 x0_29 x0_30 x0_31 x0_32 x0_35 x0_36 x0_37 x0_44 x0_49 x0_50 a1 a2 a3)) (As := [.int u14_6]) (rest := [.int u14_5]) ⟨hx, hb, hml, hown, ht0⟩ (c_X11_deepOf l G h0 h1 h2 h3 y0_3 y0_4 y0_6 y0_18 y0_21 y0_22 y0_23 y0_24 y0_25 y0_26 y0_33 y0_34 y0_38 y0_39 y0_40 y0_41 y0_42 y0_43 y0_45 y0_46 y0_47 y0_48 _ x0_5 x0_7 x0_8 x0_9 x0_10 x0_11 x0_12 x0_13 x0_14 x0_15 x0_16 x0_17 x0_19 x0_20 x0_27 x0_28 x0_29 x0_30 x0_31 x0_32 x0_35 x0_36 x0_37 x0_44 x0_49 x0_50 a1 a2 F u14_6 _ hc_r_61_10) yk_X11_deepOf wd_1794 ⟨rfl, rfl, by decide, by decide⟩ ⟨Nat.le_refl _, Nat.le_refl _⟩ hX hK hP hD hS hA [0, 1, 2] [3] [1, 2, 3, 0] (va_recv hK hP (ci := 11) (q0 := 0) rfl rfl) rfl rfl (by decide) rfl rfl rfl rfl rfl hl.1 rfl (Nat.le_of_ble_eq_true rfl) dX11_rows_61 (fun H locs hP hD hS => ?_)
        obtain ⟨r_64_11, hc_r_64_11, hf⟩ := of_bnd hf
        refine cl_Si (w2 := (wW_X11_rows G h0 h1 h2 h3 y0_3 y0_4 y0_6 y0_18 y0_21 y0_22 y0_23 y0_24 y0_25 y0_26 y0_33 y0_34 y0_38 y0_39 y0_40 y0_41 y0_42 y0_43 y0_45 y0_46 y0_47 y0_48 x0_5 x0_7 x0_8 x0_9 x0_10 x0_11 x0_12 x0_13 x0_14 x0_15 x0_16 x0_17 x0_19 x0_20 x0_27 x0_28 x0_29 x0_30 x0_31 x0_32 x0_35 x0_36 x0_37 x0_44 x0_49 x0_50 a1 a2 a3)) (As := [.int u14_5, .int r_61_10]) (rest := []) ⟨hx, hb, hml, hown, ht0⟩ (c_X11_more l G _ F u14_5 r_61_10 _ hc_r_64_11) yk_X11_more wd_1372 ⟨rfl, rfl, by decide, by decide⟩ ⟨Nat.le_refl _, Nat.le_refl _⟩ hX hK hP hD hS hA [] [0, 1, 2, 3] [0, 1, 2, 3] rfl rfl (by decide) rfl rfl rfl rfl rfl hl.1 rfl (Nat.le_of_ble_eq_true rfl) dX11_rows_64 (fun H locs hP hD hS => ?_)
        refine lv_istore (lv' := [(5, .int r_64_11), (4, .int r_51_9), (3, .int r_39_7), (2, .int (u14_2 + r_27_5)), (0, .ref h0), (1, .int c14_1), (6, .int u14_6)]) hx hb dX11_rows_67 hl (by decide) rfl (fun ls hl => ?_)
        refine lv_iinc (v := u14_6 + (1 : Int32)) (lv' := [(6, .int (u14_6 + (1 : Int32))), (5, .int r_64_11), (4, .int r_51_9), (3, .int r_39_7), (2, .int (u14_2 + r_27_5)), (0, .ref h0), (1, .int c14_1)]) hx hb dX11_rows_69 hl (k := 6) rfl (by rfl) (by decide) rfl (fun ls hl => ?_)
        refine lv_goto (tgt := 14) hx hb dX11_rows_72 (by decide) ?_
        exact ih14 _ _ _ _ _ hf _ _ hP hD hS _ (lv_sub hl [5, 6, 4, 3, 2, 1, 0] rfl)
  refine lv_iconst (v := (0 : Int32)) hx hb dX11_rows_0 (by decide) ?_
  refine lv_istore_n (lv' := [(2, .int (0 : Int32)), (0, .ref h0), (1, .int b1)]) hx hb dX11_rows_1 rfl hl (by decide) rfl (fun ls hl => ?_)
  refine lv_iconst (v := (0 : Int32)) hx hb dX11_rows_2 (by decide) ?_
  refine lv_istore_n (lv' := [(3, .int (0 : Int32)), (2, .int (0 : Int32)), (0, .ref h0), (1, .int b1)]) hx hb dX11_rows_3 rfl hl (by decide) rfl (fun ls hl => ?_)
  refine lv_ldc (v := (268435456 : Int32)) hx hb hown (ht0 _ wd_1371) dX11_rows_4 ?_
  refine lv_istore (lv' := [(4, .int (268435456 : Int32)), (3, .int (0 : Int32)), (2, .int (0 : Int32)), (0, .ref h0), (1, .int b1)]) hx hb dX11_rows_6 hl (by decide) rfl (fun ls hl => ?_)
  refine lv_iconst (v := (-1 : Int32)) hx hb dX11_rows_8 (by decide) ?_
  refine lv_istore (lv' := [(5, .int (-1 : Int32)), (4, .int (268435456 : Int32)), (3, .int (0 : Int32)), (2, .int (0 : Int32)), (0, .ref h0), (1, .int b1)]) hx hb dX11_rows_9 hl (by decide) rfl (fun ls hl => ?_)
  refine lv_iconst (v := (0 : Int32)) hx hb dX11_rows_11 (by decide) ?_
  refine lv_istore (lv' := [(6, .int (0 : Int32)), (5, .int (-1 : Int32)), (4, .int (268435456 : Int32)), (3, .int (0 : Int32)), (2, .int (0 : Int32)), (0, .ref h0), (1, .int b1)]) hx hb dX11_rows_12 hl (by decide) rfl (fun ls hl => ?_)
  exact kL14 _ _ _ _ _ _ _ hf _ _ hP hD hS _ (lv_sub hl [5, 6, 4, 3, 2, 1, 0] rfl)
theorem yk_X11_rows : ykV yX11_rows RX11 cX11_rows 7 (some .int) 1 := ⟨wd_1799, wd_1800, wd_142, wd_1801, rfl, by decide +kernel, by decide +kernel, by decide +kernel⟩
theorem dX11_word_0 : decode cX11_word 0 = .ok (.iload_n 1, 1) := by decide +kernel
theorem dX11_word_1 : decode cX11_word 1 = .ok (.invokestatic 350, 3) := by decide +kernel
theorem dX11_word_4 : decode cX11_word 4 = .ok (.ifCond .ne 5, 3) := by decide +kernel
theorem dX11_word_7 : decode cX11_word 7 = .ok (.iconst (-1), 1) := by decide +kernel
theorem dX11_word_8 : decode cX11_word 8 = .ok (.ireturn, 1) := by decide +kernel
theorem dX11_word_9 : decode cX11_word 9 = .ok (.iload_n 2, 1) := by decide +kernel
theorem dX11_word_10 : decode cX11_word 10 = .ok (.tableswitch 137 0 4 #[34, 44, 54, 77, 87], 34) := by decide +kernel
theorem dX11_word_44 : decode cX11_word 44 = .ok (.aload_n 0, 1) := by decide +kernel
theorem dX11_word_45 : decode cX11_word 45 = .ok (.getfield 7, 3) := by decide +kernel
theorem dX11_word_48 : decode cX11_word 48 = .ok (.bipush 33, 2) := by decide +kernel
theorem dX11_word_50 : decode cX11_word 50 = .ok (.iload_n 1, 1) := by decide +kernel
theorem dX11_word_51 : decode cX11_word 51 = .ok (.iadd, 1) := by decide +kernel
theorem dX11_word_52 : decode cX11_word 52 = .ok (.iaload, 1) := by decide +kernel
theorem dX11_word_53 : decode cX11_word 53 = .ok (.ireturn, 1) := by decide +kernel
theorem dX11_word_54 : decode cX11_word 54 = .ok (.aload_n 0, 1) := by decide +kernel
theorem dX11_word_55 : decode cX11_word 55 = .ok (.getfield 7, 3) := by decide +kernel
theorem dX11_word_58 : decode cX11_word 58 = .ok (.bipush 49, 2) := by decide +kernel
theorem dX11_word_60 : decode cX11_word 60 = .ok (.iload_n 1, 1) := by decide +kernel
theorem dX11_word_61 : decode cX11_word 61 = .ok (.iadd, 1) := by decide +kernel
theorem dX11_word_62 : decode cX11_word 62 = .ok (.iaload, 1) := by decide +kernel
theorem dX11_word_63 : decode cX11_word 63 = .ok (.ireturn, 1) := by decide +kernel
theorem dX11_word_64 : decode cX11_word 64 = .ok (.aload_n 0, 1) := by decide +kernel
theorem dX11_word_65 : decode cX11_word 65 = .ok (.aload_n 0, 1) := by decide +kernel
theorem dX11_word_66 : decode cX11_word 66 = .ok (.getfield 7, 3) := by decide +kernel
theorem dX11_word_69 : decode cX11_word 69 = .ok (.bipush 33, 2) := by decide +kernel
theorem dX11_word_71 : decode cX11_word 71 = .ok (.iload_n 1, 1) := by decide +kernel
theorem dX11_word_72 : decode cX11_word 72 = .ok (.iadd, 1) := by decide +kernel
theorem dX11_word_73 : decode cX11_word 73 = .ok (.iaload, 1) := by decide +kernel
theorem dX11_word_74 : decode cX11_word 74 = .ok (.aload_n 0, 1) := by decide +kernel
theorem dX11_word_75 : decode cX11_word 75 = .ok (.getfield 7, 3) := by decide +kernel
theorem dX11_word_78 : decode cX11_word 78 = .ok (.bipush 49, 2) := by decide +kernel
theorem dX11_word_80 : decode cX11_word 80 = .ok (.iload_n 1, 1) := by decide +kernel
theorem dX11_word_81 : decode cX11_word 81 = .ok (.iadd, 1) := by decide +kernel
theorem dX11_word_82 : decode cX11_word 82 = .ok (.iaload, 1) := by decide +kernel
theorem dX11_word_83 : decode cX11_word 83 = .ok (.invokevirtual 305, 3) := by decide +kernel
theorem dX11_word_86 : decode cX11_word 86 = .ok (.ireturn, 1) := by decide +kernel
theorem dX11_word_87 : decode cX11_word 87 = .ok (.aload_n 0, 1) := by decide +kernel
theorem dX11_word_88 : decode cX11_word 88 = .ok (.getfield 7, 3) := by decide +kernel
theorem dX11_word_91 : decode cX11_word 91 = .ok (.bipush 65, 2) := by decide +kernel
theorem dX11_word_93 : decode cX11_word 93 = .ok (.iload_n 1, 1) := by decide +kernel
theorem dX11_word_94 : decode cX11_word 94 = .ok (.iadd, 1) := by decide +kernel
theorem dX11_word_95 : decode cX11_word 95 = .ok (.iaload, 1) := by decide +kernel
theorem dX11_word_96 : decode cX11_word 96 = .ok (.ireturn, 1) := by decide +kernel
theorem dX11_word_97 : decode cX11_word 97 = .ok (.aload_n 0, 1) := by decide +kernel
theorem dX11_word_98 : decode cX11_word 98 = .ok (.getfield 7, 3) := by decide +kernel
theorem dX11_word_101 : decode cX11_word 101 = .ok (.bipush 33, 2) := by decide +kernel
theorem dX11_word_103 : decode cX11_word 103 = .ok (.iload_n 1, 1) := by decide +kernel
theorem dX11_word_104 : decode cX11_word 104 = .ok (.iadd, 1) := by decide +kernel
theorem dX11_word_105 : decode cX11_word 105 = .ok (.iaload, 1) := by decide +kernel
theorem dX11_word_106 : decode cX11_word 106 = .ok (.aload_n 0, 1) := by decide +kernel
theorem dX11_word_107 : decode cX11_word 107 = .ok (.getfield 7, 3) := by decide +kernel
theorem dX11_word_110 : decode cX11_word 110 = .ok (.bipush 65, 2) := by decide +kernel
theorem dX11_word_112 : decode cX11_word 112 = .ok (.iload_n 1, 1) := by decide +kernel
theorem dX11_word_113 : decode cX11_word 113 = .ok (.iadd, 1) := by decide +kernel
theorem dX11_word_114 : decode cX11_word 114 = .ok (.iaload, 1) := by decide +kernel
theorem dX11_word_115 : decode cX11_word 115 = .ok (.ixor, 1) := by decide +kernel
theorem dX11_word_116 : decode cX11_word 116 = .ok (.invokestatic 192, 3) := by decide +kernel
theorem dX11_word_119 : decode cX11_word 119 = .ok (.aload_n 0, 1) := by decide +kernel
theorem dX11_word_120 : decode cX11_word 120 = .ok (.getfield 7, 3) := by decide +kernel
theorem dX11_word_123 : decode cX11_word 123 = .ok (.bipush 49, 2) := by decide +kernel
theorem dX11_word_125 : decode cX11_word 125 = .ok (.iload_n 1, 1) := by decide +kernel
theorem dX11_word_126 : decode cX11_word 126 = .ok (.iadd, 1) := by decide +kernel
theorem dX11_word_127 : decode cX11_word 127 = .ok (.iaload, 1) := by decide +kernel
theorem dX11_word_128 : decode cX11_word 128 = .ok (.aload_n 0, 1) := by decide +kernel
theorem dX11_word_129 : decode cX11_word 129 = .ok (.aload_n 0, 1) := by decide +kernel
theorem dX11_word_130 : decode cX11_word 130 = .ok (.getfield 7, 3) := by decide +kernel
theorem dX11_word_133 : decode cX11_word 133 = .ok (.bipush 65, 2) := by decide +kernel
theorem dX11_word_135 : decode cX11_word 135 = .ok (.iload_n 1, 1) := by decide +kernel
theorem dX11_word_136 : decode cX11_word 136 = .ok (.iadd, 1) := by decide +kernel
theorem dX11_word_137 : decode cX11_word 137 = .ok (.iaload, 1) := by decide +kernel
theorem dX11_word_138 : decode cX11_word 138 = .ok (.invokevirtual 227, 3) := by decide +kernel
theorem dX11_word_141 : decode cX11_word 141 = .ok (.ixor, 1) := by decide +kernel
theorem dX11_word_142 : decode cX11_word 142 = .ok (.invokestatic 192, 3) := by decide +kernel
theorem dX11_word_145 : decode cX11_word 145 = .ok (.iadd, 1) := by decide +kernel
theorem dX11_word_146 : decode cX11_word 146 = .ok (.ireturn, 1) := by decide +kernel
theorem dX11_word_147 : decode cX11_word 147 = .ok (.iconst (-1), 1) := by decide +kernel
theorem dX11_word_148 : decode cX11_word 148 = .ok (.ireturn, 1) := by decide +kernel
def wW_X11_word (G : GG) (h0 h1 h2 y0_2 y0_3 y0_4 y0_6 y0_18 y0_21 y0_22 y0_23 y0_24 y0_25 y0_26 y0_33 y0_34 y0_38 y0_39 y0_40 y0_41 y0_42 y0_43 y0_45 y0_46 y0_47 y0_48 : Nat) (x0_5 : Int32) (x0_7 : Int32) (x0_8 : Int32) (x0_9 : Int32) (x0_10 : Int32) (x0_11 : Int32) (x0_12 : Int32) (x0_13 : Int32) (x0_14 : Int32) (x0_15 : Int32) (x0_16 : Int32) (x0_17 : Int32) (x0_19 : Int32) (x0_20 : Int32) (x0_27 : Int32) (x0_28 : Int32) (x0_29 : Int32) (x0_30 : Int32) (x0_31 : Int32) (x0_32 : Int32) (x0_35 : Int32) (x0_36 : Int32) (x0_37 : Int32) (x0_44 : Int32) (x0_49 : Int32) (x0_50 : Int32) (a1 : Nat → Int32) (a2 : Nat → Int32) : va_W := [(h0, .inr (11, [.ref h1, .ref h2, .ref y0_2, .ref y0_3, .ref y0_4, .int x0_5, .ref y0_6, .int x0_7, .int x0_8, .int x0_9, .int x0_10, .int x0_11, .int x0_12, .int x0_13, .int x0_14, .int x0_15, .int x0_16, .int x0_17, .ref y0_18, .int x0_19, .int x0_20, .ref y0_21, .ref y0_22, .ref y0_23, .ref y0_24, .ref y0_25, .ref y0_26, .int x0_27, .int x0_28, .int x0_29, .int x0_30, .int x0_31, .int x0_32, .ref y0_33, .ref y0_34, .int x0_35, .int x0_36, .int x0_37, .ref y0_38, .ref y0_39, .ref y0_40, .ref y0_41, .ref y0_42, .ref y0_43, .int x0_44, .ref y0_45, .ref y0_46, .ref y0_47, .ref y0_48, .int x0_49, .int x0_50])), (h1, .inl (G.2.1, 121, .inl a1)), (h2, .inl (G.2.1, 2, .inl a2))]
set_option maxHeartbeats 4000000 in
set_option maxRecDepth 100000 in
theorem c_X11_word (l : Launch) (G : GG) (h0 h1 h2 y0_2 y0_3 y0_4 y0_6 y0_18 y0_21 y0_22 y0_23 y0_24 y0_25 y0_26 y0_33 y0_34 y0_38 y0_39 y0_40 y0_41 y0_42 y0_43 y0_45 y0_46 y0_47 y0_48 : Nat) (sz : Nat) (x0_5 : Int32) (x0_7 : Int32) (x0_8 : Int32) (x0_9 : Int32) (x0_10 : Int32) (x0_11 : Int32) (x0_12 : Int32) (x0_13 : Int32) (x0_14 : Int32) (x0_15 : Int32) (x0_16 : Int32) (x0_17 : Int32) (x0_19 : Int32) (x0_20 : Int32) (x0_27 : Int32) (x0_28 : Int32) (x0_29 : Int32) (x0_30 : Int32) (x0_31 : Int32) (x0_32 : Int32) (x0_35 : Int32) (x0_36 : Int32) (x0_37 : Int32) (x0_44 : Int32) (x0_49 : Int32) (x0_50 : Int32) (a1 : Nat → Int32) (a2 : Nat → Int32) (F : Nat) (b1 : Int32) (b2 : Int32)  (r0 : Int32) (hf : p_X11_word F x0_5 a1 a2 b1 b2 = some r0) : Met l yX11_word (.code yX11_word cX11_word 3 (some .int) :: gtbl) ({ frames := 3, cells := 0, slots := 0, locals := 66 } : Room) (PcS G [.ref h0, .int b1, .int b2] (wW_X11_word G h0 h1 h2 y0_2 y0_3 y0_4 y0_6 y0_18 y0_21 y0_22 y0_23 y0_24 y0_25 y0_26 y0_33 y0_34 y0_38 y0_39 y0_40 y0_41 y0_42 y0_43 y0_45 y0_46 y0_47 y0_48 x0_5 x0_7 x0_8 x0_9 x0_10 x0_11 x0_12 x0_13 x0_14 x0_15 x0_16 x0_17 x0_19 x0_20 x0_27 x0_28 x0_29 x0_30 x0_31 x0_32 x0_35 x0_36 x0_37 x0_44 x0_49 x0_50 a1 a2) sz) (QiS G r0 (va_A (wW_X11_word G h0 h1 h2 y0_2 y0_3 y0_4 y0_6 y0_18 y0_21 y0_22 y0_23 y0_24 y0_25 y0_26 y0_33 y0_34 y0_38 y0_39 y0_40 y0_41 y0_42 y0_43 y0_45 y0_46 y0_47 y0_48 x0_5 x0_7 x0_8 x0_9 x0_10 x0_11 x0_12 x0_13 x0_14 x0_15 x0_16 x0_17 x0_19 x0_20 x0_27 x0_28 x0_29 x0_30 x0_31 x0_32 x0_35 x0_36 x0_37 x0_44 x0_49 x0_50 a1 a2) sz) (wW_X11_word G h0 h1 h2 y0_2 y0_3 y0_4 y0_6 y0_18 y0_21 y0_22 y0_23 y0_24 y0_25 y0_26 y0_33 y0_34 y0_38 y0_39 y0_40 y0_41 y0_42 y0_43 y0_45 y0_46 y0_47 y0_48 x0_5 x0_7 x0_8 x0_9 x0_10 x0_11 x0_12 x0_13 x0_14 x0_15 x0_16 x0_17 x0_19 x0_20 x0_27 x0_28 x0_29 x0_30 x0_31 x0_32 x0_35 x0_36 x0_37 x0_44 x0_49 x0_50 a1 a2)) 0 0 (va_A (wW_X11_word G h0 h1 h2 y0_2 y0_3 y0_4 y0_6 y0_18 y0_21 y0_22 y0_23 y0_24 y0_25 y0_26 y0_33 y0_34 y0_38 y0_39 y0_40 y0_41 y0_42 y0_43 y0_45 y0_46 y0_47 y0_48 x0_5 x0_7 x0_8 x0_9 x0_10 x0_11 x0_12 x0_13 x0_14 x0_15 x0_16 x0_17 x0_19 x0_20 x0_27 x0_28 x0_29 x0_30 x0_31 x0_32 x0_35 x0_36 x0_37 x0_44 x0_49 x0_50 a1 a2) sz) := by
  refine met_start (by decide) (Nat.le_of_ble_eq_true rfl) ?_
  intro p e s m below meth c hC hr hlk hnm hK hP hD hA hS hX ls hl
  obtain ⟨hx, hb, hml, hown, ht0⟩ := hC
  have hown : s.vm.findClass RX11 = some m.cls := hown
  generalize va_A (wW_X11_word G h0 h1 h2 y0_2 y0_3 y0_4 y0_6 y0_18 y0_21 y0_22 y0_23 y0_24 y0_25 y0_26 y0_33 y0_34 y0_38 y0_39 y0_40 y0_41 y0_42 y0_43 y0_45 y0_46 y0_47 y0_48 x0_5 x0_7 x0_8 x0_9 x0_10 x0_11 x0_12 x0_13 x0_14 x0_15 x0_16 x0_17 x0_19 x0_20 x0_27 x0_28 x0_29 x0_30 x0_31 x0_32 x0_35 x0_36 x0_37 x0_44 x0_49 x0_50 a1 a2) sz = A at hD hA hS hX ⊢
  have hl : lv_has ls 3 [(0, .ref h0), (1, .int b1), (2, .int b2)] := hl
  have hf : p_X11_word F x0_5 a1 a2 b1 b2 = some r0 := hf
  refine lv_iload_n hx hb dX11_word_0 rfl (lv_at hl 1 rfl) ?_
  obtain ⟨r_1_0, hc_r_1_0, hf⟩ := of_bnd hf
  refine cl_Si (w2 := (wW_X11_word G h0 h1 h2 y0_2 y0_3 y0_4 y0_6 y0_18 y0_21 y0_22 y0_23 y0_24 y0_25 y0_26 y0_33 y0_34 y0_38 y0_39 y0_40 y0_41 y0_42 y0_43 y0_45 y0_46 y0_47 y0_48 x0_5 x0_7 x0_8 x0_9 x0_10 x0_11 x0_12 x0_13 x0_14 x0_15 x0_16 x0_17 x0_19 x0_20 x0_27 x0_28 x0_29 x0_30 x0_31 x0_32 x0_35 x0_36 x0_37 x0_44 x0_49 x0_50 a1 a2)) (As := [.int b1]) (rest := []) ⟨hx, hb, hml, hown, ht0⟩ (c_X11_isWordAt l G _ F b1 _ hc_r_1_0) yk_X11_isWordAt wd_1588 ⟨rfl, rfl, by decide, by decide⟩ ⟨Nat.le_refl _, Nat.le_refl _⟩ hX hK hP hD hS hA [] [0, 1, 2] [0, 1, 2] rfl rfl (by decide) rfl rfl rfl rfl rfl hl.1 rfl (Nat.le_of_ble_eq_true rfl) dX11_word_1 (fun H locs hP hD hS => ?_)
  refine lv_if_ne (tgt := 9) hx hb dX11_word_4 (by decide) (fun c2 => ?_) (fun c2 => ?_)
  · have hf := of_neg hf c2
    refine lv_iload_n hx hb dX11_word_9 rfl (lv_at hl 2 rfl) ?_
    by_cases c3 : b2 = (0 : Int32)
    · have hf := of_pos hf c3
      refine lv_tableIn (off := 34) (tgt := 44) hx hb dX11_word_10 (by rw [c3]; decide) (by rw [c3]; decide) (by rw [c3]; rfl) (by decide) ?_
      refine lv_aload_n hx hb dX11_word_44 rfl (lv_at hl 0 rfl) ?_
      refine va_get (ci := 11) (v := .ref h1) (C := RX11) (T := TX11) (N := 51) hx hb ht0 iX11 hown hK hP 0 rfl rfl 0 (by decide) (ht0 _ wd_1406) (fun _ h9 => h9) rfl dX11_word_45 ?_
      refine lv_bipush (v := (33 : Int32)) hx hb dX11_word_48 (by decide) ?_
      refine lv_iload_n hx hb dX11_word_50 rfl (lv_at hl 1 rfl) ?_
      refine lv_iadd hx hb dX11_word_51 ?_
      obtain ⟨g4, hf⟩ := of_grd hf
      refine va_iald hx hb hK hP 1 0 rfl rfl g4 dX11_word_52 ?_
      cases hf
      exact ret_i hx hb hr hlk hK hP hD hS dX11_word_53
    have hf := of_neg hf c3
    by_cases c5 : b2 = (1 : Int32)
    · have hf := of_pos hf c5
      refine lv_tableIn (off := 44) (tgt := 54) hx hb dX11_word_10 (by rw [c5]; decide) (by rw [c5]; decide) (by rw [c5]; rfl) (by decide) ?_
      refine lv_aload_n hx hb dX11_word_54 rfl (lv_at hl 0 rfl) ?_
      refine va_get (ci := 11) (v := .ref h1) (C := RX11) (T := TX11) (N := 51) hx hb ht0 iX11 hown hK hP 0 rfl rfl 0 (by decide) (ht0 _ wd_1406) (fun _ h9 => h9) rfl dX11_word_55 ?_
      refine lv_bipush (v := (49 : Int32)) hx hb dX11_word_58 (by decide) ?_
      refine lv_iload_n hx hb dX11_word_60 rfl (lv_at hl 1 rfl) ?_
      refine lv_iadd hx hb dX11_word_61 ?_
      obtain ⟨g6, hf⟩ := of_grd hf
      refine va_iald hx hb hK hP 1 0 rfl rfl g6 dX11_word_62 ?_
      cases hf
      exact ret_i hx hb hr hlk hK hP hD hS dX11_word_63
    have hf := of_neg hf c5
    by_cases c7 : b2 = (2 : Int32)
    · have hf := of_pos hf c7
      refine lv_tableIn (off := 54) (tgt := 64) hx hb dX11_word_10 (by rw [c7]; decide) (by rw [c7]; decide) (by rw [c7]; rfl) (by decide) ?_
      refine lv_aload_n hx hb dX11_word_64 rfl (lv_at hl 0 rfl) ?_
      refine lv_aload_n hx hb dX11_word_65 rfl (lv_at hl 0 rfl) ?_
      refine va_get (ci := 11) (v := .ref h1) (C := RX11) (T := TX11) (N := 51) hx hb ht0 iX11 hown hK hP 0 rfl rfl 0 (by decide) (ht0 _ wd_1406) (fun _ h9 => h9) rfl dX11_word_66 ?_
      refine lv_bipush (v := (33 : Int32)) hx hb dX11_word_69 (by decide) ?_
      refine lv_iload_n hx hb dX11_word_71 rfl (lv_at hl 1 rfl) ?_
      refine lv_iadd hx hb dX11_word_72 ?_
      obtain ⟨g8, hf⟩ := of_grd hf
      refine va_iald hx hb hK hP 1 0 rfl rfl g8 dX11_word_73 ?_
      refine lv_aload_n hx hb dX11_word_74 rfl (lv_at hl 0 rfl) ?_
      refine va_get (ci := 11) (v := .ref h1) (C := RX11) (T := TX11) (N := 51) hx hb ht0 iX11 hown hK hP 0 rfl rfl 0 (by decide) (ht0 _ wd_1406) (fun _ h9 => h9) rfl dX11_word_75 ?_
      refine lv_bipush (v := (49 : Int32)) hx hb dX11_word_78 (by decide) ?_
      refine lv_iload_n hx hb dX11_word_80 rfl (lv_at hl 1 rfl) ?_
      refine lv_iadd hx hb dX11_word_81 ?_
      obtain ⟨g9, hf⟩ := of_grd hf
      refine va_iald hx hb hK hP 1 0 rfl rfl g9 dX11_word_82 ?_
      obtain ⟨r_83_9, hc_r_83_9, hf⟩ := of_bnd hf
      refine cl_Vi (w2 := (wW_X11_word G h0 h1 h2 y0_2 y0_3 y0_4 y0_6 y0_18 y0_21 y0_22 y0_23 y0_24 y0_25 y0_26 y0_33 y0_34 y0_38 y0_39 y0_40 y0_41 y0_42 y0_43 y0_45 y0_46 y0_47 y0_48 x0_5 x0_7 x0_8 x0_9 x0_10 x0_11 x0_12 x0_13 x0_14 x0_15 x0_16 x0_17 x0_19 x0_20 x0_27 x0_28 x0_29 x0_30 x0_31 x0_32 x0_35 x0_36 x0_37 x0_44 x0_49 x0_50 a1 a2)) (As := [.int (a1 ((33 : Int32) + b1).toNatClampNeg), .int (a1 ((49 : Int32) + b1).toNatClampNeg)]) (rest := []) ⟨hx, hb, hml, hown, ht0⟩ (c_X11_syndromeOf l G h0 h1 h2 y0_2 y0_3 y0_4 y0_6 y0_18 y0_21 y0_22 y0_23 y0_24 y0_25 y0_26 y0_33 y0_34 y0_38 y0_39 y0_40 y0_41 y0_42 y0_43 y0_45 y0_46 y0_47 y0_48 _ x0_5 x0_7 x0_8 x0_9 x0_10 x0_11 x0_12 x0_13 x0_14 x0_15 x0_16 x0_17 x0_19 x0_20 x0_27 x0_28 x0_29 x0_30 x0_31 x0_32 x0_35 x0_36 x0_37 x0_44 x0_49 x0_50 a1 a2 F (a1 ((33 : Int32) + b1).toNatClampNeg) (a1 ((49 : Int32) + b1).toNatClampNeg) _ hc_r_83_9) yk_X11_syndromeOf wd_1635 ⟨rfl, rfl, by decide, by decide⟩ ⟨Nat.le_refl _, Nat.le_refl _⟩ hX hK hP hD hS hA [0, 1, 2] [] [0, 1, 2] (va_recv hK hP (ci := 11) (q0 := 0) rfl rfl) rfl rfl (by decide) rfl rfl rfl rfl rfl hl.1 rfl (Nat.le_of_ble_eq_true rfl) dX11_word_83 (fun H locs hP hD hS => ?_)
      cases hf
      exact ret_i hx hb hr hlk hK hP hD hS dX11_word_86
    have hf := of_neg hf c7
    by_cases c11 : b2 = (3 : Int32)
    · have hf := of_pos hf c11
      refine lv_tableIn (off := 77) (tgt := 87) hx hb dX11_word_10 (by rw [c11]; decide) (by rw [c11]; decide) (by rw [c11]; rfl) (by decide) ?_
      refine lv_aload_n hx hb dX11_word_87 rfl (lv_at hl 0 rfl) ?_
      refine va_get (ci := 11) (v := .ref h1) (C := RX11) (T := TX11) (N := 51) hx hb ht0 iX11 hown hK hP 0 rfl rfl 0 (by decide) (ht0 _ wd_1406) (fun _ h9 => h9) rfl dX11_word_88 ?_
      refine lv_bipush (v := (65 : Int32)) hx hb dX11_word_91 (by decide) ?_
      refine lv_iload_n hx hb dX11_word_93 rfl (lv_at hl 1 rfl) ?_
      refine lv_iadd hx hb dX11_word_94 ?_
      obtain ⟨g12, hf⟩ := of_grd hf
      refine va_iald hx hb hK hP 1 0 rfl rfl g12 dX11_word_95 ?_
      cases hf
      exact ret_i hx hb hr hlk hK hP hD hS dX11_word_96
    have hf := of_neg hf c11
    by_cases c13 : b2 = (4 : Int32)
    · have hf := of_pos hf c13
      refine lv_tableIn (off := 87) (tgt := 97) hx hb dX11_word_10 (by rw [c13]; decide) (by rw [c13]; decide) (by rw [c13]; rfl) (by decide) ?_
      refine lv_aload_n hx hb dX11_word_97 rfl (lv_at hl 0 rfl) ?_
      refine va_get (ci := 11) (v := .ref h1) (C := RX11) (T := TX11) (N := 51) hx hb ht0 iX11 hown hK hP 0 rfl rfl 0 (by decide) (ht0 _ wd_1406) (fun _ h9 => h9) rfl dX11_word_98 ?_
      refine lv_bipush (v := (33 : Int32)) hx hb dX11_word_101 (by decide) ?_
      refine lv_iload_n hx hb dX11_word_103 rfl (lv_at hl 1 rfl) ?_
      refine lv_iadd hx hb dX11_word_104 ?_
      obtain ⟨g14, hf⟩ := of_grd hf
      refine va_iald hx hb hK hP 1 0 rfl rfl g14 dX11_word_105 ?_
      refine lv_aload_n hx hb dX11_word_106 rfl (lv_at hl 0 rfl) ?_
      refine va_get (ci := 11) (v := .ref h1) (C := RX11) (T := TX11) (N := 51) hx hb ht0 iX11 hown hK hP 0 rfl rfl 0 (by decide) (ht0 _ wd_1406) (fun _ h9 => h9) rfl dX11_word_107 ?_
      refine lv_bipush (v := (65 : Int32)) hx hb dX11_word_110 (by decide) ?_
      refine lv_iload_n hx hb dX11_word_112 rfl (lv_at hl 1 rfl) ?_
      refine lv_iadd hx hb dX11_word_113 ?_
      obtain ⟨g15, hf⟩ := of_grd hf
      refine va_iald hx hb hK hP 1 0 rfl rfl g15 dX11_word_114 ?_
      refine lv_ixor hx hb dX11_word_115 ?_
      obtain ⟨r_116_15, hc_r_116_15, hf⟩ := of_bnd hf
      refine cl_Si (w2 := (wW_X11_word G h0 h1 h2 y0_2 y0_3 y0_4 y0_6 y0_18 y0_21 y0_22 y0_23 y0_24 y0_25 y0_26 y0_33 y0_34 y0_38 y0_39 y0_40 y0_41 y0_42 y0_43 y0_45 y0_46 y0_47 y0_48 x0_5 x0_7 x0_8 x0_9 x0_10 x0_11 x0_12 x0_13 x0_14 x0_15 x0_16 x0_17 x0_19 x0_20 x0_27 x0_28 x0_29 x0_30 x0_31 x0_32 x0_35 x0_36 x0_37 x0_44 x0_49 x0_50 a1 a2)) (As := [.int ((a1 ((33 : Int32) + b1).toNatClampNeg) ^^^ (a1 ((65 : Int32) + b1).toNatClampNeg))]) (rest := []) ⟨hx, hb, hml, hown, ht0⟩ (c_X11_ones l G _ F ((a1 ((33 : Int32) + b1).toNatClampNeg) ^^^ (a1 ((65 : Int32) + b1).toNatClampNeg)) _ hc_r_116_15) yk_X11_ones wd_1344 ⟨rfl, rfl, by decide, by decide⟩ ⟨Nat.le_refl _, Nat.le_refl _⟩ hX hK hP hD hS hA [] [0, 1, 2] [0, 1, 2] rfl rfl (by decide) rfl rfl rfl rfl rfl hl.1 rfl (Nat.le_of_ble_eq_true rfl) dX11_word_116 (fun H locs hP hD hS => ?_)
      refine lv_aload_n hx hb dX11_word_119 rfl (lv_at hl 0 rfl) ?_
      refine va_get (ci := 11) (v := .ref h1) (C := RX11) (T := TX11) (N := 51) hx hb ht0 iX11 hown hK hP 0 rfl rfl 0 (by decide) (ht0 _ wd_1406) (fun _ h9 => h9) rfl dX11_word_120 ?_
      refine lv_bipush (v := (49 : Int32)) hx hb dX11_word_123 (by decide) ?_
      refine lv_iload_n hx hb dX11_word_125 rfl (lv_at hl 1 rfl) ?_
      refine lv_iadd hx hb dX11_word_126 ?_
      obtain ⟨g17, hf⟩ := of_grd hf
      refine va_iald hx hb hK hP 1 0 rfl rfl g17 dX11_word_127 ?_
      refine lv_aload_n hx hb dX11_word_128 rfl (lv_at hl 0 rfl) ?_
      refine lv_aload_n hx hb dX11_word_129 rfl (lv_at hl 0 rfl) ?_
      refine va_get (ci := 11) (v := .ref h1) (C := RX11) (T := TX11) (N := 51) hx hb ht0 iX11 hown hK hP 0 rfl rfl 0 (by decide) (ht0 _ wd_1406) (fun _ h9 => h9) rfl dX11_word_130 ?_
      refine lv_bipush (v := (65 : Int32)) hx hb dX11_word_133 (by decide) ?_
      refine lv_iload_n hx hb dX11_word_135 rfl (lv_at hl 1 rfl) ?_
      refine lv_iadd hx hb dX11_word_136 ?_
      obtain ⟨g18, hf⟩ := of_grd hf
      refine va_iald hx hb hK hP 1 0 rfl rfl g18 dX11_word_137 ?_
      obtain ⟨r_138_18, hc_r_138_18, hf⟩ := of_bnd hf
      refine cl_Vi (w2 := (wW_X11_word G h0 h1 h2 y0_2 y0_3 y0_4 y0_6 y0_18 y0_21 y0_22 y0_23 y0_24 y0_25 y0_26 y0_33 y0_34 y0_38 y0_39 y0_40 y0_41 y0_42 y0_43 y0_45 y0_46 y0_47 y0_48 x0_5 x0_7 x0_8 x0_9 x0_10 x0_11 x0_12 x0_13 x0_14 x0_15 x0_16 x0_17 x0_19 x0_20 x0_27 x0_28 x0_29 x0_30 x0_31 x0_32 x0_35 x0_36 x0_37 x0_44 x0_49 x0_50 a1 a2)) (As := [.int (a1 ((65 : Int32) + b1).toNatClampNeg)]) (rest := [.int (a1 ((49 : Int32) + b1).toNatClampNeg), .int r_116_15]) ⟨hx, hb, hml, hown, ht0⟩ (c_X11_checksOf l G h0 h1 h2 y0_2 y0_3 y0_4 y0_6 y0_18 y0_21 y0_22 y0_23 y0_24 y0_25 y0_26 y0_33 y0_34 y0_38 y0_39 y0_40 y0_41 y0_42 y0_43 y0_45 y0_46 y0_47 y0_48 _ x0_5 x0_7 x0_8 x0_9 x0_10 x0_11 x0_12 x0_13 x0_14 x0_15 x0_16 x0_17 x0_19 x0_20 x0_27 x0_28 x0_29 x0_30 x0_31 x0_32 x0_35 x0_36 x0_37 x0_44 x0_49 x0_50 a1 a2 F (a1 ((65 : Int32) + b1).toNatClampNeg) _ hc_r_138_18) yk_X11_checksOf wd_1394 ⟨rfl, rfl, by decide, by decide⟩ ⟨Nat.le_refl _, Nat.le_refl _⟩ hX hK hP hD hS hA [0, 1, 2] [] [0, 1, 2] (va_recv hK hP (ci := 11) (q0 := 0) rfl rfl) rfl rfl (by decide) rfl rfl rfl rfl rfl hl.1 rfl (Nat.le_of_ble_eq_true rfl) dX11_word_138 (fun H locs hP hD hS => ?_)
      refine lv_ixor hx hb dX11_word_141 ?_
      obtain ⟨r_142_19, hc_r_142_19, hf⟩ := of_bnd hf
      refine cl_Si (w2 := (wW_X11_word G h0 h1 h2 y0_2 y0_3 y0_4 y0_6 y0_18 y0_21 y0_22 y0_23 y0_24 y0_25 y0_26 y0_33 y0_34 y0_38 y0_39 y0_40 y0_41 y0_42 y0_43 y0_45 y0_46 y0_47 y0_48 x0_5 x0_7 x0_8 x0_9 x0_10 x0_11 x0_12 x0_13 x0_14 x0_15 x0_16 x0_17 x0_19 x0_20 x0_27 x0_28 x0_29 x0_30 x0_31 x0_32 x0_35 x0_36 x0_37 x0_44 x0_49 x0_50 a1 a2)) (As := [.int ((a1 ((49 : Int32) + b1).toNatClampNeg) ^^^ r_138_18)]) (rest := [.int r_116_15]) ⟨hx, hb, hml, hown, ht0⟩ (c_X11_ones l G _ F ((a1 ((49 : Int32) + b1).toNatClampNeg) ^^^ r_138_18) _ hc_r_142_19) yk_X11_ones wd_1344 ⟨rfl, rfl, by decide, by decide⟩ ⟨Nat.le_refl _, Nat.le_refl _⟩ hX hK hP hD hS hA [] [0, 1, 2] [0, 1, 2] rfl rfl (by decide) rfl rfl rfl rfl rfl hl.1 rfl (Nat.le_of_ble_eq_true rfl) dX11_word_142 (fun H locs hP hD hS => ?_)
      refine lv_iadd hx hb dX11_word_145 ?_
      cases hf
      exact ret_i hx hb hr hlk hK hP hD hS dX11_word_146
    have hf := of_neg hf c13
    refine lv_tableOut (tgt := 147) hx hb dX11_word_10 (by have n0 := lv_neT (a := 0) c3 rfl; have n1 := lv_neT (a := 1) c5 rfl; have n2 := lv_neT (a := 2) c7 rfl; have n3 := lv_neT (a := 3) c11 rfl; have n4 := lv_neT (a := 4) c13 rfl; omega) (by decide) ?_
    refine lv_iconst (v := (-1 : Int32)) hx hb dX11_word_147 (by decide) ?_
    cases hf
    exact ret_i hx hb hr hlk hK hP hD hS dX11_word_148
  · have hf := of_pos hf c2
    refine lv_iconst (v := (-1 : Int32)) hx hb dX11_word_7 (by decide) ?_
    cases hf
    exact ret_i hx hb hr hlk hK hP hD hS dX11_word_8
theorem yk_X11_word : ykV yX11_word RX11 cX11_word 3 (some .int) 2 := ⟨wd_1806, wd_1807, wd_142, wd_1808, rfl, by decide +kernel, by decide +kernel, by decide +kernel⟩
theorem dX11_reading_0 : decode cX11_reading 0 = .ok (.iload_n 1, 1) := by decide +kernel
theorem dX11_reading_1 : decode cX11_reading 1 = .ok (.invokestatic 350, 3) := by decide +kernel
theorem dX11_reading_4 : decode cX11_reading 4 = .ok (.ifCond .eq 12, 3) := by decide +kernel
theorem dX11_reading_7 : decode cX11_reading 7 = .ok (.iload_n 2, 1) := by decide +kernel
theorem dX11_reading_8 : decode cX11_reading 8 = .ok (.iconst 0, 1) := by decide +kernel
theorem dX11_reading_9 : decode cX11_reading 9 = .ok (.iconst 3, 1) := by decide +kernel
theorem dX11_reading_10 : decode cX11_reading 10 = .ok (.invokestatic 163, 3) := by decide +kernel
theorem dX11_reading_13 : decode cX11_reading 13 = .ok (.ifCond .ne 5, 3) := by decide +kernel
theorem dX11_reading_16 : decode cX11_reading 16 = .ok (.iconst (-1), 1) := by decide +kernel
theorem dX11_reading_17 : decode cX11_reading 17 = .ok (.ireturn, 1) := by decide +kernel
theorem dX11_reading_18 : decode cX11_reading 18 = .ok (.aload_n 0, 1) := by decide +kernel
theorem dX11_reading_19 : decode cX11_reading 19 = .ok (.iload_n 1, 1) := by decide +kernel
theorem dX11_reading_20 : decode cX11_reading 20 = .ok (.invokevirtual 329, 3) := by decide +kernel
theorem dX11_reading_23 : decode cX11_reading 23 = .ok (.iload_n 2, 1) := by decide +kernel
theorem dX11_reading_24 : decode cX11_reading 24 = .ok (.iconst 2, 1) := by decide +kernel
theorem dX11_reading_25 : decode cX11_reading 25 = .ok (.if_icmp .ge 19, 3) := by decide +kernel
theorem dX11_reading_28 : decode cX11_reading 28 = .ok (.iload_n 2, 1) := by decide +kernel
theorem dX11_reading_29 : decode cX11_reading 29 = .ok (.ifCond .ne 10, 3) := by decide +kernel
theorem dX11_reading_32 : decode cX11_reading 32 = .ok (.aload_n 0, 1) := by decide +kernel
theorem dX11_reading_33 : decode cX11_reading 33 = .ok (.getfield 296, 3) := by decide +kernel
theorem dX11_reading_36 : decode cX11_reading 36 = .ok (.goto 7, 3) := by decide +kernel
theorem dX11_reading_39 : decode cX11_reading 39 = .ok (.aload_n 0, 1) := by decide +kernel
theorem dX11_reading_40 : decode cX11_reading 40 = .ok (.getfield 299, 3) := by decide +kernel
theorem dX11_reading_43 : decode cX11_reading 43 = .ok (.ireturn, 1) := by decide +kernel
theorem dX11_reading_44 : decode cX11_reading 44 = .ok (.aload_n 0, 1) := by decide +kernel
theorem dX11_reading_45 : decode cX11_reading 45 = .ok (.invokevirtual 323, 3) := by decide +kernel
theorem dX11_reading_48 : decode cX11_reading 48 = .ok (.ifCond .eq 5, 3) := by decide +kernel
theorem dX11_reading_51 : decode cX11_reading 51 = .ok (.iconst (-1), 1) := by decide +kernel
theorem dX11_reading_52 : decode cX11_reading 52 = .ok (.ireturn, 1) := by decide +kernel
theorem dX11_reading_53 : decode cX11_reading 53 = .ok (.iload_n 2, 1) := by decide +kernel
theorem dX11_reading_54 : decode cX11_reading 54 = .ok (.iconst 2, 1) := by decide +kernel
theorem dX11_reading_55 : decode cX11_reading 55 = .ok (.if_icmp .ne 10, 3) := by decide +kernel
theorem dX11_reading_58 : decode cX11_reading 58 = .ok (.aload_n 0, 1) := by decide +kernel
theorem dX11_reading_59 : decode cX11_reading 59 = .ok (.getfield 290, 3) := by decide +kernel
theorem dX11_reading_62 : decode cX11_reading 62 = .ok (.goto 16, 3) := by decide +kernel
theorem dX11_reading_65 : decode cX11_reading 65 = .ok (.aload_n 0, 1) := by decide +kernel
theorem dX11_reading_66 : decode cX11_reading 66 = .ok (.iload_n 1, 1) := by decide +kernel
theorem dX11_reading_67 : decode cX11_reading 67 = .ok (.invokevirtual 326, 3) := by decide +kernel
theorem dX11_reading_70 : decode cX11_reading 70 = .ok (.ifCond .eq 7, 3) := by decide +kernel
theorem dX11_reading_73 : decode cX11_reading 73 = .ok (.iconst 1, 1) := by decide +kernel
theorem dX11_reading_74 : decode cX11_reading 74 = .ok (.goto 4, 3) := by decide +kernel
theorem dX11_reading_77 : decode cX11_reading 77 = .ok (.iconst 0, 1) := by decide +kernel
theorem dX11_reading_78 : decode cX11_reading 78 = .ok (.ireturn, 1) := by decide +kernel
def wW_X11_reading (G : GG) (h0 h1 h2 h3 y0_3 y0_4 y0_6 y0_18 y0_21 y0_22 y0_23 y0_24 y0_25 y0_26 y0_33 y0_34 y0_38 y0_39 y0_40 y0_41 y0_42 y0_43 y0_45 y0_46 y0_47 y0_48 : Nat) (x0_5 : Int32) (x0_7 : Int32) (x0_8 : Int32) (x0_9 : Int32) (x0_10 : Int32) (x0_11 : Int32) (x0_12 : Int32) (x0_13 : Int32) (x0_14 : Int32) (x0_15 : Int32) (x0_16 : Int32) (x0_17 : Int32) (x0_19 : Int32) (x0_20 : Int32) (x0_27 : Int32) (x0_28 : Int32) (x0_29 : Int32) (x0_30 : Int32) (x0_31 : Int32) (x0_32 : Int32) (x0_35 : Int32) (x0_36 : Int32) (x0_37 : Int32) (x0_44 : Int32) (x0_49 : Int32) (x0_50 : Int32) (a1 : Nat → Int32) (a2 : Nat → Int32) (a3 : Nat → Int32) : va_W := [(h0, .inr (11, [.ref h1, .ref h2, .ref h3, .ref y0_3, .ref y0_4, .int x0_5, .ref y0_6, .int x0_7, .int x0_8, .int x0_9, .int x0_10, .int x0_11, .int x0_12, .int x0_13, .int x0_14, .int x0_15, .int x0_16, .int x0_17, .ref y0_18, .int x0_19, .int x0_20, .ref y0_21, .ref y0_22, .ref y0_23, .ref y0_24, .ref y0_25, .ref y0_26, .int x0_27, .int x0_28, .int x0_29, .int x0_30, .int x0_31, .int x0_32, .ref y0_33, .ref y0_34, .int x0_35, .int x0_36, .int x0_37, .ref y0_38, .ref y0_39, .ref y0_40, .ref y0_41, .ref y0_42, .ref y0_43, .int x0_44, .ref y0_45, .ref y0_46, .ref y0_47, .ref y0_48, .int x0_49, .int x0_50])), (h1, .inl (G.2.1, 121, .inl a1)), (h2, .inl (G.2.1, 2, .inl a2)), (h3, .inl (G.2.1, 2, .inl a3))]
set_option maxHeartbeats 4000000 in
set_option maxRecDepth 100000 in
theorem c_X11_reading (l : Launch) (G : GG) (h0 h1 h2 h3 y0_3 y0_4 y0_6 y0_18 y0_21 y0_22 y0_23 y0_24 y0_25 y0_26 y0_33 y0_34 y0_38 y0_39 y0_40 y0_41 y0_42 y0_43 y0_45 y0_46 y0_47 y0_48 : Nat) (sz : Nat) (x0_5 : Int32) (x0_7 : Int32) (x0_8 : Int32) (x0_9 : Int32) (x0_10 : Int32) (x0_11 : Int32) (x0_12 : Int32) (x0_13 : Int32) (x0_14 : Int32) (x0_15 : Int32) (x0_16 : Int32) (x0_17 : Int32) (x0_19 : Int32) (x0_20 : Int32) (x0_27 : Int32) (x0_28 : Int32) (x0_29 : Int32) (x0_30 : Int32) (x0_31 : Int32) (x0_32 : Int32) (x0_35 : Int32) (x0_36 : Int32) (x0_37 : Int32) (x0_44 : Int32) (x0_49 : Int32) (x0_50 : Int32) (a1 : Nat → Int32) (a2 : Nat → Int32) (a3 : Nat → Int32) (F : Nat) (b1 : Int32) (b2 : Int32)  (r0 : Int32) (e_x0_29 : Int32) (e_x0_30 : Int32) (e_x0_31 : Int32) (e_x0_32 : Int32) (hf : p_X11_reading F x0_5 x0_29 x0_30 x0_31 x0_32 a1 a2 a3 b1 b2 = some (r0, e_x0_29, e_x0_30, e_x0_31, e_x0_32)) : Met l yX11_reading (.code yX11_reading cX11_reading 3 (some .int) :: gtbl) ({ frames := 7, cells := 0, slots := 0, locals := 163 } : Room) (PcS G [.ref h0, .int b1, .int b2] (wW_X11_reading G h0 h1 h2 h3 y0_3 y0_4 y0_6 y0_18 y0_21 y0_22 y0_23 y0_24 y0_25 y0_26 y0_33 y0_34 y0_38 y0_39 y0_40 y0_41 y0_42 y0_43 y0_45 y0_46 y0_47 y0_48 x0_5 x0_7 x0_8 x0_9 x0_10 x0_11 x0_12 x0_13 x0_14 x0_15 x0_16 x0_17 x0_19 x0_20 x0_27 x0_28 x0_29 x0_30 x0_31 x0_32 x0_35 x0_36 x0_37 x0_44 x0_49 x0_50 a1 a2 a3) sz) (QiS G r0 (va_A (wW_X11_reading G h0 h1 h2 h3 y0_3 y0_4 y0_6 y0_18 y0_21 y0_22 y0_23 y0_24 y0_25 y0_26 y0_33 y0_34 y0_38 y0_39 y0_40 y0_41 y0_42 y0_43 y0_45 y0_46 y0_47 y0_48 x0_5 x0_7 x0_8 x0_9 x0_10 x0_11 x0_12 x0_13 x0_14 x0_15 x0_16 x0_17 x0_19 x0_20 x0_27 x0_28 x0_29 x0_30 x0_31 x0_32 x0_35 x0_36 x0_37 x0_44 x0_49 x0_50 a1 a2 a3) sz) (wW_X11_reading G h0 h1 h2 h3 y0_3 y0_4 y0_6 y0_18 y0_21 y0_22 y0_23 y0_24 y0_25 y0_26 y0_33 y0_34 y0_38 y0_39 y0_40 y0_41 y0_42 y0_43 y0_45 y0_46 y0_47 y0_48 x0_5 x0_7 x0_8 x0_9 x0_10 x0_11 x0_12 x0_13 x0_14 x0_15 x0_16 x0_17 x0_19 x0_20 x0_27 x0_28 e_x0_29 e_x0_30 e_x0_31 e_x0_32 x0_35 x0_36 x0_37 x0_44 x0_49 x0_50 a1 a2 a3)) 0 0 (va_A (wW_X11_reading G h0 h1 h2 h3 y0_3 y0_4 y0_6 y0_18 y0_21 y0_22 y0_23 y0_24 y0_25 y0_26 y0_33 y0_34 y0_38 y0_39 y0_40 y0_41 y0_42 y0_43 y0_45 y0_46 y0_47 y0_48 x0_5 x0_7 x0_8 x0_9 x0_10 x0_11 x0_12 x0_13 x0_14 x0_15 x0_16 x0_17 x0_19 x0_20 x0_27 x0_28 x0_29 x0_30 x0_31 x0_32 x0_35 x0_36 x0_37 x0_44 x0_49 x0_50 a1 a2 a3) sz) := by
  refine met_start (by decide) (Nat.le_of_ble_eq_true rfl) ?_
  intro p e s m below meth c hC hr hlk hnm hK hP hD hA hS hX ls hl
  obtain ⟨hx, hb, hml, hown, ht0⟩ := hC
  have hown : s.vm.findClass RX11 = some m.cls := hown
  generalize va_A (wW_X11_reading G h0 h1 h2 h3 y0_3 y0_4 y0_6 y0_18 y0_21 y0_22 y0_23 y0_24 y0_25 y0_26 y0_33 y0_34 y0_38 y0_39 y0_40 y0_41 y0_42 y0_43 y0_45 y0_46 y0_47 y0_48 x0_5 x0_7 x0_8 x0_9 x0_10 x0_11 x0_12 x0_13 x0_14 x0_15 x0_16 x0_17 x0_19 x0_20 x0_27 x0_28 x0_29 x0_30 x0_31 x0_32 x0_35 x0_36 x0_37 x0_44 x0_49 x0_50 a1 a2 a3) sz = A at hD hA hS hX ⊢
  have hl : lv_has ls 3 [(0, .ref h0), (1, .int b1), (2, .int b2)] := hl
  have hf : p_X11_reading F x0_5 x0_29 x0_30 x0_31 x0_32 a1 a2 a3 b1 b2 = some (r0, e_x0_29, e_x0_30, e_x0_31, e_x0_32) := hf
  refine lv_iload_n hx hb dX11_reading_0 rfl (lv_at hl 1 rfl) ?_
  obtain ⟨r_1_0, hc_r_1_0, hf⟩ := of_bnd hf
  refine cl_Si (w2 := (wW_X11_reading G h0 h1 h2 h3 y0_3 y0_4 y0_6 y0_18 y0_21 y0_22 y0_23 y0_24 y0_25 y0_26 y0_33 y0_34 y0_38 y0_39 y0_40 y0_41 y0_42 y0_43 y0_45 y0_46 y0_47 y0_48 x0_5 x0_7 x0_8 x0_9 x0_10 x0_11 x0_12 x0_13 x0_14 x0_15 x0_16 x0_17 x0_19 x0_20 x0_27 x0_28 x0_29 x0_30 x0_31 x0_32 x0_35 x0_36 x0_37 x0_44 x0_49 x0_50 a1 a2 a3)) (As := [.int b1]) (rest := []) ⟨hx, hb, hml, hown, ht0⟩ (c_X11_isWordAt l G _ F b1 _ hc_r_1_0) yk_X11_isWordAt wd_1588 ⟨rfl, rfl, by decide, by decide⟩ ⟨Nat.le_refl _, Nat.le_refl _⟩ hX hK hP hD hS hA [] [0, 1, 2, 3] [0, 1, 2, 3] rfl rfl (by decide) rfl rfl rfl rfl rfl hl.1 rfl (Nat.le_of_ble_eq_true rfl) dX11_reading_1 (fun H locs hP hD hS => ?_)
  refine lv_if_eq (tgt := 16) hx hb dX11_reading_4 (by decide) (fun c2 => ?_) (fun c2 => ?_)
  · have hf := of_pos hf c2
    refine lv_iconst (v := (-1 : Int32)) hx hb dX11_reading_16 (by decide) ?_
    cases hf
    exact ret_i hx hb hr hlk hK hP hD hS dX11_reading_17
  · have hf := of_neg hf c2
    refine lv_iload_n hx hb dX11_reading_7 rfl (lv_at hl 2 rfl) ?_
    refine lv_iconst (v := (0 : Int32)) hx hb dX11_reading_8 (by decide) ?_
    refine lv_iconst (v := (3 : Int32)) hx hb dX11_reading_9 (by decide) ?_
    obtain ⟨r_10_2, hc_r_10_2, hf⟩ := of_bnd hf
    refine cl_Si (w2 := (wW_X11_reading G h0 h1 h2 h3 y0_3 y0_4 y0_6 y0_18 y0_21 y0_22 y0_23 y0_24 y0_25 y0_26 y0_33 y0_34 y0_38 y0_39 y0_40 y0_41 y0_42 y0_43 y0_45 y0_46 y0_47 y0_48 x0_5 x0_7 x0_8 x0_9 x0_10 x0_11 x0_12 x0_13 x0_14 x0_15 x0_16 x0_17 x0_19 x0_20 x0_27 x0_28 x0_29 x0_30 x0_31 x0_32 x0_35 x0_36 x0_37 x0_44 x0_49 x0_50 a1 a2 a3)) (As := [.int b2, .int (0 : Int32), .int (3 : Int32)]) (rest := []) ⟨hx, hb, hml, hown, ht0⟩ (c_X11_isIn l G _ F b2 (0 : Int32) (3 : Int32) _ hc_r_10_2) yk_X11_isIn wd_1321 ⟨rfl, rfl, by decide, by decide⟩ ⟨Nat.le_refl _, Nat.le_refl _⟩ hX hK hP hD hS hA [] [0, 1, 2, 3] [0, 1, 2, 3] rfl rfl (by decide) rfl rfl rfl rfl rfl hl.1 rfl (Nat.le_of_ble_eq_true rfl) dX11_reading_10 (fun H locs hP hD hS => ?_)
    refine lv_if_ne (tgt := 18) hx hb dX11_reading_13 (by decide) (fun c4 => ?_) (fun c4 => ?_)
    · have hf := of_neg hf c4
      refine lv_aload_n hx hb dX11_reading_18 rfl (lv_at hl 0 rfl) ?_
      refine lv_iload_n hx hb dX11_reading_19 rfl (lv_at hl 1 rfl) ?_
      obtain ⟨⟨r_20_4_x0_29, r_20_4_x0_30, r_20_4_x0_31, r_20_4_x0_32⟩, hc_r_20_4, hf⟩ := of_bnd hf
      refine cl_Vv (w2 := (wW_X11_reading G h0 h1 h2 h3 y0_3 y0_4 y0_6 y0_18 y0_21 y0_22 y0_23 y0_24 y0_25 y0_26 y0_33 y0_34 y0_38 y0_39 y0_40 y0_41 y0_42 y0_43 y0_45 y0_46 y0_47 y0_48 x0_5 x0_7 x0_8 x0_9 x0_10 x0_11 x0_12 x0_13 x0_14 x0_15 x0_16 x0_17 x0_19 x0_20 x0_27 x0_28 r_20_4_x0_29 r_20_4_x0_30 r_20_4_x0_31 r_20_4_x0_32 x0_35 x0_36 x0_37 x0_44 x0_49 x0_50 a1 a2 a3)) (As := [.int b1]) (rest := []) ⟨hx, hb, hml, hown, ht0⟩ (c_X11_readWordNow l G h0 h1 h2 h3 y0_3 y0_4 y0_6 y0_18 y0_21 y0_22 y0_23 y0_24 y0_25 y0_26 y0_33 y0_34 y0_38 y0_39 y0_40 y0_41 y0_42 y0_43 y0_45 y0_46 y0_47 y0_48 _ x0_5 x0_7 x0_8 x0_9 x0_10 x0_11 x0_12 x0_13 x0_14 x0_15 x0_16 x0_17 x0_19 x0_20 x0_27 x0_28 x0_29 x0_30 x0_31 x0_32 x0_35 x0_36 x0_37 x0_44 x0_49 x0_50 a1 a2 a3 F b1 _ _ _ _ hc_r_20_4) yk_X11_readWordNow wd_1627 ⟨rfl, rfl, by decide, by decide⟩ ⟨Nat.le_refl _, Nat.le_refl _⟩ hX hK hP hD hS hA [0, 1, 2, 3] [] [0, 1, 2, 3] (va_recv hK hP (ci := 11) (q0 := 0) rfl rfl) rfl rfl (by decide) rfl rfl rfl rfl rfl hl.1 rfl (Nat.le_of_ble_eq_true rfl) dX11_reading_20 (fun H locs hP hD hS => ?_)
      refine lv_iload_n hx hb dX11_reading_23 rfl (lv_at hl 2 rfl) ?_
      refine lv_iconst (v := (2 : Int32)) hx hb dX11_reading_24 (by decide) ?_
      refine lv_icmp_ge (tgt := 44) hx hb dX11_reading_25 (by decide) (fun c6 => ?_) (fun c6 => ?_)
      · have hf := of_pos hf c6
        refine lv_aload_n hx hb dX11_reading_44 rfl (lv_at hl 0 rfl) ?_
        obtain ⟨r_45_6, hc_r_45_6, hf⟩ := of_bnd hf
        refine cl_Vi (w2 := (wW_X11_reading G h0 h1 h2 h3 y0_3 y0_4 y0_6 y0_18 y0_21 y0_22 y0_23 y0_24 y0_25 y0_26 y0_33 y0_34 y0_38 y0_39 y0_40 y0_41 y0_42 y0_43 y0_45 y0_46 y0_47 y0_48 x0_5 x0_7 x0_8 x0_9 x0_10 x0_11 x0_12 x0_13 x0_14 x0_15 x0_16 x0_17 x0_19 x0_20 x0_27 x0_28 r_20_4_x0_29 r_20_4_x0_30 r_20_4_x0_31 r_20_4_x0_32 x0_35 x0_36 x0_37 x0_44 x0_49 x0_50 a1 a2 a3)) (As := []) (rest := []) ⟨hx, hb, hml, hown, ht0⟩ (c_X11_isTold l G h0 h1 h2 h3 y0_3 y0_4 y0_6 y0_18 y0_21 y0_22 y0_23 y0_24 y0_25 y0_26 y0_33 y0_34 y0_38 y0_39 y0_40 y0_41 y0_42 y0_43 y0_45 y0_46 y0_47 y0_48 _ x0_5 x0_7 x0_8 x0_9 x0_10 x0_11 x0_12 x0_13 x0_14 x0_15 x0_16 x0_17 x0_19 x0_20 x0_27 x0_28 r_20_4_x0_29 r_20_4_x0_30 r_20_4_x0_31 r_20_4_x0_32 x0_35 x0_36 x0_37 x0_44 x0_49 x0_50 F _ hc_r_45_6) yk_X11_isTold wd_1659 ⟨rfl, rfl, by decide, by decide⟩ ⟨Nat.le_refl _, Nat.le_refl _⟩ hX hK hP hD hS hA [0] [1, 2, 3] [3, 0, 1, 2] (va_recv hK hP (ci := 11) (q0 := 0) rfl rfl) rfl rfl (by decide) rfl rfl rfl rfl rfl hl.1 rfl (Nat.le_of_ble_eq_true rfl) dX11_reading_45 (fun H locs hP hD hS => ?_)
        refine lv_if_eq (tgt := 53) hx hb dX11_reading_48 (by decide) (fun c8 => ?_) (fun c8 => ?_)
        · have hf := of_pos hf c8
          refine lv_iload_n hx hb dX11_reading_53 rfl (lv_at hl 2 rfl) ?_
          refine lv_iconst (v := (2 : Int32)) hx hb dX11_reading_54 (by decide) ?_
          refine lv_icmp_ne (tgt := 65) hx hb dX11_reading_55 (by decide) (fun c9 => ?_) (fun c9 => ?_)
          · have hf := of_neg hf c9
            refine lv_aload_n hx hb dX11_reading_65 rfl (lv_at hl 0 rfl) ?_
            refine lv_iload_n hx hb dX11_reading_66 rfl (lv_at hl 1 rfl) ?_
            obtain ⟨r_67_9, hc_r_67_9, hf⟩ := of_bnd hf
            refine cl_Vi (w2 := (wW_X11_reading G h0 h1 h2 h3 y0_3 y0_4 y0_6 y0_18 y0_21 y0_22 y0_23 y0_24 y0_25 y0_26 y0_33 y0_34 y0_38 y0_39 y0_40 y0_41 y0_42 y0_43 y0_45 y0_46 y0_47 y0_48 x0_5 x0_7 x0_8 x0_9 x0_10 x0_11 x0_12 x0_13 x0_14 x0_15 x0_16 x0_17 x0_19 x0_20 x0_27 x0_28 r_20_4_x0_29 r_20_4_x0_30 r_20_4_x0_31 r_20_4_x0_32 x0_35 x0_36 x0_37 x0_44 x0_49 x0_50 a1 a2 a3)) (As := [.int b1]) (rest := []) ⟨hx, hb, hml, hown, ht0⟩ (c_X11_isRight l G h0 h1 h2 h3 y0_3 y0_4 y0_6 y0_18 y0_21 y0_22 y0_23 y0_24 y0_25 y0_26 y0_33 y0_34 y0_38 y0_39 y0_40 y0_41 y0_42 y0_43 y0_45 y0_46 y0_47 y0_48 _ x0_5 x0_7 x0_8 x0_9 x0_10 x0_11 x0_12 x0_13 x0_14 x0_15 x0_16 x0_17 x0_19 x0_20 x0_27 x0_28 r_20_4_x0_29 r_20_4_x0_30 r_20_4_x0_31 r_20_4_x0_32 x0_35 x0_36 x0_37 x0_44 x0_49 x0_50 a1 a2 F b1 _ hc_r_67_9) yk_X11_isRight wd_1667 ⟨rfl, rfl, by decide, by decide⟩ ⟨Nat.le_refl _, Nat.le_refl _⟩ hX hK hP hD hS hA [0, 1, 2] [3] [1, 2, 3, 0] (va_recv hK hP (ci := 11) (q0 := 0) rfl rfl) rfl rfl (by decide) rfl rfl rfl rfl rfl hl.1 rfl (Nat.le_of_ble_eq_true rfl) dX11_reading_67 (fun H locs hP hD hS => ?_)
            refine lv_if_eq (tgt := 77) hx hb dX11_reading_70 (by decide) (fun c11 => ?_) (fun c11 => ?_)
            · have hf := of_pos hf c11
              refine lv_iconst (v := (0 : Int32)) hx hb dX11_reading_77 (by decide) ?_
              cases hf
              exact ret_i hx hb hr hlk hK hP hD hS dX11_reading_78
            · have hf := of_neg hf c11
              refine lv_iconst (v := (1 : Int32)) hx hb dX11_reading_73 (by decide) ?_
              refine lv_goto (tgt := 78) hx hb dX11_reading_74 (by decide) ?_
              cases hf
              exact ret_i hx hb hr hlk hK hP hD hS dX11_reading_78
          · have hf := of_pos hf c9
            refine lv_aload_n hx hb dX11_reading_58 rfl (lv_at hl 0 rfl) ?_
            refine va_get (ci := 11) (v := .int r_20_4_x0_31) (C := RX11) (T := TX11) (N := 51) hx hb ht0 iX11 hown hK hP 0 rfl rfl 31 (by decide) (ht0 _ wd_1437) (fun _ h9 => h9) rfl dX11_reading_59 ?_
            refine lv_goto (tgt := 78) hx hb dX11_reading_62 (by decide) ?_
            cases hf
            exact ret_i hx hb hr hlk hK hP hD hS dX11_reading_78
        · have hf := of_neg hf c8
          refine lv_iconst (v := (-1 : Int32)) hx hb dX11_reading_51 (by decide) ?_
          cases hf
          exact ret_i hx hb hr hlk hK hP hD hS dX11_reading_52
      · have hf := of_neg hf c6
        refine lv_iload_n hx hb dX11_reading_28 rfl (lv_at hl 2 rfl) ?_
        refine lv_if_ne (tgt := 39) hx hb dX11_reading_29 (by decide) (fun c12 => ?_) (fun c12 => ?_)
        · have hf := of_neg hf c12
          refine lv_aload_n hx hb dX11_reading_39 rfl (lv_at hl 0 rfl) ?_
          refine va_get (ci := 11) (v := .int r_20_4_x0_30) (C := RX11) (T := TX11) (N := 51) hx hb ht0 iX11 hown hK hP 0 rfl rfl 30 (by decide) (ht0 _ wd_1436) (fun _ h9 => h9) rfl dX11_reading_40 ?_
          cases hf
          exact ret_i hx hb hr hlk hK hP hD hS dX11_reading_43
        · have hf := of_pos hf c12
          refine lv_aload_n hx hb dX11_reading_32 rfl (lv_at hl 0 rfl) ?_
          refine va_get (ci := 11) (v := .int r_20_4_x0_29) (C := RX11) (T := TX11) (N := 51) hx hb ht0 iX11 hown hK hP 0 rfl rfl 29 (by decide) (ht0 _ wd_1435) (fun _ h9 => h9) rfl dX11_reading_33 ?_
          refine lv_goto (tgt := 43) hx hb dX11_reading_36 (by decide) ?_
          cases hf
          exact ret_i hx hb hr hlk hK hP hD hS dX11_reading_43
    · have hf := of_pos hf c4
      refine lv_iconst (v := (-1 : Int32)) hx hb dX11_reading_16 (by decide) ?_
      cases hf
      exact ret_i hx hb hr hlk hK hP hD hS dX11_reading_17
theorem yk_X11_reading : ykV yX11_reading RX11 cX11_reading 3 (some .int) 2 := ⟨wd_1810, wd_1811, wd_142, wd_1812, rfl, by decide +kernel, by decide +kernel, by decide +kernel⟩
theorem dX11_stuck_0 : decode cX11_stuck 0 = .ok (.iload_n 1, 1) := by decide +kernel
theorem dX11_stuck_1 : decode cX11_stuck 1 = .ok (.invokestatic 350, 3) := by decide +kernel
theorem dX11_stuck_4 : decode cX11_stuck 4 = .ok (.ifCond .eq 18, 3) := by decide +kernel
theorem dX11_stuck_7 : decode cX11_stuck 7 = .ok (.iload_n 2, 1) := by decide +kernel
theorem dX11_stuck_8 : decode cX11_stuck 8 = .ok (.iconst 0, 1) := by decide +kernel
theorem dX11_stuck_9 : decode cX11_stuck 9 = .ok (.aload_n 0, 1) := by decide +kernel
theorem dX11_stuck_10 : decode cX11_stuck 10 = .ok (.iload_n 1, 1) := by decide +kernel
theorem dX11_stuck_11 : decode cX11_stuck 11 = .ok (.invokevirtual 372, 3) := by decide +kernel
theorem dX11_stuck_14 : decode cX11_stuck 14 = .ok (.iconst 1, 1) := by decide +kernel
theorem dX11_stuck_15 : decode cX11_stuck 15 = .ok (.isub, 1) := by decide +kernel
theorem dX11_stuck_16 : decode cX11_stuck 16 = .ok (.invokestatic 163, 3) := by decide +kernel
theorem dX11_stuck_19 : decode cX11_stuck 19 = .ok (.ifCond .ne 5, 3) := by decide +kernel
theorem dX11_stuck_22 : decode cX11_stuck 22 = .ok (.iconst (-1), 1) := by decide +kernel
theorem dX11_stuck_23 : decode cX11_stuck 23 = .ok (.ireturn, 1) := by decide +kernel
theorem dX11_stuck_24 : decode cX11_stuck 24 = .ok (.aload_n 0, 1) := by decide +kernel
theorem dX11_stuck_25 : decode cX11_stuck 25 = .ok (.iload_n 1, 1) := by decide +kernel
theorem dX11_stuck_26 : decode cX11_stuck 26 = .ok (.iconst 0, 1) := by decide +kernel
theorem dX11_stuck_27 : decode cX11_stuck 27 = .ok (.invokevirtual 278, 3) := by decide +kernel
theorem dX11_stuck_30 : decode cX11_stuck 30 = .ok (.istore_n 3, 1) := by decide +kernel
theorem dX11_stuck_31 : decode cX11_stuck 31 = .ok (.aload_n 0, 1) := by decide +kernel
theorem dX11_stuck_32 : decode cX11_stuck 32 = .ok (.iload_n 1, 1) := by decide +kernel
theorem dX11_stuck_33 : decode cX11_stuck 33 = .ok (.iconst 1, 1) := by decide +kernel
theorem dX11_stuck_34 : decode cX11_stuck 34 = .ok (.invokevirtual 278, 3) := by decide +kernel
theorem dX11_stuck_37 : decode cX11_stuck 37 = .ok (.istore 4, 2) := by decide +kernel
theorem dX11_stuck_39 : decode cX11_stuck 39 = .ok (.iload 4, 2) := by decide +kernel
theorem dX11_stuck_41 : decode cX11_stuck 41 = .ok (.ifCond .ge 5, 3) := by decide +kernel
theorem dX11_stuck_44 : decode cX11_stuck 44 = .ok (.iload_n 3, 1) := by decide +kernel
theorem dX11_stuck_45 : decode cX11_stuck 45 = .ok (.ireturn, 1) := by decide +kernel
theorem dX11_stuck_46 : decode cX11_stuck 46 = .ok (.iload_n 2, 1) := by decide +kernel
theorem dX11_stuck_47 : decode cX11_stuck 47 = .ok (.ifCond .ne 12, 3) := by decide +kernel
theorem dX11_stuck_50 : decode cX11_stuck 50 = .ok (.iload_n 3, 1) := by decide +kernel
theorem dX11_stuck_51 : decode cX11_stuck 51 = .ok (.iload 4, 2) := by decide +kernel
theorem dX11_stuck_53 : decode cX11_stuck 53 = .ok (.invokestatic 402, 3) := by decide +kernel
theorem dX11_stuck_56 : decode cX11_stuck 56 = .ok (.goto 9, 3) := by decide +kernel
theorem dX11_stuck_59 : decode cX11_stuck 59 = .ok (.iload_n 3, 1) := by decide +kernel
theorem dX11_stuck_60 : decode cX11_stuck 60 = .ok (.iload 4, 2) := by decide +kernel
theorem dX11_stuck_62 : decode cX11_stuck 62 = .ok (.invokestatic 252, 3) := by decide +kernel
theorem dX11_stuck_65 : decode cX11_stuck 65 = .ok (.ireturn, 1) := by decide +kernel
def wW_X11_stuck (G : GG) (h0 h1 y0_1 y0_2 y0_3 y0_4 y0_6 y0_18 y0_21 y0_22 y0_23 y0_24 y0_25 y0_26 y0_33 y0_34 y0_38 y0_39 y0_40 y0_41 y0_42 y0_43 y0_45 y0_46 y0_47 y0_48 : Nat) (x0_5 : Int32) (x0_7 : Int32) (x0_8 : Int32) (x0_9 : Int32) (x0_10 : Int32) (x0_11 : Int32) (x0_12 : Int32) (x0_13 : Int32) (x0_14 : Int32) (x0_15 : Int32) (x0_16 : Int32) (x0_17 : Int32) (x0_19 : Int32) (x0_20 : Int32) (x0_27 : Int32) (x0_28 : Int32) (x0_29 : Int32) (x0_30 : Int32) (x0_31 : Int32) (x0_32 : Int32) (x0_35 : Int32) (x0_36 : Int32) (x0_37 : Int32) (x0_44 : Int32) (x0_49 : Int32) (x0_50 : Int32) (a1 : Nat → Int32) : va_W := [(h0, .inr (11, [.ref h1, .ref y0_1, .ref y0_2, .ref y0_3, .ref y0_4, .int x0_5, .ref y0_6, .int x0_7, .int x0_8, .int x0_9, .int x0_10, .int x0_11, .int x0_12, .int x0_13, .int x0_14, .int x0_15, .int x0_16, .int x0_17, .ref y0_18, .int x0_19, .int x0_20, .ref y0_21, .ref y0_22, .ref y0_23, .ref y0_24, .ref y0_25, .ref y0_26, .int x0_27, .int x0_28, .int x0_29, .int x0_30, .int x0_31, .int x0_32, .ref y0_33, .ref y0_34, .int x0_35, .int x0_36, .int x0_37, .ref y0_38, .ref y0_39, .ref y0_40, .ref y0_41, .ref y0_42, .ref y0_43, .int x0_44, .ref y0_45, .ref y0_46, .ref y0_47, .ref y0_48, .int x0_49, .int x0_50])), (h1, .inl (G.2.1, 121, .inl a1))]
set_option maxHeartbeats 4000000 in
set_option maxRecDepth 100000 in
theorem c_X11_stuck (l : Launch) (G : GG) (h0 h1 y0_1 y0_2 y0_3 y0_4 y0_6 y0_18 y0_21 y0_22 y0_23 y0_24 y0_25 y0_26 y0_33 y0_34 y0_38 y0_39 y0_40 y0_41 y0_42 y0_43 y0_45 y0_46 y0_47 y0_48 : Nat) (sz : Nat) (x0_5 : Int32) (x0_7 : Int32) (x0_8 : Int32) (x0_9 : Int32) (x0_10 : Int32) (x0_11 : Int32) (x0_12 : Int32) (x0_13 : Int32) (x0_14 : Int32) (x0_15 : Int32) (x0_16 : Int32) (x0_17 : Int32) (x0_19 : Int32) (x0_20 : Int32) (x0_27 : Int32) (x0_28 : Int32) (x0_29 : Int32) (x0_30 : Int32) (x0_31 : Int32) (x0_32 : Int32) (x0_35 : Int32) (x0_36 : Int32) (x0_37 : Int32) (x0_44 : Int32) (x0_49 : Int32) (x0_50 : Int32) (a1 : Nat → Int32) (F : Nat) (b1 : Int32) (b2 : Int32)  (r0 : Int32) (hf : p_X11_stuck F a1 b1 b2 = some r0) : Met l yX11_stuck (.code yX11_stuck cX11_stuck 5 (some .int) :: gtbl) ({ frames := 2, cells := 0, slots := 0, locals := 43 } : Room) (PcS G [.ref h0, .int b1, .int b2] (wW_X11_stuck G h0 h1 y0_1 y0_2 y0_3 y0_4 y0_6 y0_18 y0_21 y0_22 y0_23 y0_24 y0_25 y0_26 y0_33 y0_34 y0_38 y0_39 y0_40 y0_41 y0_42 y0_43 y0_45 y0_46 y0_47 y0_48 x0_5 x0_7 x0_8 x0_9 x0_10 x0_11 x0_12 x0_13 x0_14 x0_15 x0_16 x0_17 x0_19 x0_20 x0_27 x0_28 x0_29 x0_30 x0_31 x0_32 x0_35 x0_36 x0_37 x0_44 x0_49 x0_50 a1) sz) (QiS G r0 (va_A (wW_X11_stuck G h0 h1 y0_1 y0_2 y0_3 y0_4 y0_6 y0_18 y0_21 y0_22 y0_23 y0_24 y0_25 y0_26 y0_33 y0_34 y0_38 y0_39 y0_40 y0_41 y0_42 y0_43 y0_45 y0_46 y0_47 y0_48 x0_5 x0_7 x0_8 x0_9 x0_10 x0_11 x0_12 x0_13 x0_14 x0_15 x0_16 x0_17 x0_19 x0_20 x0_27 x0_28 x0_29 x0_30 x0_31 x0_32 x0_35 x0_36 x0_37 x0_44 x0_49 x0_50 a1) sz) (wW_X11_stuck G h0 h1 y0_1 y0_2 y0_3 y0_4 y0_6 y0_18 y0_21 y0_22 y0_23 y0_24 y0_25 y0_26 y0_33 y0_34 y0_38 y0_39 y0_40 y0_41 y0_42 y0_43 y0_45 y0_46 y0_47 y0_48 x0_5 x0_7 x0_8 x0_9 x0_10 x0_11 x0_12 x0_13 x0_14 x0_15 x0_16 x0_17 x0_19 x0_20 x0_27 x0_28 x0_29 x0_30 x0_31 x0_32 x0_35 x0_36 x0_37 x0_44 x0_49 x0_50 a1)) 0 0 (va_A (wW_X11_stuck G h0 h1 y0_1 y0_2 y0_3 y0_4 y0_6 y0_18 y0_21 y0_22 y0_23 y0_24 y0_25 y0_26 y0_33 y0_34 y0_38 y0_39 y0_40 y0_41 y0_42 y0_43 y0_45 y0_46 y0_47 y0_48 x0_5 x0_7 x0_8 x0_9 x0_10 x0_11 x0_12 x0_13 x0_14 x0_15 x0_16 x0_17 x0_19 x0_20 x0_27 x0_28 x0_29 x0_30 x0_31 x0_32 x0_35 x0_36 x0_37 x0_44 x0_49 x0_50 a1) sz) := by
  refine met_start (by decide) (Nat.le_of_ble_eq_true rfl) ?_
  intro p e s m below meth c hC hr hlk hnm hK hP hD hA hS hX ls hl
  obtain ⟨hx, hb, hml, hown, ht0⟩ := hC
  have hown : s.vm.findClass RX11 = some m.cls := hown
  generalize va_A (wW_X11_stuck G h0 h1 y0_1 y0_2 y0_3 y0_4 y0_6 y0_18 y0_21 y0_22 y0_23 y0_24 y0_25 y0_26 y0_33 y0_34 y0_38 y0_39 y0_40 y0_41 y0_42 y0_43 y0_45 y0_46 y0_47 y0_48 x0_5 x0_7 x0_8 x0_9 x0_10 x0_11 x0_12 x0_13 x0_14 x0_15 x0_16 x0_17 x0_19 x0_20 x0_27 x0_28 x0_29 x0_30 x0_31 x0_32 x0_35 x0_36 x0_37 x0_44 x0_49 x0_50 a1) sz = A at hD hA hS hX ⊢
  have hl : lv_has ls 5 [(0, .ref h0), (1, .int b1), (2, .int b2)] := hl
  have hf : p_X11_stuck F a1 b1 b2 = some r0 := hf
  refine lv_iload_n hx hb dX11_stuck_0 rfl (lv_at hl 1 rfl) ?_
  obtain ⟨r_1_0, hc_r_1_0, hf⟩ := of_bnd hf
  refine cl_Si (w2 := (wW_X11_stuck G h0 h1 y0_1 y0_2 y0_3 y0_4 y0_6 y0_18 y0_21 y0_22 y0_23 y0_24 y0_25 y0_26 y0_33 y0_34 y0_38 y0_39 y0_40 y0_41 y0_42 y0_43 y0_45 y0_46 y0_47 y0_48 x0_5 x0_7 x0_8 x0_9 x0_10 x0_11 x0_12 x0_13 x0_14 x0_15 x0_16 x0_17 x0_19 x0_20 x0_27 x0_28 x0_29 x0_30 x0_31 x0_32 x0_35 x0_36 x0_37 x0_44 x0_49 x0_50 a1)) (As := [.int b1]) (rest := []) ⟨hx, hb, hml, hown, ht0⟩ (c_X11_isWordAt l G _ F b1 _ hc_r_1_0) yk_X11_isWordAt wd_1588 ⟨rfl, rfl, by decide, by decide⟩ ⟨Nat.le_refl _, Nat.le_refl _⟩ hX hK hP hD hS hA [] [0, 1] [0, 1] rfl rfl (by decide) rfl rfl rfl rfl rfl hl.1 rfl (Nat.le_of_ble_eq_true rfl) dX11_stuck_1 (fun H locs hP hD hS => ?_)
  refine lv_if_eq (tgt := 22) hx hb dX11_stuck_4 (by decide) (fun c2 => ?_) (fun c2 => ?_)
  · have hf := of_pos hf c2
    refine lv_iconst (v := (-1 : Int32)) hx hb dX11_stuck_22 (by decide) ?_
    cases hf
    exact ret_i hx hb hr hlk hK hP hD hS dX11_stuck_23
  · have hf := of_neg hf c2
    refine lv_iload_n hx hb dX11_stuck_7 rfl (lv_at hl 2 rfl) ?_
    refine lv_iconst (v := (0 : Int32)) hx hb dX11_stuck_8 (by decide) ?_
    refine lv_aload_n hx hb dX11_stuck_9 rfl (lv_at hl 0 rfl) ?_
    refine lv_iload_n hx hb dX11_stuck_10 rfl (lv_at hl 1 rfl) ?_
    obtain ⟨r_11_2, hc_r_11_2, hf⟩ := of_bnd hf
    refine cl_Vi (w2 := (wW_X11_stuck G h0 h1 y0_1 y0_2 y0_3 y0_4 y0_6 y0_18 y0_21 y0_22 y0_23 y0_24 y0_25 y0_26 y0_33 y0_34 y0_38 y0_39 y0_40 y0_41 y0_42 y0_43 y0_45 y0_46 y0_47 y0_48 x0_5 x0_7 x0_8 x0_9 x0_10 x0_11 x0_12 x0_13 x0_14 x0_15 x0_16 x0_17 x0_19 x0_20 x0_27 x0_28 x0_29 x0_30 x0_31 x0_32 x0_35 x0_36 x0_37 x0_44 x0_49 x0_50 a1)) (As := [.int b1]) (rest := [.int (0 : Int32), .int b2]) ⟨hx, hb, hml, hown, ht0⟩ (c_X11_stuckMany l G h0 h1 y0_1 y0_2 y0_3 y0_4 y0_6 y0_18 y0_21 y0_22 y0_23 y0_24 y0_25 y0_26 y0_33 y0_34 y0_38 y0_39 y0_40 y0_41 y0_42 y0_43 y0_45 y0_46 y0_47 y0_48 _ x0_5 x0_7 x0_8 x0_9 x0_10 x0_11 x0_12 x0_13 x0_14 x0_15 x0_16 x0_17 x0_19 x0_20 x0_27 x0_28 x0_29 x0_30 x0_31 x0_32 x0_35 x0_36 x0_37 x0_44 x0_49 x0_50 a1 F b1 _ hc_r_11_2) yk_X11_stuckMany wd_1730 ⟨rfl, rfl, by decide, by decide⟩ ⟨Nat.le_refl _, Nat.le_refl _⟩ hX hK hP hD hS hA [0, 1] [] [0, 1] (va_recv hK hP (ci := 11) (q0 := 0) rfl rfl) rfl rfl (by decide) rfl rfl rfl rfl rfl hl.1 rfl (Nat.le_of_ble_eq_true rfl) dX11_stuck_11 (fun H locs hP hD hS => ?_)
    refine lv_iconst (v := (1 : Int32)) hx hb dX11_stuck_14 (by decide) ?_
    refine lv_isub hx hb dX11_stuck_15 ?_
    obtain ⟨r_16_3, hc_r_16_3, hf⟩ := of_bnd hf
    refine cl_Si (w2 := (wW_X11_stuck G h0 h1 y0_1 y0_2 y0_3 y0_4 y0_6 y0_18 y0_21 y0_22 y0_23 y0_24 y0_25 y0_26 y0_33 y0_34 y0_38 y0_39 y0_40 y0_41 y0_42 y0_43 y0_45 y0_46 y0_47 y0_48 x0_5 x0_7 x0_8 x0_9 x0_10 x0_11 x0_12 x0_13 x0_14 x0_15 x0_16 x0_17 x0_19 x0_20 x0_27 x0_28 x0_29 x0_30 x0_31 x0_32 x0_35 x0_36 x0_37 x0_44 x0_49 x0_50 a1)) (As := [.int b2, .int (0 : Int32), .int (r_11_2 - (1 : Int32))]) (rest := []) ⟨hx, hb, hml, hown, ht0⟩ (c_X11_isIn l G _ F b2 (0 : Int32) (r_11_2 - (1 : Int32)) _ hc_r_16_3) yk_X11_isIn wd_1321 ⟨rfl, rfl, by decide, by decide⟩ ⟨Nat.le_refl _, Nat.le_refl _⟩ hX hK hP hD hS hA [] [0, 1] [0, 1] rfl rfl (by decide) rfl rfl rfl rfl rfl hl.1 rfl (Nat.le_of_ble_eq_true rfl) dX11_stuck_16 (fun H locs hP hD hS => ?_)
    refine lv_if_ne (tgt := 24) hx hb dX11_stuck_19 (by decide) (fun c5 => ?_) (fun c5 => ?_)
    · have hf := of_neg hf c5
      refine lv_aload_n hx hb dX11_stuck_24 rfl (lv_at hl 0 rfl) ?_
      refine lv_iload_n hx hb dX11_stuck_25 rfl (lv_at hl 1 rfl) ?_
      refine lv_iconst (v := (0 : Int32)) hx hb dX11_stuck_26 (by decide) ?_
      obtain ⟨r_27_5, hc_r_27_5, hf⟩ := of_bnd hf
      refine cl_Vi (w2 := (wW_X11_stuck G h0 h1 y0_1 y0_2 y0_3 y0_4 y0_6 y0_18 y0_21 y0_22 y0_23 y0_24 y0_25 y0_26 y0_33 y0_34 y0_38 y0_39 y0_40 y0_41 y0_42 y0_43 y0_45 y0_46 y0_47 y0_48 x0_5 x0_7 x0_8 x0_9 x0_10 x0_11 x0_12 x0_13 x0_14 x0_15 x0_16 x0_17 x0_19 x0_20 x0_27 x0_28 x0_29 x0_30 x0_31 x0_32 x0_35 x0_36 x0_37 x0_44 x0_49 x0_50 a1)) (As := [.int b1, .int (0 : Int32)]) (rest := []) ⟨hx, hb, hml, hown, ht0⟩ (c_X11_stuckAt l G h0 h1 y0_1 y0_2 y0_3 y0_4 y0_6 y0_18 y0_21 y0_22 y0_23 y0_24 y0_25 y0_26 y0_33 y0_34 y0_38 y0_39 y0_40 y0_41 y0_42 y0_43 y0_45 y0_46 y0_47 y0_48 _ x0_5 x0_7 x0_8 x0_9 x0_10 x0_11 x0_12 x0_13 x0_14 x0_15 x0_16 x0_17 x0_19 x0_20 x0_27 x0_28 x0_29 x0_30 x0_31 x0_32 x0_35 x0_36 x0_37 x0_44 x0_49 x0_50 a1 F b1 (0 : Int32) _ hc_r_27_5) yk_X11_stuckAt wd_1607 ⟨rfl, rfl, by decide, by decide⟩ ⟨Nat.le_refl _, Nat.le_refl _⟩ hX hK hP hD hS hA [0, 1] [] [0, 1] (va_recv hK hP (ci := 11) (q0 := 0) rfl rfl) rfl rfl (by decide) rfl rfl rfl rfl rfl hl.1 rfl (Nat.le_of_ble_eq_true rfl) dX11_stuck_27 (fun H locs hP hD hS => ?_)
      refine lv_istore_n (lv' := [(3, .int r_27_5), (0, .ref h0), (1, .int b1), (2, .int b2)]) hx hb dX11_stuck_30 rfl hl (by decide) rfl (fun ls hl => ?_)
      refine lv_aload_n hx hb dX11_stuck_31 rfl (lv_at hl 1 rfl) ?_
      refine lv_iload_n hx hb dX11_stuck_32 rfl (lv_at hl 2 rfl) ?_
      refine lv_iconst (v := (1 : Int32)) hx hb dX11_stuck_33 (by decide) ?_
      obtain ⟨r_34_6, hc_r_34_6, hf⟩ := of_bnd hf
      refine cl_Vi (w2 := (wW_X11_stuck G h0 h1 y0_1 y0_2 y0_3 y0_4 y0_6 y0_18 y0_21 y0_22 y0_23 y0_24 y0_25 y0_26 y0_33 y0_34 y0_38 y0_39 y0_40 y0_41 y0_42 y0_43 y0_45 y0_46 y0_47 y0_48 x0_5 x0_7 x0_8 x0_9 x0_10 x0_11 x0_12 x0_13 x0_14 x0_15 x0_16 x0_17 x0_19 x0_20 x0_27 x0_28 x0_29 x0_30 x0_31 x0_32 x0_35 x0_36 x0_37 x0_44 x0_49 x0_50 a1)) (As := [.int b1, .int (1 : Int32)]) (rest := []) ⟨hx, hb, hml, hown, ht0⟩ (c_X11_stuckAt l G h0 h1 y0_1 y0_2 y0_3 y0_4 y0_6 y0_18 y0_21 y0_22 y0_23 y0_24 y0_25 y0_26 y0_33 y0_34 y0_38 y0_39 y0_40 y0_41 y0_42 y0_43 y0_45 y0_46 y0_47 y0_48 _ x0_5 x0_7 x0_8 x0_9 x0_10 x0_11 x0_12 x0_13 x0_14 x0_15 x0_16 x0_17 x0_19 x0_20 x0_27 x0_28 x0_29 x0_30 x0_31 x0_32 x0_35 x0_36 x0_37 x0_44 x0_49 x0_50 a1 F b1 (1 : Int32) _ hc_r_34_6) yk_X11_stuckAt wd_1607 ⟨rfl, rfl, by decide, by decide⟩ ⟨Nat.le_refl _, Nat.le_refl _⟩ hX hK hP hD hS hA [0, 1] [] [0, 1] (va_recv hK hP (ci := 11) (q0 := 0) rfl rfl) rfl rfl (by decide) rfl rfl rfl rfl rfl hl.1 rfl (Nat.le_of_ble_eq_true rfl) dX11_stuck_34 (fun H locs hP hD hS => ?_)
      refine lv_istore (lv' := [(4, .int r_34_6), (3, .int r_27_5), (0, .ref h0), (1, .int b1), (2, .int b2)]) hx hb dX11_stuck_37 hl (by decide) rfl (fun ls hl => ?_)
      refine lv_iload hx hb dX11_stuck_39 (lv_at hl 0 rfl) ?_
      refine lv_if_ge (tgt := 46) hx hb dX11_stuck_41 (by decide) (fun c8 => ?_) (fun c8 => ?_)
      · have hf := of_pos hf c8
        refine lv_iload_n hx hb dX11_stuck_46 rfl (lv_at hl 4 rfl) ?_
        refine lv_if_ne (tgt := 59) hx hb dX11_stuck_47 (by decide) (fun c9 => ?_) (fun c9 => ?_)
        · have hf := of_neg hf c9
          refine lv_iload_n hx hb dX11_stuck_59 rfl (lv_at hl 1 rfl) ?_
          refine lv_iload hx hb dX11_stuck_60 (lv_at hl 0 rfl) ?_
          obtain ⟨r_62_9, hc_r_62_9, hf⟩ := of_bnd hf
          refine cl_Si (w2 := (wW_X11_stuck G h0 h1 y0_1 y0_2 y0_3 y0_4 y0_6 y0_18 y0_21 y0_22 y0_23 y0_24 y0_25 y0_26 y0_33 y0_34 y0_38 y0_39 y0_40 y0_41 y0_42 y0_43 y0_45 y0_46 y0_47 y0_48 x0_5 x0_7 x0_8 x0_9 x0_10 x0_11 x0_12 x0_13 x0_14 x0_15 x0_16 x0_17 x0_19 x0_20 x0_27 x0_28 x0_29 x0_30 x0_31 x0_32 x0_35 x0_36 x0_37 x0_44 x0_49 x0_50 a1)) (As := [.int r_27_5, .int r_34_6]) (rest := []) ⟨hx, hb, hml, hown, ht0⟩ (c_X11_more l G _ F r_27_5 r_34_6 _ hc_r_62_9) yk_X11_more wd_1372 ⟨rfl, rfl, by decide, by decide⟩ ⟨Nat.le_refl _, Nat.le_refl _⟩ hX hK hP hD hS hA [] [0, 1] [0, 1] rfl rfl (by decide) rfl rfl rfl rfl rfl hl.1 rfl (Nat.le_of_ble_eq_true rfl) dX11_stuck_62 (fun H locs hP hD hS => ?_)
          cases hf
          exact ret_i hx hb hr hlk hK hP hD hS dX11_stuck_65
        · have hf := of_pos hf c9
          refine lv_iload_n hx hb dX11_stuck_50 rfl (lv_at hl 1 rfl) ?_
          refine lv_iload hx hb dX11_stuck_51 (lv_at hl 0 rfl) ?_
          obtain ⟨r_53_10, hc_r_53_10, hf⟩ := of_bnd hf
          refine cl_Si (w2 := (wW_X11_stuck G h0 h1 y0_1 y0_2 y0_3 y0_4 y0_6 y0_18 y0_21 y0_22 y0_23 y0_24 y0_25 y0_26 y0_33 y0_34 y0_38 y0_39 y0_40 y0_41 y0_42 y0_43 y0_45 y0_46 y0_47 y0_48 x0_5 x0_7 x0_8 x0_9 x0_10 x0_11 x0_12 x0_13 x0_14 x0_15 x0_16 x0_17 x0_19 x0_20 x0_27 x0_28 x0_29 x0_30 x0_31 x0_32 x0_35 x0_36 x0_37 x0_44 x0_49 x0_50 a1)) (As := [.int r_27_5, .int r_34_6]) (rest := []) ⟨hx, hb, hml, hown, ht0⟩ (c_X11_less l G _ F r_27_5 r_34_6 _ hc_r_53_10) yk_X11_less wd_1802 ⟨rfl, rfl, by decide, by decide⟩ ⟨Nat.le_refl _, Nat.le_refl _⟩ hX hK hP hD hS hA [] [0, 1] [0, 1] rfl rfl (by decide) rfl rfl rfl rfl rfl hl.1 rfl (Nat.le_of_ble_eq_true rfl) dX11_stuck_53 (fun H locs hP hD hS => ?_)
          refine lv_goto (tgt := 65) hx hb dX11_stuck_56 (by decide) ?_
          cases hf
          exact ret_i hx hb hr hlk hK hP hD hS dX11_stuck_65
      · have hf := of_neg hf c8
        refine lv_iload_n hx hb dX11_stuck_44 rfl (lv_at hl 1 rfl) ?_
        cases hf
        exact ret_i hx hb hr hlk hK hP hD hS dX11_stuck_45
    · have hf := of_pos hf c5
      refine lv_iconst (v := (-1 : Int32)) hx hb dX11_stuck_22 (by decide) ?_
      cases hf
      exact ret_i hx hb hr hlk hK hP hD hS dX11_stuck_23
theorem yk_X11_stuck : ykV yX11_stuck RX11 cX11_stuck 5 (some .int) 2 := ⟨wd_1814, wd_1815, wd_142, wd_1816, rfl, by decide +kernel, by decide +kernel, by decide +kernel⟩
theorem dX11_putAside_0 : decode cX11_putAside 0 = .ok (.iconst 0, 1) := by decide +kernel
theorem dX11_putAside_1 : decode cX11_putAside 1 = .ok (.istore_n 1, 1) := by decide +kernel
theorem dX11_putAside_2 : decode cX11_putAside 2 = .ok (.iload_n 1, 1) := by decide +kernel
theorem dX11_putAside_3 : decode cX11_putAside 3 = .ok (.bipush 121, 2) := by decide +kernel
theorem dX11_putAside_5 : decode cX11_putAside 5 = .ok (.if_icmp .ge 21, 3) := by decide +kernel
theorem dX11_putAside_8 : decode cX11_putAside 8 = .ok (.aload_n 0, 1) := by decide +kernel
theorem dX11_putAside_9 : decode cX11_putAside 9 = .ok (.getfield 79, 3) := by decide +kernel
theorem dX11_putAside_12 : decode cX11_putAside 12 = .ok (.iload_n 1, 1) := by decide +kernel
theorem dX11_putAside_13 : decode cX11_putAside 13 = .ok (.aload_n 0, 1) := by decide +kernel
theorem dX11_putAside_14 : decode cX11_putAside 14 = .ok (.getfield 7, 3) := by decide +kernel
theorem dX11_putAside_17 : decode cX11_putAside 17 = .ok (.iload_n 1, 1) := by decide +kernel
theorem dX11_putAside_18 : decode cX11_putAside 18 = .ok (.iaload, 1) := by decide +kernel
theorem dX11_putAside_19 : decode cX11_putAside 19 = .ok (.iastore, 1) := by decide +kernel
theorem dX11_putAside_20 : decode cX11_putAside 20 = .ok (.iinc 1 1, 3) := by decide +kernel
theorem dX11_putAside_23 : decode cX11_putAside 23 = .ok (.goto (-21), 3) := by decide +kernel
theorem dX11_putAside_26 : decode cX11_putAside 26 = .ok (.return_, 1) := by decide +kernel
def wW_X11_putAside (G : GG) (h0 h1 h2 y0_1 y0_2 y0_3 y0_4 y0_6 y0_18 y0_21 y0_22 y0_23 y0_24 y0_25 y0_26 y0_33 y0_34 y0_38 y0_39 y0_40 y0_41 y0_42 y0_43 y0_46 y0_47 y0_48 : Nat) (x0_5 : Int32) (x0_7 : Int32) (x0_8 : Int32) (x0_9 : Int32) (x0_10 : Int32) (x0_11 : Int32) (x0_12 : Int32) (x0_13 : Int32) (x0_14 : Int32) (x0_15 : Int32) (x0_16 : Int32) (x0_17 : Int32) (x0_19 : Int32) (x0_20 : Int32) (x0_27 : Int32) (x0_28 : Int32) (x0_29 : Int32) (x0_30 : Int32) (x0_31 : Int32) (x0_32 : Int32) (x0_35 : Int32) (x0_36 : Int32) (x0_37 : Int32) (x0_44 : Int32) (x0_49 : Int32) (x0_50 : Int32) (a1 : Nat → Int32) (a2 : Nat → Int32) : va_W := [(h0, .inr (11, [.ref h1, .ref y0_1, .ref y0_2, .ref y0_3, .ref y0_4, .int x0_5, .ref y0_6, .int x0_7, .int x0_8, .int x0_9, .int x0_10, .int x0_11, .int x0_12, .int x0_13, .int x0_14, .int x0_15, .int x0_16, .int x0_17, .ref y0_18, .int x0_19, .int x0_20, .ref y0_21, .ref y0_22, .ref y0_23, .ref y0_24, .ref y0_25, .ref y0_26, .int x0_27, .int x0_28, .int x0_29, .int x0_30, .int x0_31, .int x0_32, .ref y0_33, .ref y0_34, .int x0_35, .int x0_36, .int x0_37, .ref y0_38, .ref y0_39, .ref y0_40, .ref y0_41, .ref y0_42, .ref y0_43, .int x0_44, .ref h2, .ref y0_46, .ref y0_47, .ref y0_48, .int x0_49, .int x0_50])), (h1, .inl (G.2.1, 121, .inl a1)), (h2, .inl (G.2.1, 121, .inl a2))]
set_option maxHeartbeats 4000000 in
set_option maxRecDepth 100000 in
theorem c_X11_putAside (l : Launch) (G : GG) (h0 h1 h2 y0_1 y0_2 y0_3 y0_4 y0_6 y0_18 y0_21 y0_22 y0_23 y0_24 y0_25 y0_26 y0_33 y0_34 y0_38 y0_39 y0_40 y0_41 y0_42 y0_43 y0_46 y0_47 y0_48 : Nat) (sz : Nat) (x0_5 : Int32) (x0_7 : Int32) (x0_8 : Int32) (x0_9 : Int32) (x0_10 : Int32) (x0_11 : Int32) (x0_12 : Int32) (x0_13 : Int32) (x0_14 : Int32) (x0_15 : Int32) (x0_16 : Int32) (x0_17 : Int32) (x0_19 : Int32) (x0_20 : Int32) (x0_27 : Int32) (x0_28 : Int32) (x0_29 : Int32) (x0_30 : Int32) (x0_31 : Int32) (x0_32 : Int32) (x0_35 : Int32) (x0_36 : Int32) (x0_37 : Int32) (x0_44 : Int32) (x0_49 : Int32) (x0_50 : Int32) (a1 : Nat → Int32) (a2 : Nat → Int32) (F : Nat)   (e_a2 : Nat → Int32) (hf : p_X11_putAside F a1 a2  = some e_a2) : Met l yX11_putAside (.code yX11_putAside cX11_putAside 2 none :: gtbl) ({ frames := 0, cells := 0, slots := 0, locals := 0 } : Room) (PcS G [.ref h0] (wW_X11_putAside G h0 h1 h2 y0_1 y0_2 y0_3 y0_4 y0_6 y0_18 y0_21 y0_22 y0_23 y0_24 y0_25 y0_26 y0_33 y0_34 y0_38 y0_39 y0_40 y0_41 y0_42 y0_43 y0_46 y0_47 y0_48 x0_5 x0_7 x0_8 x0_9 x0_10 x0_11 x0_12 x0_13 x0_14 x0_15 x0_16 x0_17 x0_19 x0_20 x0_27 x0_28 x0_29 x0_30 x0_31 x0_32 x0_35 x0_36 x0_37 x0_44 x0_49 x0_50 a1 a2) sz) (QvS G (va_A (wW_X11_putAside G h0 h1 h2 y0_1 y0_2 y0_3 y0_4 y0_6 y0_18 y0_21 y0_22 y0_23 y0_24 y0_25 y0_26 y0_33 y0_34 y0_38 y0_39 y0_40 y0_41 y0_42 y0_43 y0_46 y0_47 y0_48 x0_5 x0_7 x0_8 x0_9 x0_10 x0_11 x0_12 x0_13 x0_14 x0_15 x0_16 x0_17 x0_19 x0_20 x0_27 x0_28 x0_29 x0_30 x0_31 x0_32 x0_35 x0_36 x0_37 x0_44 x0_49 x0_50 a1 a2) sz) (wW_X11_putAside G h0 h1 h2 y0_1 y0_2 y0_3 y0_4 y0_6 y0_18 y0_21 y0_22 y0_23 y0_24 y0_25 y0_26 y0_33 y0_34 y0_38 y0_39 y0_40 y0_41 y0_42 y0_43 y0_46 y0_47 y0_48 x0_5 x0_7 x0_8 x0_9 x0_10 x0_11 x0_12 x0_13 x0_14 x0_15 x0_16 x0_17 x0_19 x0_20 x0_27 x0_28 x0_29 x0_30 x0_31 x0_32 x0_35 x0_36 x0_37 x0_44 x0_49 x0_50 a1 e_a2)) 0 0 (va_A (wW_X11_putAside G h0 h1 h2 y0_1 y0_2 y0_3 y0_4 y0_6 y0_18 y0_21 y0_22 y0_23 y0_24 y0_25 y0_26 y0_33 y0_34 y0_38 y0_39 y0_40 y0_41 y0_42 y0_43 y0_46 y0_47 y0_48 x0_5 x0_7 x0_8 x0_9 x0_10 x0_11 x0_12 x0_13 x0_14 x0_15 x0_16 x0_17 x0_19 x0_20 x0_27 x0_28 x0_29 x0_30 x0_31 x0_32 x0_35 x0_36 x0_37 x0_44 x0_49 x0_50 a1 a2) sz) := by
  refine met_start (by decide) (Nat.le_of_ble_eq_true rfl) ?_
  intro p e s m below meth c hC hr hlk hnm hK hP hD hA hS hX ls hl
  obtain ⟨hx, hb, hml, hown, ht0⟩ := hC
  have hown : s.vm.findClass RX11 = some m.cls := hown
  generalize va_A (wW_X11_putAside G h0 h1 h2 y0_1 y0_2 y0_3 y0_4 y0_6 y0_18 y0_21 y0_22 y0_23 y0_24 y0_25 y0_26 y0_33 y0_34 y0_38 y0_39 y0_40 y0_41 y0_42 y0_43 y0_46 y0_47 y0_48 x0_5 x0_7 x0_8 x0_9 x0_10 x0_11 x0_12 x0_13 x0_14 x0_15 x0_16 x0_17 x0_19 x0_20 x0_27 x0_28 x0_29 x0_30 x0_31 x0_32 x0_35 x0_36 x0_37 x0_44 x0_49 x0_50 a1 a2) sz = A at hD hA hS hX ⊢
  have hl : lv_has ls 2 [(0, .ref h0)] := hl
  have hf : p_X11_putAside F a1 a2  = some e_a2 := hf
  have kL2 : ∀ (n2 : Nat) (u2_1 : Int32) (a2_2 : Nat → Int32), p_X11_putAside_L2 F a1 n2 u2_1 a2_2 = some e_a2 → ∀ (H : Heap) (locs : List Loc), va_P G.1 vwCl (wW_X11_putAside G h0 h1 h2 y0_1 y0_2 y0_3 y0_4 y0_6 y0_18 y0_21 y0_22 y0_23 y0_24 y0_25 y0_26 y0_33 y0_34 y0_38 y0_39 y0_40 y0_41 y0_42 y0_43 y0_46 y0_47 y0_48 x0_5 x0_7 x0_8 x0_9 x0_10 x0_11 x0_12 x0_13 x0_14 x0_15 x0_16 x0_17 x0_19 x0_20 x0_27 x0_28 x0_29 x0_30 x0_31 x0_32 x0_35 x0_36 x0_37 x0_44 x0_49 x0_50 a1 a2_2) H → va_D A (wW_X11_putAside G h0 h1 h2 y0_1 y0_2 y0_3 y0_4 y0_6 y0_18 y0_21 y0_22 y0_23 y0_24 y0_25 y0_26 y0_33 y0_34 y0_38 y0_39 y0_40 y0_41 y0_42 y0_43 y0_46 y0_47 y0_48 x0_5 x0_7 x0_8 x0_9 x0_10 x0_11 x0_12 x0_13 x0_14 x0_15 x0_16 x0_17 x0_19 x0_20 x0_27 x0_28 x0_29 x0_30 x0_31 x0_32 x0_35 x0_36 x0_37 x0_44 x0_49 x0_50 a1 a2_2) → va_S A s.heap H locs → ∀ ls : Array Slot, lv_has ls 2 [(0, .ref h0), (1, .int u2_1)] → W p l e ({ frames := 0, cells := 0, slots := 0, locals := 0 } : Room) s m (List.toArray [.ref h0]) below meth c H locs 0 0 (MQ below (QvS G A (wW_X11_putAside G h0 h1 h2 y0_1 y0_2 y0_3 y0_4 y0_6 y0_18 y0_21 y0_22 y0_23 y0_24 y0_25 y0_26 y0_33 y0_34 y0_38 y0_39 y0_40 y0_41 y0_42 y0_43 y0_46 y0_47 y0_48 x0_5 x0_7 x0_8 x0_9 x0_10 x0_11 x0_12 x0_13 x0_14 x0_15 x0_16 x0_17 x0_19 x0_20 x0_27 x0_28 x0_29 x0_30 x0_31 x0_32 x0_35 x0_36 x0_37 x0_44 x0_49 x0_50 a1 e_a2)) (List.toArray [.ref h0]) s 0 0 A) (F0 m 2 ls []) := by
    intro n2
    induction n2 with
    | zero =>
      intro u2_1 a2_2 hf
      cases hf
    | succ n2 ih2 =>
      intro u2_1 a2_2 hf H locs hP hD hS ls hl
      have hf : p_X11_putAside_L2b F a1 (p_X11_putAside_L2 F a1 n2) u2_1 a2_2 = some e_a2 := hf
      refine lv_iload_n hx hb dX11_putAside_2 rfl (lv_at hl 1 rfl) ?_
      refine lv_bipush (v := (121 : Int32)) hx hb dX11_putAside_3 (by decide) ?_
      refine lv_icmp_ge (tgt := 26) hx hb dX11_putAside_5 (by decide) (fun c1 => ?_) (fun c1 => ?_)
      · have hf := of_pos hf c1
        cases hf
        exact ret_v hx hb hr hlk hK hP hD hS dX11_putAside_26
      · have hf := of_neg hf c1
        refine lv_aload_n hx hb dX11_putAside_8 rfl (lv_at hl 0 rfl) ?_
        refine va_get (ci := 11) (v := .ref h2) (C := RX11) (T := TX11) (N := 51) hx hb ht0 iX11 hown hK hP 0 rfl rfl 45 (by decide) (ht0 _ wd_1451) (fun _ h9 => h9) rfl dX11_putAside_9 ?_
        refine lv_iload_n hx hb dX11_putAside_12 rfl (lv_at hl 1 rfl) ?_
        refine lv_aload_n hx hb dX11_putAside_13 rfl (lv_at hl 0 rfl) ?_
        refine va_get (ci := 11) (v := .ref h1) (C := RX11) (T := TX11) (N := 51) hx hb ht0 iX11 hown hK hP 0 rfl rfl 0 (by decide) (ht0 _ wd_1406) (fun _ h9 => h9) rfl dX11_putAside_14 ?_
        refine lv_iload_n hx hb dX11_putAside_17 rfl (lv_at hl 1 rfl) ?_
        obtain ⟨g2, hf⟩ := of_grd hf
        refine va_iald hx hb hK hP 1 0 rfl rfl g2 dX11_putAside_18 ?_
        obtain ⟨g3, hf⟩ := of_grd hf
        refine va_iast hx hb hK hP hD hS 2 0 rfl rfl g3 dX11_putAside_19 (fun H locs hP hD hS => ?_)
        have hP : va_P G.1 vwCl (wW_X11_putAside G h0 h1 h2 y0_1 y0_2 y0_3 y0_4 y0_6 y0_18 y0_21 y0_22 y0_23 y0_24 y0_25 y0_26 y0_33 y0_34 y0_38 y0_39 y0_40 y0_41 y0_42 y0_43 y0_46 y0_47 y0_48 x0_5 x0_7 x0_8 x0_9 x0_10 x0_11 x0_12 x0_13 x0_14 x0_15 x0_16 x0_17 x0_19 x0_20 x0_27 x0_28 x0_29 x0_30 x0_31 x0_32 x0_35 x0_36 x0_37 x0_44 x0_49 x0_50 a1 (upd a2_2 u2_1.toNatClampNeg (a1 u2_1.toNatClampNeg))) H := hP
        have hD : va_D A (wW_X11_putAside G h0 h1 h2 y0_1 y0_2 y0_3 y0_4 y0_6 y0_18 y0_21 y0_22 y0_23 y0_24 y0_25 y0_26 y0_33 y0_34 y0_38 y0_39 y0_40 y0_41 y0_42 y0_43 y0_46 y0_47 y0_48 x0_5 x0_7 x0_8 x0_9 x0_10 x0_11 x0_12 x0_13 x0_14 x0_15 x0_16 x0_17 x0_19 x0_20 x0_27 x0_28 x0_29 x0_30 x0_31 x0_32 x0_35 x0_36 x0_37 x0_44 x0_49 x0_50 a1 (upd a2_2 u2_1.toNatClampNeg (a1 u2_1.toNatClampNeg))) := hD
        refine lv_iinc (v := u2_1 + (1 : Int32)) (lv' := [(1, .int (u2_1 + (1 : Int32))), (0, .ref h0)]) hx hb dX11_putAside_20 hl (k := 1) rfl (by rfl) (by decide) rfl (fun ls hl => ?_)
        refine lv_goto (tgt := 2) hx hb dX11_putAside_23 (by decide) ?_
        exact ih2 _ _ hf _ _ hP hD hS _ (lv_sub hl [1, 0] rfl)
  refine lv_iconst (v := (0 : Int32)) hx hb dX11_putAside_0 (by decide) ?_
  refine lv_istore_n (lv' := [(1, .int (0 : Int32)), (0, .ref h0)]) hx hb dX11_putAside_1 rfl hl (by decide) rfl (fun ls hl => ?_)
  exact kL2 _ _ _ hf _ _ hP hD hS _ (lv_sub hl [1, 0] rfl)
theorem yk_X11_putAside : ykV yX11_putAside RX11 cX11_putAside 2 none 0 := ⟨wd_1823, wd_108, wd_142, wd_1824, rfl, by decide +kernel, by decide +kernel, by decide +kernel⟩
theorem dX11_bringBack_0 : decode cX11_bringBack 0 = .ok (.iconst 0, 1) := by decide +kernel
theorem dX11_bringBack_1 : decode cX11_bringBack 1 = .ok (.istore_n 1, 1) := by decide +kernel
theorem dX11_bringBack_2 : decode cX11_bringBack 2 = .ok (.iload_n 1, 1) := by decide +kernel
theorem dX11_bringBack_3 : decode cX11_bringBack 3 = .ok (.bipush 121, 2) := by decide +kernel
theorem dX11_bringBack_5 : decode cX11_bringBack 5 = .ok (.if_icmp .ge 21, 3) := by decide +kernel
theorem dX11_bringBack_8 : decode cX11_bringBack 8 = .ok (.aload_n 0, 1) := by decide +kernel
theorem dX11_bringBack_9 : decode cX11_bringBack 9 = .ok (.getfield 7, 3) := by decide +kernel
theorem dX11_bringBack_12 : decode cX11_bringBack 12 = .ok (.iload_n 1, 1) := by decide +kernel
theorem dX11_bringBack_13 : decode cX11_bringBack 13 = .ok (.aload_n 0, 1) := by decide +kernel
theorem dX11_bringBack_14 : decode cX11_bringBack 14 = .ok (.getfield 79, 3) := by decide +kernel
theorem dX11_bringBack_17 : decode cX11_bringBack 17 = .ok (.iload_n 1, 1) := by decide +kernel
theorem dX11_bringBack_18 : decode cX11_bringBack 18 = .ok (.iaload, 1) := by decide +kernel
theorem dX11_bringBack_19 : decode cX11_bringBack 19 = .ok (.iastore, 1) := by decide +kernel
theorem dX11_bringBack_20 : decode cX11_bringBack 20 = .ok (.iinc 1 1, 3) := by decide +kernel
theorem dX11_bringBack_23 : decode cX11_bringBack 23 = .ok (.goto (-21), 3) := by decide +kernel
theorem dX11_bringBack_26 : decode cX11_bringBack 26 = .ok (.return_, 1) := by decide +kernel
def wW_X11_bringBack (G : GG) (h0 h1 h2 y0_1 y0_2 y0_3 y0_4 y0_6 y0_18 y0_21 y0_22 y0_23 y0_24 y0_25 y0_26 y0_33 y0_34 y0_38 y0_39 y0_40 y0_41 y0_42 y0_43 y0_46 y0_47 y0_48 : Nat) (x0_5 : Int32) (x0_7 : Int32) (x0_8 : Int32) (x0_9 : Int32) (x0_10 : Int32) (x0_11 : Int32) (x0_12 : Int32) (x0_13 : Int32) (x0_14 : Int32) (x0_15 : Int32) (x0_16 : Int32) (x0_17 : Int32) (x0_19 : Int32) (x0_20 : Int32) (x0_27 : Int32) (x0_28 : Int32) (x0_29 : Int32) (x0_30 : Int32) (x0_31 : Int32) (x0_32 : Int32) (x0_35 : Int32) (x0_36 : Int32) (x0_37 : Int32) (x0_44 : Int32) (x0_49 : Int32) (x0_50 : Int32) (a1 : Nat → Int32) (a2 : Nat → Int32) : va_W := [(h0, .inr (11, [.ref h1, .ref y0_1, .ref y0_2, .ref y0_3, .ref y0_4, .int x0_5, .ref y0_6, .int x0_7, .int x0_8, .int x0_9, .int x0_10, .int x0_11, .int x0_12, .int x0_13, .int x0_14, .int x0_15, .int x0_16, .int x0_17, .ref y0_18, .int x0_19, .int x0_20, .ref y0_21, .ref y0_22, .ref y0_23, .ref y0_24, .ref y0_25, .ref y0_26, .int x0_27, .int x0_28, .int x0_29, .int x0_30, .int x0_31, .int x0_32, .ref y0_33, .ref y0_34, .int x0_35, .int x0_36, .int x0_37, .ref y0_38, .ref y0_39, .ref y0_40, .ref y0_41, .ref y0_42, .ref y0_43, .int x0_44, .ref h2, .ref y0_46, .ref y0_47, .ref y0_48, .int x0_49, .int x0_50])), (h1, .inl (G.2.1, 121, .inl a1)), (h2, .inl (G.2.1, 121, .inl a2))]
set_option maxHeartbeats 4000000 in
set_option maxRecDepth 100000 in
theorem c_X11_bringBack (l : Launch) (G : GG) (h0 h1 h2 y0_1 y0_2 y0_3 y0_4 y0_6 y0_18 y0_21 y0_22 y0_23 y0_24 y0_25 y0_26 y0_33 y0_34 y0_38 y0_39 y0_40 y0_41 y0_42 y0_43 y0_46 y0_47 y0_48 : Nat) (sz : Nat) (x0_5 : Int32) (x0_7 : Int32) (x0_8 : Int32) (x0_9 : Int32) (x0_10 : Int32) (x0_11 : Int32) (x0_12 : Int32) (x0_13 : Int32) (x0_14 : Int32) (x0_15 : Int32) (x0_16 : Int32) (x0_17 : Int32) (x0_19 : Int32) (x0_20 : Int32) (x0_27 : Int32) (x0_28 : Int32) (x0_29 : Int32) (x0_30 : Int32) (x0_31 : Int32) (x0_32 : Int32) (x0_35 : Int32) (x0_36 : Int32) (x0_37 : Int32) (x0_44 : Int32) (x0_49 : Int32) (x0_50 : Int32) (a1 : Nat → Int32) (a2 : Nat → Int32) (F : Nat)   (e_a1 : Nat → Int32) (hf : p_X11_bringBack F a1 a2  = some e_a1) : Met l yX11_bringBack (.code yX11_bringBack cX11_bringBack 2 none :: gtbl) ({ frames := 0, cells := 0, slots := 0, locals := 0 } : Room) (PcS G [.ref h0] (wW_X11_bringBack G h0 h1 h2 y0_1 y0_2 y0_3 y0_4 y0_6 y0_18 y0_21 y0_22 y0_23 y0_24 y0_25 y0_26 y0_33 y0_34 y0_38 y0_39 y0_40 y0_41 y0_42 y0_43 y0_46 y0_47 y0_48 x0_5 x0_7 x0_8 x0_9 x0_10 x0_11 x0_12 x0_13 x0_14 x0_15 x0_16 x0_17 x0_19 x0_20 x0_27 x0_28 x0_29 x0_30 x0_31 x0_32 x0_35 x0_36 x0_37 x0_44 x0_49 x0_50 a1 a2) sz) (QvS G (va_A (wW_X11_bringBack G h0 h1 h2 y0_1 y0_2 y0_3 y0_4 y0_6 y0_18 y0_21 y0_22 y0_23 y0_24 y0_25 y0_26 y0_33 y0_34 y0_38 y0_39 y0_40 y0_41 y0_42 y0_43 y0_46 y0_47 y0_48 x0_5 x0_7 x0_8 x0_9 x0_10 x0_11 x0_12 x0_13 x0_14 x0_15 x0_16 x0_17 x0_19 x0_20 x0_27 x0_28 x0_29 x0_30 x0_31 x0_32 x0_35 x0_36 x0_37 x0_44 x0_49 x0_50 a1 a2) sz) (wW_X11_bringBack G h0 h1 h2 y0_1 y0_2 y0_3 y0_4 y0_6 y0_18 y0_21 y0_22 y0_23 y0_24 y0_25 y0_26 y0_33 y0_34 y0_38 y0_39 y0_40 y0_41 y0_42 y0_43 y0_46 y0_47 y0_48 x0_5 x0_7 x0_8 x0_9 x0_10 x0_11 x0_12 x0_13 x0_14 x0_15 x0_16 x0_17 x0_19 x0_20 x0_27 x0_28 x0_29 x0_30 x0_31 x0_32 x0_35 x0_36 x0_37 x0_44 x0_49 x0_50 e_a1 a2)) 0 0 (va_A (wW_X11_bringBack G h0 h1 h2 y0_1 y0_2 y0_3 y0_4 y0_6 y0_18 y0_21 y0_22 y0_23 y0_24 y0_25 y0_26 y0_33 y0_34 y0_38 y0_39 y0_40 y0_41 y0_42 y0_43 y0_46 y0_47 y0_48 x0_5 x0_7 x0_8 x0_9 x0_10 x0_11 x0_12 x0_13 x0_14 x0_15 x0_16 x0_17 x0_19 x0_20 x0_27 x0_28 x0_29 x0_30 x0_31 x0_32 x0_35 x0_36 x0_37 x0_44 x0_49 x0_50 a1 a2) sz) := by
  refine met_start (by decide) (Nat.le_of_ble_eq_true rfl) ?_
  intro p e s m below meth c hC hr hlk hnm hK hP hD hA hS hX ls hl
  obtain ⟨hx, hb, hml, hown, ht0⟩ := hC
  have hown : s.vm.findClass RX11 = some m.cls := hown
  generalize va_A (wW_X11_bringBack G h0 h1 h2 y0_1 y0_2 y0_3 y0_4 y0_6 y0_18 y0_21 y0_22 y0_23 y0_24 y0_25 y0_26 y0_33 y0_34 y0_38 y0_39 y0_40 y0_41 y0_42 y0_43 y0_46 y0_47 y0_48 x0_5 x0_7 x0_8 x0_9 x0_10 x0_11 x0_12 x0_13 x0_14 x0_15 x0_16 x0_17 x0_19 x0_20 x0_27 x0_28 x0_29 x0_30 x0_31 x0_32 x0_35 x0_36 x0_37 x0_44 x0_49 x0_50 a1 a2) sz = A at hD hA hS hX ⊢
  have hl : lv_has ls 2 [(0, .ref h0)] := hl
  have hf : p_X11_bringBack F a1 a2  = some e_a1 := hf
  have kL2 : ∀ (n2 : Nat) (u2_1 : Int32) (a1_2 : Nat → Int32), p_X11_bringBack_L2 F a2 n2 u2_1 a1_2 = some e_a1 → ∀ (H : Heap) (locs : List Loc), va_P G.1 vwCl (wW_X11_bringBack G h0 h1 h2 y0_1 y0_2 y0_3 y0_4 y0_6 y0_18 y0_21 y0_22 y0_23 y0_24 y0_25 y0_26 y0_33 y0_34 y0_38 y0_39 y0_40 y0_41 y0_42 y0_43 y0_46 y0_47 y0_48 x0_5 x0_7 x0_8 x0_9 x0_10 x0_11 x0_12 x0_13 x0_14 x0_15 x0_16 x0_17 x0_19 x0_20 x0_27 x0_28 x0_29 x0_30 x0_31 x0_32 x0_35 x0_36 x0_37 x0_44 x0_49 x0_50 a1_2 a2) H → va_D A (wW_X11_bringBack G h0 h1 h2 y0_1 y0_2 y0_3 y0_4 y0_6 y0_18 y0_21 y0_22 y0_23 y0_24 y0_25 y0_26 y0_33 y0_34 y0_38 y0_39 y0_40 y0_41 y0_42 y0_43 y0_46 y0_47 y0_48 x0_5 x0_7 x0_8 x0_9 x0_10 x0_11 x0_12 x0_13 x0_14 x0_15 x0_16 x0_17 x0_19 x0_20 x0_27 x0_28 x0_29 x0_30 x0_31 x0_32 x0_35 x0_36 x0_37 x0_44 x0_49 x0_50 a1_2 a2) → va_S A s.heap H locs → ∀ ls : Array Slot, lv_has ls 2 [(0, .ref h0), (1, .int u2_1)] → W p l e ({ frames := 0, cells := 0, slots := 0, locals := 0 } : Room) s m (List.toArray [.ref h0]) below meth c H locs 0 0 (MQ below (QvS G A (wW_X11_bringBack G h0 h1 h2 y0_1 y0_2 y0_3 y0_4 y0_6 y0_18 y0_21 y0_22 y0_23 y0_24 y0_25 y0_26 y0_33 y0_34 y0_38 y0_39 y0_40 y0_41 y0_42 y0_43 y0_46 y0_47 y0_48 x0_5 x0_7 x0_8 x0_9 x0_10 x0_11 x0_12 x0_13 x0_14 x0_15 x0_16 x0_17 x0_19 x0_20 x0_27 x0_28 x0_29 x0_30 x0_31 x0_32 x0_35 x0_36 x0_37 x0_44 x0_49 x0_50 e_a1 a2)) (List.toArray [.ref h0]) s 0 0 A) (F0 m 2 ls []) := by
    intro n2
    induction n2 with
    | zero =>
      intro u2_1 a1_2 hf
      cases hf
    | succ n2 ih2 =>
      intro u2_1 a1_2 hf H locs hP hD hS ls hl
      have hf : p_X11_bringBack_L2b F a2 (p_X11_bringBack_L2 F a2 n2) u2_1 a1_2 = some e_a1 := hf
      refine lv_iload_n hx hb dX11_bringBack_2 rfl (lv_at hl 1 rfl) ?_
      refine lv_bipush (v := (121 : Int32)) hx hb dX11_bringBack_3 (by decide) ?_
      refine lv_icmp_ge (tgt := 26) hx hb dX11_bringBack_5 (by decide) (fun c1 => ?_) (fun c1 => ?_)
      · have hf := of_pos hf c1
        cases hf
        exact ret_v hx hb hr hlk hK hP hD hS dX11_bringBack_26
      · have hf := of_neg hf c1
        refine lv_aload_n hx hb dX11_bringBack_8 rfl (lv_at hl 0 rfl) ?_
        refine va_get (ci := 11) (v := .ref h1) (C := RX11) (T := TX11) (N := 51) hx hb ht0 iX11 hown hK hP 0 rfl rfl 0 (by decide) (ht0 _ wd_1406) (fun _ h9 => h9) rfl dX11_bringBack_9 ?_
        refine lv_iload_n hx hb dX11_bringBack_12 rfl (lv_at hl 1 rfl) ?_
        refine lv_aload_n hx hb dX11_bringBack_13 rfl (lv_at hl 0 rfl) ?_
        refine va_get (ci := 11) (v := .ref h2) (C := RX11) (T := TX11) (N := 51) hx hb ht0 iX11 hown hK hP 0 rfl rfl 45 (by decide) (ht0 _ wd_1451) (fun _ h9 => h9) rfl dX11_bringBack_14 ?_
        refine lv_iload_n hx hb dX11_bringBack_17 rfl (lv_at hl 1 rfl) ?_
        obtain ⟨g2, hf⟩ := of_grd hf
        refine va_iald hx hb hK hP 2 0 rfl rfl g2 dX11_bringBack_18 ?_
        obtain ⟨g3, hf⟩ := of_grd hf
        refine va_iast hx hb hK hP hD hS 1 0 rfl rfl g3 dX11_bringBack_19 (fun H locs hP hD hS => ?_)
        have hP : va_P G.1 vwCl (wW_X11_bringBack G h0 h1 h2 y0_1 y0_2 y0_3 y0_4 y0_6 y0_18 y0_21 y0_22 y0_23 y0_24 y0_25 y0_26 y0_33 y0_34 y0_38 y0_39 y0_40 y0_41 y0_42 y0_43 y0_46 y0_47 y0_48 x0_5 x0_7 x0_8 x0_9 x0_10 x0_11 x0_12 x0_13 x0_14 x0_15 x0_16 x0_17 x0_19 x0_20 x0_27 x0_28 x0_29 x0_30 x0_31 x0_32 x0_35 x0_36 x0_37 x0_44 x0_49 x0_50 (upd a1_2 u2_1.toNatClampNeg (a2 u2_1.toNatClampNeg)) a2) H := hP
        have hD : va_D A (wW_X11_bringBack G h0 h1 h2 y0_1 y0_2 y0_3 y0_4 y0_6 y0_18 y0_21 y0_22 y0_23 y0_24 y0_25 y0_26 y0_33 y0_34 y0_38 y0_39 y0_40 y0_41 y0_42 y0_43 y0_46 y0_47 y0_48 x0_5 x0_7 x0_8 x0_9 x0_10 x0_11 x0_12 x0_13 x0_14 x0_15 x0_16 x0_17 x0_19 x0_20 x0_27 x0_28 x0_29 x0_30 x0_31 x0_32 x0_35 x0_36 x0_37 x0_44 x0_49 x0_50 (upd a1_2 u2_1.toNatClampNeg (a2 u2_1.toNatClampNeg)) a2) := hD
        refine lv_iinc (v := u2_1 + (1 : Int32)) (lv' := [(1, .int (u2_1 + (1 : Int32))), (0, .ref h0)]) hx hb dX11_bringBack_20 hl (k := 1) rfl (by rfl) (by decide) rfl (fun ls hl => ?_)
        refine lv_goto (tgt := 2) hx hb dX11_bringBack_23 (by decide) ?_
        exact ih2 _ _ hf _ _ hP hD hS _ (lv_sub hl [1, 0] rfl)
  refine lv_iconst (v := (0 : Int32)) hx hb dX11_bringBack_0 (by decide) ?_
  refine lv_istore_n (lv' := [(1, .int (0 : Int32)), (0, .ref h0)]) hx hb dX11_bringBack_1 rfl hl (by decide) rfl (fun ls hl => ?_)
  exact kL2 _ _ _ hf _ _ hP hD hS _ (lv_sub hl [1, 0] rfl)
theorem yk_X11_bringBack : ykV yX11_bringBack RX11 cX11_bringBack 2 none 0 := ⟨wd_1827, wd_109, wd_142, wd_1828, rfl, by decide +kernel, by decide +kernel, by decide +kernel⟩
theorem dX11_stands_0 : decode cX11_stands 0 = .ok (.iload_n 1, 1) := by decide +kernel
theorem dX11_stands_1 : decode cX11_stands 1 = .ok (.invokestatic 350, 3) := by decide +kernel
theorem dX11_stands_4 : decode cX11_stands 4 = .ok (.ifCond .eq 12, 3) := by decide +kernel
theorem dX11_stands_7 : decode cX11_stands 7 = .ok (.iload_n 2, 1) := by decide +kernel
theorem dX11_stands_8 : decode cX11_stands 8 = .ok (.iconst 0, 1) := by decide +kernel
theorem dX11_stands_9 : decode cX11_stands 9 = .ok (.iconst 2, 1) := by decide +kernel
theorem dX11_stands_10 : decode cX11_stands 10 = .ok (.invokestatic 163, 3) := by decide +kernel
theorem dX11_stands_13 : decode cX11_stands 13 = .ok (.ifCond .ne 5, 3) := by decide +kernel
theorem dX11_stands_16 : decode cX11_stands 16 = .ok (.iconst (-1), 1) := by decide +kernel
theorem dX11_stands_17 : decode cX11_stands 17 = .ok (.ireturn, 1) := by decide +kernel
theorem dX11_stands_18 : decode cX11_stands 18 = .ok (.aload_n 0, 1) := by decide +kernel
theorem dX11_stands_19 : decode cX11_stands 19 = .ok (.invokevirtual 405, 3) := by decide +kernel
theorem dX11_stands_22 : decode cX11_stands 22 = .ok (.aload_n 0, 1) := by decide +kernel
theorem dX11_stands_23 : decode cX11_stands 23 = .ok (.iload_n 1, 1) := by decide +kernel
theorem dX11_stands_24 : decode cX11_stands 24 = .ok (.aload_n 0, 1) := by decide +kernel
theorem dX11_stands_25 : decode cX11_stands 25 = .ok (.getfield 7, 3) := by decide +kernel
theorem dX11_stands_28 : decode cX11_stands 28 = .ok (.bipush 65, 2) := by decide +kernel
theorem dX11_stands_30 : decode cX11_stands 30 = .ok (.iload_n 1, 1) := by decide +kernel
theorem dX11_stands_31 : decode cX11_stands 31 = .ok (.iadd, 1) := by decide +kernel
theorem dX11_stands_32 : decode cX11_stands 32 = .ok (.iaload, 1) := by decide +kernel
theorem dX11_stands_33 : decode cX11_stands 33 = .ok (.invokevirtual 287, 3) := by decide +kernel
theorem dX11_stands_36 : decode cX11_stands 36 = .ok (.iconst 0, 1) := by decide +kernel
theorem dX11_stands_37 : decode cX11_stands 37 = .ok (.istore_n 3, 1) := by decide +kernel
theorem dX11_stands_38 : decode cX11_stands 38 = .ok (.iload_n 3, 1) := by decide +kernel
theorem dX11_stands_39 : decode cX11_stands 39 = .ok (.iconst 3, 1) := by decide +kernel
theorem dX11_stands_40 : decode cX11_stands 40 = .ok (.if_icmp .ge 16, 3) := by decide +kernel
theorem dX11_stands_43 : decode cX11_stands 43 = .ok (.aload_n 0, 1) := by decide +kernel
theorem dX11_stands_44 : decode cX11_stands 44 = .ok (.getfield 55, 3) := by decide +kernel
theorem dX11_stands_47 : decode cX11_stands 47 = .ok (.iload_n 3, 1) := by decide +kernel
theorem dX11_stands_48 : decode cX11_stands 48 = .ok (.iconst 0, 1) := by decide +kernel
theorem dX11_stands_49 : decode cX11_stands 49 = .ok (.iastore, 1) := by decide +kernel
theorem dX11_stands_50 : decode cX11_stands 50 = .ok (.iinc 3 1, 3) := by decide +kernel
theorem dX11_stands_53 : decode cX11_stands 53 = .ok (.goto (-15), 3) := by decide +kernel
theorem dX11_stands_56 : decode cX11_stands 56 = .ok (.iconst 0, 1) := by decide +kernel
theorem dX11_stands_57 : decode cX11_stands 57 = .ok (.istore_n 3, 1) := by decide +kernel
theorem dX11_stands_58 : decode cX11_stands 58 = .ok (.iload_n 3, 1) := by decide +kernel
theorem dX11_stands_59 : decode cX11_stands 59 = .ok (.aload_n 0, 1) := by decide +kernel
theorem dX11_stands_60 : decode cX11_stands 60 = .ok (.invokevirtual 217, 3) := by decide +kernel
theorem dX11_stands_63 : decode cX11_stands 63 = .ok (.if_icmp .ge 87, 3) := by decide +kernel
theorem dX11_stands_66 : decode cX11_stands 66 = .ok (.aload_n 0, 1) := by decide +kernel
theorem dX11_stands_67 : decode cX11_stands 67 = .ok (.iload_n 1, 1) := by decide +kernel
theorem dX11_stands_68 : decode cX11_stands 68 = .ok (.iload_n 3, 1) := by decide +kernel
theorem dX11_stands_69 : decode cX11_stands 69 = .ok (.invokevirtual 338, 3) := by decide +kernel
theorem dX11_stands_72 : decode cX11_stands 72 = .ok (.ifCond .eq 6, 3) := by decide +kernel
theorem dX11_stands_75 : decode cX11_stands 75 = .ok (.goto 69, 3) := by decide +kernel
theorem dX11_stands_78 : decode cX11_stands 78 = .ok (.aload_n 0, 1) := by decide +kernel
theorem dX11_stands_79 : decode cX11_stands 79 = .ok (.iload_n 1, 1) := by decide +kernel
theorem dX11_stands_80 : decode cX11_stands 80 = .ok (.iload_n 3, 1) := by decide +kernel
theorem dX11_stands_81 : decode cX11_stands 81 = .ok (.iconst 1, 1) := by decide +kernel
theorem dX11_stands_82 : decode cX11_stands 82 = .ok (.aload_n 0, 1) := by decide +kernel
theorem dX11_stands_83 : decode cX11_stands 83 = .ok (.iload_n 1, 1) := by decide +kernel
theorem dX11_stands_84 : decode cX11_stands 84 = .ok (.iload_n 3, 1) := by decide +kernel
theorem dX11_stands_85 : decode cX11_stands 85 = .ok (.invokevirtual 275, 3) := by decide +kernel
theorem dX11_stands_88 : decode cX11_stands 88 = .ok (.isub, 1) := by decide +kernel
theorem dX11_stands_89 : decode cX11_stands 89 = .ok (.invokevirtual 281, 3) := by decide +kernel
theorem dX11_stands_92 : decode cX11_stands 92 = .ok (.aload_n 0, 1) := by decide +kernel
theorem dX11_stands_93 : decode cX11_stands 93 = .ok (.iload_n 1, 1) := by decide +kernel
theorem dX11_stands_94 : decode cX11_stands 94 = .ok (.invokevirtual 329, 3) := by decide +kernel
theorem dX11_stands_97 : decode cX11_stands 97 = .ok (.aload_n 0, 1) := by decide +kernel
theorem dX11_stands_98 : decode cX11_stands 98 = .ok (.getfield 55, 3) := by decide +kernel
theorem dX11_stands_101 : decode cX11_stands 101 = .ok (.aload_n 0, 1) := by decide +kernel
theorem dX11_stands_102 : decode cX11_stands 102 = .ok (.invokevirtual 323, 3) := by decide +kernel
theorem dX11_stands_105 : decode cX11_stands 105 = .ok (.ifCond .eq 7, 3) := by decide +kernel
theorem dX11_stands_108 : decode cX11_stands 108 = .ok (.iconst 1, 1) := by decide +kernel
theorem dX11_stands_109 : decode cX11_stands 109 = .ok (.goto 16, 3) := by decide +kernel
theorem dX11_stands_112 : decode cX11_stands 112 = .ok (.aload_n 0, 1) := by decide +kernel
theorem dX11_stands_113 : decode cX11_stands 113 = .ok (.iload_n 1, 1) := by decide +kernel
theorem dX11_stands_114 : decode cX11_stands 114 = .ok (.invokevirtual 326, 3) := by decide +kernel
theorem dX11_stands_117 : decode cX11_stands 117 = .ok (.ifCond .eq 7, 3) := by decide +kernel
theorem dX11_stands_120 : decode cX11_stands 120 = .ok (.iconst 0, 1) := by decide +kernel
theorem dX11_stands_121 : decode cX11_stands 121 = .ok (.goto 4, 3) := by decide +kernel
theorem dX11_stands_124 : decode cX11_stands 124 = .ok (.iconst 2, 1) := by decide +kernel
theorem dX11_stands_125 : decode cX11_stands 125 = .ok (.dup2, 1) := by decide +kernel
theorem dX11_stands_126 : decode cX11_stands 126 = .ok (.iaload, 1) := by decide +kernel
theorem dX11_stands_127 : decode cX11_stands 127 = .ok (.iconst 1, 1) := by decide +kernel
theorem dX11_stands_128 : decode cX11_stands 128 = .ok (.iadd, 1) := by decide +kernel
theorem dX11_stands_129 : decode cX11_stands 129 = .ok (.iastore, 1) := by decide +kernel
theorem dX11_stands_130 : decode cX11_stands 130 = .ok (.aload_n 0, 1) := by decide +kernel
theorem dX11_stands_131 : decode cX11_stands 131 = .ok (.iload_n 1, 1) := by decide +kernel
theorem dX11_stands_132 : decode cX11_stands 132 = .ok (.iload_n 3, 1) := by decide +kernel
theorem dX11_stands_133 : decode cX11_stands 133 = .ok (.iconst 1, 1) := by decide +kernel
theorem dX11_stands_134 : decode cX11_stands 134 = .ok (.aload_n 0, 1) := by decide +kernel
theorem dX11_stands_135 : decode cX11_stands 135 = .ok (.iload_n 1, 1) := by decide +kernel
theorem dX11_stands_136 : decode cX11_stands 136 = .ok (.iload_n 3, 1) := by decide +kernel
theorem dX11_stands_137 : decode cX11_stands 137 = .ok (.invokevirtual 275, 3) := by decide +kernel
theorem dX11_stands_140 : decode cX11_stands 140 = .ok (.isub, 1) := by decide +kernel
theorem dX11_stands_141 : decode cX11_stands 141 = .ok (.invokevirtual 281, 3) := by decide +kernel
theorem dX11_stands_144 : decode cX11_stands 144 = .ok (.iinc 3 1, 3) := by decide +kernel
theorem dX11_stands_147 : decode cX11_stands 147 = .ok (.goto (-89), 3) := by decide +kernel
theorem dX11_stands_150 : decode cX11_stands 150 = .ok (.aload_n 0, 1) := by decide +kernel
theorem dX11_stands_151 : decode cX11_stands 151 = .ok (.invokevirtual 408, 3) := by decide +kernel
theorem dX11_stands_154 : decode cX11_stands 154 = .ok (.aload_n 0, 1) := by decide +kernel
theorem dX11_stands_155 : decode cX11_stands 155 = .ok (.getfield 55, 3) := by decide +kernel
theorem dX11_stands_158 : decode cX11_stands 158 = .ok (.iload_n 2, 1) := by decide +kernel
theorem dX11_stands_159 : decode cX11_stands 159 = .ok (.iaload, 1) := by decide +kernel
theorem dX11_stands_160 : decode cX11_stands 160 = .ok (.ireturn, 1) := by decide +kernel
def wW_X11_stands (G : GG) (h0 h1 h2 h3 h4 h5 y0_3 y0_4 y0_6 y0_18 y0_21 y0_22 y0_23 y0_24 y0_25 y0_26 y0_34 y0_38 y0_39 y0_40 y0_41 y0_42 y0_43 y0_46 y0_47 y0_48 : Nat) (x0_5 : Int32) (x0_7 : Int32) (x0_8 : Int32) (x0_9 : Int32) (x0_10 : Int32) (x0_11 : Int32) (x0_12 : Int32) (x0_13 : Int32) (x0_14 : Int32) (x0_15 : Int32) (x0_16 : Int32) (x0_17 : Int32) (x0_19 : Int32) (x0_20 : Int32) (x0_27 : Int32) (x0_28 : Int32) (x0_29 : Int32) (x0_30 : Int32) (x0_31 : Int32) (x0_32 : Int32) (x0_35 : Int32) (x0_36 : Int32) (x0_37 : Int32) (x0_44 : Int32) (x0_49 : Int32) (x0_50 : Int32) (a1 : Nat → Int32) (a2 : Nat → Int32) (a3 : Nat → Int32) (a4 : Nat → Int32) (a5 : Nat → Int32) : va_W := [(h0, .inr (11, [.ref h1, .ref h2, .ref h3, .ref y0_3, .ref y0_4, .int x0_5, .ref y0_6, .int x0_7, .int x0_8, .int x0_9, .int x0_10, .int x0_11, .int x0_12, .int x0_13, .int x0_14, .int x0_15, .int x0_16, .int x0_17, .ref y0_18, .int x0_19, .int x0_20, .ref y0_21, .ref y0_22, .ref y0_23, .ref y0_24, .ref y0_25, .ref y0_26, .int x0_27, .int x0_28, .int x0_29, .int x0_30, .int x0_31, .int x0_32, .ref h4, .ref y0_34, .int x0_35, .int x0_36, .int x0_37, .ref y0_38, .ref y0_39, .ref y0_40, .ref y0_41, .ref y0_42, .ref y0_43, .int x0_44, .ref h5, .ref y0_46, .ref y0_47, .ref y0_48, .int x0_49, .int x0_50])), (h1, .inl (G.2.1, 121, .inl a1)), (h2, .inl (G.2.1, 2, .inl a2)), (h3, .inl (G.2.1, 2, .inl a3)), (h4, .inl (G.2.1, 3, .inl a4)), (h5, .inl (G.2.1, 121, .inl a5))]
set_option maxHeartbeats 4000000 in
set_option maxRecDepth 100000 in
theorem c_X11_stands (l : Launch) (G : GG) (h0 h1 h2 h3 h4 h5 y0_3 y0_4 y0_6 y0_18 y0_21 y0_22 y0_23 y0_24 y0_25 y0_26 y0_34 y0_38 y0_39 y0_40 y0_41 y0_42 y0_43 y0_46 y0_47 y0_48 : Nat) (sz : Nat) (x0_5 : Int32) (x0_7 : Int32) (x0_8 : Int32) (x0_9 : Int32) (x0_10 : Int32) (x0_11 : Int32) (x0_12 : Int32) (x0_13 : Int32) (x0_14 : Int32) (x0_15 : Int32) (x0_16 : Int32) (x0_17 : Int32) (x0_19 : Int32) (x0_20 : Int32) (x0_27 : Int32) (x0_28 : Int32) (x0_29 : Int32) (x0_30 : Int32) (x0_31 : Int32) (x0_32 : Int32) (x0_35 : Int32) (x0_36 : Int32) (x0_37 : Int32) (x0_44 : Int32) (x0_49 : Int32) (x0_50 : Int32) (a1 : Nat → Int32) (a2 : Nat → Int32) (a3 : Nat → Int32) (a4 : Nat → Int32) (a5 : Nat → Int32) (F : Nat) (b1 : Int32) (b2 : Int32)  (r0 : Int32) (e_x0_29 : Int32) (e_x0_30 : Int32) (e_x0_31 : Int32) (e_x0_32 : Int32) (e_a1 : Nat → Int32) (e_a4 : Nat → Int32) (e_a5 : Nat → Int32) (hf : p_X11_stands F x0_5 x0_29 x0_30 x0_31 x0_32 a1 a2 a3 a4 a5 b1 b2 = some (r0, e_x0_29, e_x0_30, e_x0_31, e_x0_32, e_a1, e_a4, e_a5)) : Met l yX11_stands (.code yX11_stands cX11_stands 4 (some .int) :: gtbl) ({ frames := 7, cells := 0, slots := 0, locals := 163 } : Room) (PcS G [.ref h0, .int b1, .int b2] (wW_X11_stands G h0 h1 h2 h3 h4 h5 y0_3 y0_4 y0_6 y0_18 y0_21 y0_22 y0_23 y0_24 y0_25 y0_26 y0_34 y0_38 y0_39 y0_40 y0_41 y0_42 y0_43 y0_46 y0_47 y0_48 x0_5 x0_7 x0_8 x0_9 x0_10 x0_11 x0_12 x0_13 x0_14 x0_15 x0_16 x0_17 x0_19 x0_20 x0_27 x0_28 x0_29 x0_30 x0_31 x0_32 x0_35 x0_36 x0_37 x0_44 x0_49 x0_50 a1 a2 a3 a4 a5) sz) (QiS G r0 (va_A (wW_X11_stands G h0 h1 h2 h3 h4 h5 y0_3 y0_4 y0_6 y0_18 y0_21 y0_22 y0_23 y0_24 y0_25 y0_26 y0_34 y0_38 y0_39 y0_40 y0_41 y0_42 y0_43 y0_46 y0_47 y0_48 x0_5 x0_7 x0_8 x0_9 x0_10 x0_11 x0_12 x0_13 x0_14 x0_15 x0_16 x0_17 x0_19 x0_20 x0_27 x0_28 x0_29 x0_30 x0_31 x0_32 x0_35 x0_36 x0_37 x0_44 x0_49 x0_50 a1 a2 a3 a4 a5) sz) (wW_X11_stands G h0 h1 h2 h3 h4 h5 y0_3 y0_4 y0_6 y0_18 y0_21 y0_22 y0_23 y0_24 y0_25 y0_26 y0_34 y0_38 y0_39 y0_40 y0_41 y0_42 y0_43 y0_46 y0_47 y0_48 x0_5 x0_7 x0_8 x0_9 x0_10 x0_11 x0_12 x0_13 x0_14 x0_15 x0_16 x0_17 x0_19 x0_20 x0_27 x0_28 e_x0_29 e_x0_30 e_x0_31 e_x0_32 x0_35 x0_36 x0_37 x0_44 x0_49 x0_50 e_a1 a2 a3 e_a4 e_a5)) 0 0 (va_A (wW_X11_stands G h0 h1 h2 h3 h4 h5 y0_3 y0_4 y0_6 y0_18 y0_21 y0_22 y0_23 y0_24 y0_25 y0_26 y0_34 y0_38 y0_39 y0_40 y0_41 y0_42 y0_43 y0_46 y0_47 y0_48 x0_5 x0_7 x0_8 x0_9 x0_10 x0_11 x0_12 x0_13 x0_14 x0_15 x0_16 x0_17 x0_19 x0_20 x0_27 x0_28 x0_29 x0_30 x0_31 x0_32 x0_35 x0_36 x0_37 x0_44 x0_49 x0_50 a1 a2 a3 a4 a5) sz) := by
  refine met_start (by decide) (Nat.le_of_ble_eq_true rfl) ?_
  intro p e s m below meth c hC hr hlk hnm hK hP hD hA hS hX ls hl
  obtain ⟨hx, hb, hml, hown, ht0⟩ := hC
  have hown : s.vm.findClass RX11 = some m.cls := hown
  generalize va_A (wW_X11_stands G h0 h1 h2 h3 h4 h5 y0_3 y0_4 y0_6 y0_18 y0_21 y0_22 y0_23 y0_24 y0_25 y0_26 y0_34 y0_38 y0_39 y0_40 y0_41 y0_42 y0_43 y0_46 y0_47 y0_48 x0_5 x0_7 x0_8 x0_9 x0_10 x0_11 x0_12 x0_13 x0_14 x0_15 x0_16 x0_17 x0_19 x0_20 x0_27 x0_28 x0_29 x0_30 x0_31 x0_32 x0_35 x0_36 x0_37 x0_44 x0_49 x0_50 a1 a2 a3 a4 a5) sz = A at hD hA hS hX ⊢
  have hl : lv_has ls 4 [(0, .ref h0), (1, .int b1), (2, .int b2)] := hl
  have hf : p_X11_stands F x0_5 x0_29 x0_30 x0_31 x0_32 a1 a2 a3 a4 a5 b1 b2 = some (r0, e_x0_29, e_x0_30, e_x0_31, e_x0_32, e_a1, e_a4, e_a5) := hf
  have kL58 : ∀ (c58_1 : Int32) (c58_2 : Int32) (n58 : Nat) (u58_3 : Int32) (x0_29_58 : Int32) (x0_30_58 : Int32) (x0_31_58 : Int32) (x0_32_58 : Int32) (a1_58 : Nat → Int32) (a4_58 : Nat → Int32) (a5_58 : Nat → Int32), p_X11_stands_L58 F x0_5 a2 a3 c58_1 c58_2 n58 u58_3 x0_29_58 x0_30_58 x0_31_58 x0_32_58 a1_58 a4_58 a5_58 = some (r0, e_x0_29, e_x0_30, e_x0_31, e_x0_32, e_a1, e_a4, e_a5) → ∀ (H : Heap) (locs : List Loc), va_P G.1 vwCl (wW_X11_stands G h0 h1 h2 h3 h4 h5 y0_3 y0_4 y0_6 y0_18 y0_21 y0_22 y0_23 y0_24 y0_25 y0_26 y0_34 y0_38 y0_39 y0_40 y0_41 y0_42 y0_43 y0_46 y0_47 y0_48 x0_5 x0_7 x0_8 x0_9 x0_10 x0_11 x0_12 x0_13 x0_14 x0_15 x0_16 x0_17 x0_19 x0_20 x0_27 x0_28 x0_29_58 x0_30_58 x0_31_58 x0_32_58 x0_35 x0_36 x0_37 x0_44 x0_49 x0_50 a1_58 a2 a3 a4_58 a5_58) H → va_D A (wW_X11_stands G h0 h1 h2 h3 h4 h5 y0_3 y0_4 y0_6 y0_18 y0_21 y0_22 y0_23 y0_24 y0_25 y0_26 y0_34 y0_38 y0_39 y0_40 y0_41 y0_42 y0_43 y0_46 y0_47 y0_48 x0_5 x0_7 x0_8 x0_9 x0_10 x0_11 x0_12 x0_13 x0_14 x0_15 x0_16 x0_17 x0_19 x0_20 x0_27 x0_28 x0_29_58 x0_30_58 x0_31_58 x0_32_58 x0_35 x0_36 x0_37 x0_44 x0_49 x0_50 a1_58 a2 a3 a4_58 a5_58) → va_S A s.heap H locs → ∀ ls : Array Slot, lv_has ls 4 [(0, .ref h0), (1, .int c58_1), (2, .int c58_2), (3, .int u58_3)] → W p l e ({ frames := 7, cells := 0, slots := 0, locals := 163 } : Room) s m (List.toArray [.ref h0, .int b1, .int b2]) below meth c H locs 0 0 (MQ below (QiS G r0 A (wW_X11_stands G h0 h1 h2 h3 h4 h5 y0_3 y0_4 y0_6 y0_18 y0_21 y0_22 y0_23 y0_24 y0_25 y0_26 y0_34 y0_38 y0_39 y0_40 y0_41 y0_42 y0_43 y0_46 y0_47 y0_48 x0_5 x0_7 x0_8 x0_9 x0_10 x0_11 x0_12 x0_13 x0_14 x0_15 x0_16 x0_17 x0_19 x0_20 x0_27 x0_28 e_x0_29 e_x0_30 e_x0_31 e_x0_32 x0_35 x0_36 x0_37 x0_44 x0_49 x0_50 e_a1 a2 a3 e_a4 e_a5)) (List.toArray [.ref h0, .int b1, .int b2]) s 0 0 A) (F0 m 58 ls []) := by
    intro c58_1 c58_2 n58
    induction n58 with
    | zero =>
      intro u58_3 x0_29_58 x0_30_58 x0_31_58 x0_32_58 a1_58 a4_58 a5_58 hf
      cases hf
    | succ n58 ih58 =>
      have kJ144 : ∀ (u144_3 : Int32) (x0_29_144 : Int32) (x0_30_144 : Int32) (x0_31_144 : Int32) (x0_32_144 : Int32) (a1_144 : Nat → Int32) (a4_144 : Nat → Int32) (a5_144 : Nat → Int32), p_X11_stands_J144 F x0_5 a2 a3 c58_1 c58_2 (p_X11_stands_L58 F x0_5 a2 a3 c58_1 c58_2 n58) u144_3 x0_29_144 x0_30_144 x0_31_144 x0_32_144 a1_144 a4_144 a5_144 = some (r0, e_x0_29, e_x0_30, e_x0_31, e_x0_32, e_a1, e_a4, e_a5) → ∀ (H : Heap) (locs : List Loc), va_P G.1 vwCl (wW_X11_stands G h0 h1 h2 h3 h4 h5 y0_3 y0_4 y0_6 y0_18 y0_21 y0_22 y0_23 y0_24 y0_25 y0_26 y0_34 y0_38 y0_39 y0_40 y0_41 y0_42 y0_43 y0_46 y0_47 y0_48 x0_5 x0_7 x0_8 x0_9 x0_10 x0_11 x0_12 x0_13 x0_14 x0_15 x0_16 x0_17 x0_19 x0_20 x0_27 x0_28 x0_29_144 x0_30_144 x0_31_144 x0_32_144 x0_35 x0_36 x0_37 x0_44 x0_49 x0_50 a1_144 a2 a3 a4_144 a5_144) H → va_D A (wW_X11_stands G h0 h1 h2 h3 h4 h5 y0_3 y0_4 y0_6 y0_18 y0_21 y0_22 y0_23 y0_24 y0_25 y0_26 y0_34 y0_38 y0_39 y0_40 y0_41 y0_42 y0_43 y0_46 y0_47 y0_48 x0_5 x0_7 x0_8 x0_9 x0_10 x0_11 x0_12 x0_13 x0_14 x0_15 x0_16 x0_17 x0_19 x0_20 x0_27 x0_28 x0_29_144 x0_30_144 x0_31_144 x0_32_144 x0_35 x0_36 x0_37 x0_44 x0_49 x0_50 a1_144 a2 a3 a4_144 a5_144) → va_S A s.heap H locs → ∀ ls : Array Slot, lv_has ls 4 [(0, .ref h0), (1, .int c58_1), (2, .int c58_2), (3, .int u144_3)] → W p l e ({ frames := 7, cells := 0, slots := 0, locals := 163 } : Room) s m (List.toArray [.ref h0, .int b1, .int b2]) below meth c H locs 0 0 (MQ below (QiS G r0 A (wW_X11_stands G h0 h1 h2 h3 h4 h5 y0_3 y0_4 y0_6 y0_18 y0_21 y0_22 y0_23 y0_24 y0_25 y0_26 y0_34 y0_38 y0_39 y0_40 y0_41 y0_42 y0_43 y0_46 y0_47 y0_48 x0_5 x0_7 x0_8 x0_9 x0_10 x0_11 x0_12 x0_13 x0_14 x0_15 x0_16 x0_17 x0_19 x0_20 x0_27 x0_28 e_x0_29 e_x0_30 e_x0_31 e_x0_32 x0_35 x0_36 x0_37 x0_44 x0_49 x0_50 e_a1 a2 a3 e_a4 e_a5)) (List.toArray [.ref h0, .int b1, .int b2]) s 0 0 A) (F0 m 144 ls []) := by
        intro u144_3 x0_29_144 x0_30_144 x0_31_144 x0_32_144 a1_144 a4_144 a5_144 hf H locs hP hD hS ls hl
        refine lv_iinc (v := u144_3 + (1 : Int32)) (lv' := [(3, .int (u144_3 + (1 : Int32))), (0, .ref h0), (1, .int c58_1), (2, .int c58_2)]) hx hb dX11_stands_144 hl (k := 3) rfl (by rfl) (by decide) rfl (fun ls hl => ?_)
        refine lv_goto (tgt := 58) hx hb dX11_stands_147 (by decide) ?_
        exact ih58 _ _ _ _ _ _ _ _ hf _ _ hP hD hS _ (lv_sub hl [1, 2, 3, 0] rfl)
      have kJ125 : ∀ (u125_3 : Int32) (s125_1 : Int32) (x0_29_125 : Int32) (x0_30_125 : Int32) (x0_31_125 : Int32) (x0_32_125 : Int32) (a1_125 : Nat → Int32) (a4_125 : Nat → Int32) (a5_125 : Nat → Int32), p_X11_stands_J125 F x0_5 a2 a3 c58_1 c58_2 (p_X11_stands_L58 F x0_5 a2 a3 c58_1 c58_2 n58) u125_3 s125_1 x0_29_125 x0_30_125 x0_31_125 x0_32_125 a1_125 a4_125 a5_125 = some (r0, e_x0_29, e_x0_30, e_x0_31, e_x0_32, e_a1, e_a4, e_a5) → ∀ (H : Heap) (locs : List Loc), va_P G.1 vwCl (wW_X11_stands G h0 h1 h2 h3 h4 h5 y0_3 y0_4 y0_6 y0_18 y0_21 y0_22 y0_23 y0_24 y0_25 y0_26 y0_34 y0_38 y0_39 y0_40 y0_41 y0_42 y0_43 y0_46 y0_47 y0_48 x0_5 x0_7 x0_8 x0_9 x0_10 x0_11 x0_12 x0_13 x0_14 x0_15 x0_16 x0_17 x0_19 x0_20 x0_27 x0_28 x0_29_125 x0_30_125 x0_31_125 x0_32_125 x0_35 x0_36 x0_37 x0_44 x0_49 x0_50 a1_125 a2 a3 a4_125 a5_125) H → va_D A (wW_X11_stands G h0 h1 h2 h3 h4 h5 y0_3 y0_4 y0_6 y0_18 y0_21 y0_22 y0_23 y0_24 y0_25 y0_26 y0_34 y0_38 y0_39 y0_40 y0_41 y0_42 y0_43 y0_46 y0_47 y0_48 x0_5 x0_7 x0_8 x0_9 x0_10 x0_11 x0_12 x0_13 x0_14 x0_15 x0_16 x0_17 x0_19 x0_20 x0_27 x0_28 x0_29_125 x0_30_125 x0_31_125 x0_32_125 x0_35 x0_36 x0_37 x0_44 x0_49 x0_50 a1_125 a2 a3 a4_125 a5_125) → va_S A s.heap H locs → ∀ ls : Array Slot, lv_has ls 4 [(0, .ref h0), (1, .int c58_1), (2, .int c58_2), (3, .int u125_3)] → W p l e ({ frames := 7, cells := 0, slots := 0, locals := 163 } : Room) s m (List.toArray [.ref h0, .int b1, .int b2]) below meth c H locs 0 0 (MQ below (QiS G r0 A (wW_X11_stands G h0 h1 h2 h3 h4 h5 y0_3 y0_4 y0_6 y0_18 y0_21 y0_22 y0_23 y0_24 y0_25 y0_26 y0_34 y0_38 y0_39 y0_40 y0_41 y0_42 y0_43 y0_46 y0_47 y0_48 x0_5 x0_7 x0_8 x0_9 x0_10 x0_11 x0_12 x0_13 x0_14 x0_15 x0_16 x0_17 x0_19 x0_20 x0_27 x0_28 e_x0_29 e_x0_30 e_x0_31 e_x0_32 x0_35 x0_36 x0_37 x0_44 x0_49 x0_50 e_a1 a2 a3 e_a4 e_a5)) (List.toArray [.ref h0, .int b1, .int b2]) s 0 0 A) (F0 m 125 ls [.int s125_1, .ref h4]) := by
        intro u125_3 s125_1 x0_29_125 x0_30_125 x0_31_125 x0_32_125 a1_125 a4_125 a5_125 hf H locs hP hD hS ls hl
        refine lv_dup2_11 hx hb dX11_stands_125 rfl rfl ?_
        obtain ⟨g1, hf⟩ := of_grd hf
        refine va_iald hx hb hK hP 4 0 rfl rfl g1 dX11_stands_126 ?_
        refine lv_iconst (v := (1 : Int32)) hx hb dX11_stands_127 (by decide) ?_
        refine lv_iadd hx hb dX11_stands_128 ?_
        obtain ⟨g2, hf⟩ := of_grd hf
        refine va_iast hx hb hK hP hD hS 4 0 rfl rfl g2 dX11_stands_129 (fun H locs hP hD hS => ?_)
        have hP : va_P G.1 vwCl (wW_X11_stands G h0 h1 h2 h3 h4 h5 y0_3 y0_4 y0_6 y0_18 y0_21 y0_22 y0_23 y0_24 y0_25 y0_26 y0_34 y0_38 y0_39 y0_40 y0_41 y0_42 y0_43 y0_46 y0_47 y0_48 x0_5 x0_7 x0_8 x0_9 x0_10 x0_11 x0_12 x0_13 x0_14 x0_15 x0_16 x0_17 x0_19 x0_20 x0_27 x0_28 x0_29_125 x0_30_125 x0_31_125 x0_32_125 x0_35 x0_36 x0_37 x0_44 x0_49 x0_50 a1_125 a2 a3 (upd a4_125 s125_1.toNatClampNeg ((a4_125 s125_1.toNatClampNeg) + (1 : Int32))) a5_125) H := hP
        have hD : va_D A (wW_X11_stands G h0 h1 h2 h3 h4 h5 y0_3 y0_4 y0_6 y0_18 y0_21 y0_22 y0_23 y0_24 y0_25 y0_26 y0_34 y0_38 y0_39 y0_40 y0_41 y0_42 y0_43 y0_46 y0_47 y0_48 x0_5 x0_7 x0_8 x0_9 x0_10 x0_11 x0_12 x0_13 x0_14 x0_15 x0_16 x0_17 x0_19 x0_20 x0_27 x0_28 x0_29_125 x0_30_125 x0_31_125 x0_32_125 x0_35 x0_36 x0_37 x0_44 x0_49 x0_50 a1_125 a2 a3 (upd a4_125 s125_1.toNatClampNeg ((a4_125 s125_1.toNatClampNeg) + (1 : Int32))) a5_125) := hD
        refine lv_aload_n hx hb dX11_stands_130 rfl (lv_at hl 0 rfl) ?_
        refine lv_iload_n hx hb dX11_stands_131 rfl (lv_at hl 1 rfl) ?_
        refine lv_iload_n hx hb dX11_stands_132 rfl (lv_at hl 3 rfl) ?_
        refine lv_iconst (v := (1 : Int32)) hx hb dX11_stands_133 (by decide) ?_
        refine lv_aload_n hx hb dX11_stands_134 rfl (lv_at hl 0 rfl) ?_
        refine lv_iload_n hx hb dX11_stands_135 rfl (lv_at hl 1 rfl) ?_
        refine lv_iload_n hx hb dX11_stands_136 rfl (lv_at hl 3 rfl) ?_
        obtain ⟨r_137_2, hc_r_137_2, hf⟩ := of_bnd hf
        refine cl_Vi (w2 := (wW_X11_stands G h0 h1 h2 h3 h4 h5 y0_3 y0_4 y0_6 y0_18 y0_21 y0_22 y0_23 y0_24 y0_25 y0_26 y0_34 y0_38 y0_39 y0_40 y0_41 y0_42 y0_43 y0_46 y0_47 y0_48 x0_5 x0_7 x0_8 x0_9 x0_10 x0_11 x0_12 x0_13 x0_14 x0_15 x0_16 x0_17 x0_19 x0_20 x0_27 x0_28 x0_29_125 x0_30_125 x0_31_125 x0_32_125 x0_35 x0_36 x0_37 x0_44 x0_49 x0_50 a1_125 a2 a3 (upd a4_125 s125_1.toNatClampNeg ((a4_125 s125_1.toNatClampNeg) + (1 : Int32))) a5_125)) (As := [.int c58_1, .int u125_3]) (rest := [.int (1 : Int32), .int u125_3, .int c58_1, .ref h0]) ⟨hx, hb, hml, hown, ht0⟩ (c_X11_bitOf l G h0 h1 h2 h3 y0_3 y0_4 y0_6 y0_18 y0_21 y0_22 y0_23 y0_24 y0_25 y0_26 h4 y0_34 y0_38 y0_39 y0_40 y0_41 y0_42 y0_43 h5 y0_46 y0_47 y0_48 _ x0_5 x0_7 x0_8 x0_9 x0_10 x0_11 x0_12 x0_13 x0_14 x0_15 x0_16 x0_17 x0_19 x0_20 x0_27 x0_28 x0_29_125 x0_30_125 x0_31_125 x0_32_125 x0_35 x0_36 x0_37 x0_44 x0_49 x0_50 a1_125 a2 F c58_1 u125_3 _ hc_r_137_2) yk_X11_bitOf wd_1611 ⟨rfl, rfl, by decide, by decide⟩ ⟨Nat.le_refl _, Nat.le_refl _⟩ hX hK hP hD hS hA [0, 1, 2] [3, 4, 5] [3, 4, 5, 0, 1, 2] (va_recv hK hP (ci := 11) (q0 := 0) rfl rfl) rfl rfl (by decide) rfl rfl rfl rfl rfl hl.1 rfl (Nat.le_of_ble_eq_true rfl) dX11_stands_137 (fun H locs hP hD hS => ?_)
        refine lv_isub hx hb dX11_stands_140 ?_
        obtain ⟨r_141_3_a1, hc_r_141_3, hf⟩ := of_bnd hf
        refine cl_Vv (w2 := (wW_X11_stands G h0 h1 h2 h3 h4 h5 y0_3 y0_4 y0_6 y0_18 y0_21 y0_22 y0_23 y0_24 y0_25 y0_26 y0_34 y0_38 y0_39 y0_40 y0_41 y0_42 y0_43 y0_46 y0_47 y0_48 x0_5 x0_7 x0_8 x0_9 x0_10 x0_11 x0_12 x0_13 x0_14 x0_15 x0_16 x0_17 x0_19 x0_20 x0_27 x0_28 x0_29_125 x0_30_125 x0_31_125 x0_32_125 x0_35 x0_36 x0_37 x0_44 x0_49 x0_50 r_141_3_a1 a2 a3 (upd a4_125 s125_1.toNatClampNeg ((a4_125 s125_1.toNatClampNeg) + (1 : Int32))) a5_125)) (As := [.int c58_1, .int u125_3, .int ((1 : Int32) - r_137_2)]) (rest := []) ⟨hx, hb, hml, hown, ht0⟩ (c_X11_setBit l G h0 h1 h2 h3 y0_3 y0_4 y0_6 y0_18 y0_21 y0_22 y0_23 y0_24 y0_25 y0_26 h4 y0_34 y0_38 y0_39 y0_40 y0_41 y0_42 y0_43 h5 y0_46 y0_47 y0_48 _ x0_5 x0_7 x0_8 x0_9 x0_10 x0_11 x0_12 x0_13 x0_14 x0_15 x0_16 x0_17 x0_19 x0_20 x0_27 x0_28 x0_29_125 x0_30_125 x0_31_125 x0_32_125 x0_35 x0_36 x0_37 x0_44 x0_49 x0_50 a1_125 a2 F c58_1 u125_3 ((1 : Int32) - r_137_2) _ hc_r_141_3) yk_X11_setBit wd_1619 ⟨rfl, rfl, by decide, by decide⟩ ⟨Nat.le_refl _, Nat.le_refl _⟩ hX hK hP hD hS hA [0, 1, 2] [3, 4, 5] [3, 4, 5, 0, 1, 2] (va_recv hK hP (ci := 11) (q0 := 0) rfl rfl) rfl rfl (by decide) rfl rfl rfl rfl rfl hl.1 rfl (Nat.le_of_ble_eq_true rfl) dX11_stands_141 (fun H locs hP hD hS => ?_)
        exact kJ144 _ _ _ _ _ _ _ _ hf _ _ hP hD hS _ (lv_sub hl [0, 1, 2, 3] rfl)
      intro u58_3 x0_29_58 x0_30_58 x0_31_58 x0_32_58 a1_58 a4_58 a5_58 hf H locs hP hD hS ls hl
      have hf : p_X11_stands_L58b F x0_5 a2 a3 c58_1 c58_2 (p_X11_stands_L58 F x0_5 a2 a3 c58_1 c58_2 n58) u58_3 x0_29_58 x0_30_58 x0_31_58 x0_32_58 a1_58 a4_58 a5_58 = some (r0, e_x0_29, e_x0_30, e_x0_31, e_x0_32, e_a1, e_a4, e_a5) := hf
      refine lv_iload_n hx hb dX11_stands_58 rfl (lv_at hl 3 rfl) ?_
      refine lv_aload_n hx hb dX11_stands_59 rfl (lv_at hl 0 rfl) ?_
      obtain ⟨r_60_4, hc_r_60_4, hf⟩ := of_bnd hf
      refine cl_Vi (w2 := (wW_X11_stands G h0 h1 h2 h3 h4 h5 y0_3 y0_4 y0_6 y0_18 y0_21 y0_22 y0_23 y0_24 y0_25 y0_26 y0_34 y0_38 y0_39 y0_40 y0_41 y0_42 y0_43 y0_46 y0_47 y0_48 x0_5 x0_7 x0_8 x0_9 x0_10 x0_11 x0_12 x0_13 x0_14 x0_15 x0_16 x0_17 x0_19 x0_20 x0_27 x0_28 x0_29_58 x0_30_58 x0_31_58 x0_32_58 x0_35 x0_36 x0_37 x0_44 x0_49 x0_50 a1_58 a2 a3 a4_58 a5_58)) (As := []) (rest := [.int u58_3]) ⟨hx, hb, hml, hown, ht0⟩ (c_X11_places l G h0 h2 h3 h1 y0_3 y0_4 y0_6 y0_18 y0_21 y0_22 y0_23 y0_24 y0_25 y0_26 h4 y0_34 y0_38 y0_39 y0_40 y0_41 y0_42 y0_43 h5 y0_46 y0_47 y0_48 _ x0_5 x0_7 x0_8 x0_9 x0_10 x0_11 x0_12 x0_13 x0_14 x0_15 x0_16 x0_17 x0_19 x0_20 x0_27 x0_28 x0_29_58 x0_30_58 x0_31_58 x0_32_58 x0_35 x0_36 x0_37 x0_44 x0_49 x0_50 a2 a3 F _ hc_r_60_4) yk_X11_places wd_1572 ⟨rfl, rfl, by decide, by decide⟩ ⟨Nat.le_refl _, Nat.le_refl _⟩ hX hK hP hD hS hA [0, 2, 3] [1, 4, 5] [3, 0, 4, 5, 1, 2] (va_recv hK hP (ci := 11) (q0 := 0) rfl rfl) rfl rfl (by decide) rfl rfl rfl rfl rfl hl.1 rfl (Nat.le_of_ble_eq_true rfl) dX11_stands_60 (fun H locs hP hD hS => ?_)
      refine lv_icmp_ge (tgt := 150) hx hb dX11_stands_63 (by decide) (fun c6 => ?_) (fun c6 => ?_)
      · have hf := of_pos hf c6
        refine lv_aload_n hx hb dX11_stands_150 rfl (lv_at hl 0 rfl) ?_
        obtain ⟨r_151_6_a1, hc_r_151_6, hf⟩ := of_bnd hf
        refine cl_Vv (w2 := (wW_X11_stands G h0 h1 h2 h3 h4 h5 y0_3 y0_4 y0_6 y0_18 y0_21 y0_22 y0_23 y0_24 y0_25 y0_26 y0_34 y0_38 y0_39 y0_40 y0_41 y0_42 y0_43 y0_46 y0_47 y0_48 x0_5 x0_7 x0_8 x0_9 x0_10 x0_11 x0_12 x0_13 x0_14 x0_15 x0_16 x0_17 x0_19 x0_20 x0_27 x0_28 x0_29_58 x0_30_58 x0_31_58 x0_32_58 x0_35 x0_36 x0_37 x0_44 x0_49 x0_50 r_151_6_a1 a2 a3 a4_58 a5_58)) (As := []) (rest := []) ⟨hx, hb, hml, hown, ht0⟩ (c_X11_bringBack l G h0 h1 h5 h2 h3 y0_3 y0_4 y0_6 y0_18 y0_21 y0_22 y0_23 y0_24 y0_25 y0_26 h4 y0_34 y0_38 y0_39 y0_40 y0_41 y0_42 y0_43 y0_46 y0_47 y0_48 _ x0_5 x0_7 x0_8 x0_9 x0_10 x0_11 x0_12 x0_13 x0_14 x0_15 x0_16 x0_17 x0_19 x0_20 x0_27 x0_28 x0_29_58 x0_30_58 x0_31_58 x0_32_58 x0_35 x0_36 x0_37 x0_44 x0_49 x0_50 a1_58 a5_58 F _ hc_r_151_6) yk_X11_bringBack wd_1825 ⟨rfl, rfl, by decide, by decide⟩ ⟨Nat.le_refl _, Nat.le_refl _⟩ hX hK hP hD hS hA [0, 1, 5] [2, 3, 4] [3, 4, 0, 1, 2, 5] (va_recv hK hP (ci := 11) (q0 := 0) rfl rfl) rfl rfl (by decide) rfl rfl rfl rfl rfl hl.1 rfl (Nat.le_of_ble_eq_true rfl) dX11_stands_151 (fun H locs hP hD hS => ?_)
        refine lv_aload_n hx hb dX11_stands_154 rfl (lv_at hl 0 rfl) ?_
        refine va_get (ci := 11) (v := .ref h4) (C := RX11) (T := TX11) (N := 51) hx hb ht0 iX11 hown hK hP 0 rfl rfl 33 (by decide) (ht0 _ wd_1439) (fun _ h9 => h9) rfl dX11_stands_155 ?_
        refine lv_iload_n hx hb dX11_stands_158 rfl (lv_at hl 2 rfl) ?_
        obtain ⟨g8, hf⟩ := of_grd hf
        refine va_iald hx hb hK hP 4 0 rfl rfl g8 dX11_stands_159 ?_
        cases hf
        exact ret_i hx hb hr hlk hK hP hD hS dX11_stands_160
      · have hf := of_neg hf c6
        refine lv_aload_n hx hb dX11_stands_66 rfl (lv_at hl 0 rfl) ?_
        refine lv_iload_n hx hb dX11_stands_67 rfl (lv_at hl 1 rfl) ?_
        refine lv_iload_n hx hb dX11_stands_68 rfl (lv_at hl 3 rfl) ?_
        obtain ⟨r_69_8, hc_r_69_8, hf⟩ := of_bnd hf
        refine cl_Vi (w2 := (wW_X11_stands G h0 h1 h2 h3 h4 h5 y0_3 y0_4 y0_6 y0_18 y0_21 y0_22 y0_23 y0_24 y0_25 y0_26 y0_34 y0_38 y0_39 y0_40 y0_41 y0_42 y0_43 y0_46 y0_47 y0_48 x0_5 x0_7 x0_8 x0_9 x0_10 x0_11 x0_12 x0_13 x0_14 x0_15 x0_16 x0_17 x0_19 x0_20 x0_27 x0_28 x0_29_58 x0_30_58 x0_31_58 x0_32_58 x0_35 x0_36 x0_37 x0_44 x0_49 x0_50 a1_58 a2 a3 a4_58 a5_58)) (As := [.int c58_1, .int u58_3]) (rest := []) ⟨hx, hb, hml, hown, ht0⟩ (c_X11_isStuck l G h0 h1 h2 h3 y0_3 y0_4 y0_6 y0_18 y0_21 y0_22 y0_23 y0_24 y0_25 y0_26 h4 y0_34 y0_38 y0_39 y0_40 y0_41 y0_42 y0_43 h5 y0_46 y0_47 y0_48 _ x0_5 x0_7 x0_8 x0_9 x0_10 x0_11 x0_12 x0_13 x0_14 x0_15 x0_16 x0_17 x0_19 x0_20 x0_27 x0_28 x0_29_58 x0_30_58 x0_31_58 x0_32_58 x0_35 x0_36 x0_37 x0_44 x0_49 x0_50 a1_58 F c58_1 u58_3 _ hc_r_69_8) yk_X11_isStuck wd_1699 ⟨rfl, rfl, by decide, by decide⟩ ⟨Nat.le_refl _, Nat.le_refl _⟩ hX hK hP hD hS hA [0, 1] [2, 3, 4, 5] [4, 5, 0, 1, 2, 3] (va_recv hK hP (ci := 11) (q0 := 0) rfl rfl) rfl rfl (by decide) rfl rfl rfl rfl rfl hl.1 rfl (Nat.le_of_ble_eq_true rfl) dX11_stands_69 (fun H locs hP hD hS => ?_)
        refine lv_if_eq (tgt := 78) hx hb dX11_stands_72 (by decide) (fun c10 => ?_) (fun c10 => ?_)
        · have hf := of_pos hf c10
          refine lv_aload_n hx hb dX11_stands_78 rfl (lv_at hl 0 rfl) ?_
          refine lv_iload_n hx hb dX11_stands_79 rfl (lv_at hl 1 rfl) ?_
          refine lv_iload_n hx hb dX11_stands_80 rfl (lv_at hl 3 rfl) ?_
          refine lv_iconst (v := (1 : Int32)) hx hb dX11_stands_81 (by decide) ?_
          refine lv_aload_n hx hb dX11_stands_82 rfl (lv_at hl 0 rfl) ?_
          refine lv_iload_n hx hb dX11_stands_83 rfl (lv_at hl 1 rfl) ?_
          refine lv_iload_n hx hb dX11_stands_84 rfl (lv_at hl 3 rfl) ?_
          obtain ⟨r_85_10, hc_r_85_10, hf⟩ := of_bnd hf
          refine cl_Vi (w2 := (wW_X11_stands G h0 h1 h2 h3 h4 h5 y0_3 y0_4 y0_6 y0_18 y0_21 y0_22 y0_23 y0_24 y0_25 y0_26 y0_34 y0_38 y0_39 y0_40 y0_41 y0_42 y0_43 y0_46 y0_47 y0_48 x0_5 x0_7 x0_8 x0_9 x0_10 x0_11 x0_12 x0_13 x0_14 x0_15 x0_16 x0_17 x0_19 x0_20 x0_27 x0_28 x0_29_58 x0_30_58 x0_31_58 x0_32_58 x0_35 x0_36 x0_37 x0_44 x0_49 x0_50 a1_58 a2 a3 a4_58 a5_58)) (As := [.int c58_1, .int u58_3]) (rest := [.int (1 : Int32), .int u58_3, .int c58_1, .ref h0]) ⟨hx, hb, hml, hown, ht0⟩ (c_X11_bitOf l G h0 h1 h2 h3 y0_3 y0_4 y0_6 y0_18 y0_21 y0_22 y0_23 y0_24 y0_25 y0_26 h4 y0_34 y0_38 y0_39 y0_40 y0_41 y0_42 y0_43 h5 y0_46 y0_47 y0_48 _ x0_5 x0_7 x0_8 x0_9 x0_10 x0_11 x0_12 x0_13 x0_14 x0_15 x0_16 x0_17 x0_19 x0_20 x0_27 x0_28 x0_29_58 x0_30_58 x0_31_58 x0_32_58 x0_35 x0_36 x0_37 x0_44 x0_49 x0_50 a1_58 a2 F c58_1 u58_3 _ hc_r_85_10) yk_X11_bitOf wd_1611 ⟨rfl, rfl, by decide, by decide⟩ ⟨Nat.le_refl _, Nat.le_refl _⟩ hX hK hP hD hS hA [0, 1, 2] [3, 4, 5] [3, 4, 5, 0, 1, 2] (va_recv hK hP (ci := 11) (q0 := 0) rfl rfl) rfl rfl (by decide) rfl rfl rfl rfl rfl hl.1 rfl (Nat.le_of_ble_eq_true rfl) dX11_stands_85 (fun H locs hP hD hS => ?_)
          refine lv_isub hx hb dX11_stands_88 ?_
          obtain ⟨r_89_11_a1, hc_r_89_11, hf⟩ := of_bnd hf
          refine cl_Vv (w2 := (wW_X11_stands G h0 h1 h2 h3 h4 h5 y0_3 y0_4 y0_6 y0_18 y0_21 y0_22 y0_23 y0_24 y0_25 y0_26 y0_34 y0_38 y0_39 y0_40 y0_41 y0_42 y0_43 y0_46 y0_47 y0_48 x0_5 x0_7 x0_8 x0_9 x0_10 x0_11 x0_12 x0_13 x0_14 x0_15 x0_16 x0_17 x0_19 x0_20 x0_27 x0_28 x0_29_58 x0_30_58 x0_31_58 x0_32_58 x0_35 x0_36 x0_37 x0_44 x0_49 x0_50 r_89_11_a1 a2 a3 a4_58 a5_58)) (As := [.int c58_1, .int u58_3, .int ((1 : Int32) - r_85_10)]) (rest := []) ⟨hx, hb, hml, hown, ht0⟩ (c_X11_setBit l G h0 h1 h2 h3 y0_3 y0_4 y0_6 y0_18 y0_21 y0_22 y0_23 y0_24 y0_25 y0_26 h4 y0_34 y0_38 y0_39 y0_40 y0_41 y0_42 y0_43 h5 y0_46 y0_47 y0_48 _ x0_5 x0_7 x0_8 x0_9 x0_10 x0_11 x0_12 x0_13 x0_14 x0_15 x0_16 x0_17 x0_19 x0_20 x0_27 x0_28 x0_29_58 x0_30_58 x0_31_58 x0_32_58 x0_35 x0_36 x0_37 x0_44 x0_49 x0_50 a1_58 a2 F c58_1 u58_3 ((1 : Int32) - r_85_10) _ hc_r_89_11) yk_X11_setBit wd_1619 ⟨rfl, rfl, by decide, by decide⟩ ⟨Nat.le_refl _, Nat.le_refl _⟩ hX hK hP hD hS hA [0, 1, 2] [3, 4, 5] [3, 4, 5, 0, 1, 2] (va_recv hK hP (ci := 11) (q0 := 0) rfl rfl) rfl rfl (by decide) rfl rfl rfl rfl rfl hl.1 rfl (Nat.le_of_ble_eq_true rfl) dX11_stands_89 (fun H locs hP hD hS => ?_)
          refine lv_aload_n hx hb dX11_stands_92 rfl (lv_at hl 0 rfl) ?_
          refine lv_iload_n hx hb dX11_stands_93 rfl (lv_at hl 1 rfl) ?_
          obtain ⟨⟨r_94_12_x0_29, r_94_12_x0_30, r_94_12_x0_31, r_94_12_x0_32⟩, hc_r_94_12, hf⟩ := of_bnd hf
          refine cl_Vv (w2 := (wW_X11_stands G h0 h1 h2 h3 h4 h5 y0_3 y0_4 y0_6 y0_18 y0_21 y0_22 y0_23 y0_24 y0_25 y0_26 y0_34 y0_38 y0_39 y0_40 y0_41 y0_42 y0_43 y0_46 y0_47 y0_48 x0_5 x0_7 x0_8 x0_9 x0_10 x0_11 x0_12 x0_13 x0_14 x0_15 x0_16 x0_17 x0_19 x0_20 x0_27 x0_28 r_94_12_x0_29 r_94_12_x0_30 r_94_12_x0_31 r_94_12_x0_32 x0_35 x0_36 x0_37 x0_44 x0_49 x0_50 r_89_11_a1 a2 a3 a4_58 a5_58)) (As := [.int c58_1]) (rest := []) ⟨hx, hb, hml, hown, ht0⟩ (c_X11_readWordNow l G h0 h1 h2 h3 y0_3 y0_4 y0_6 y0_18 y0_21 y0_22 y0_23 y0_24 y0_25 y0_26 h4 y0_34 y0_38 y0_39 y0_40 y0_41 y0_42 y0_43 h5 y0_46 y0_47 y0_48 _ x0_5 x0_7 x0_8 x0_9 x0_10 x0_11 x0_12 x0_13 x0_14 x0_15 x0_16 x0_17 x0_19 x0_20 x0_27 x0_28 x0_29_58 x0_30_58 x0_31_58 x0_32_58 x0_35 x0_36 x0_37 x0_44 x0_49 x0_50 r_89_11_a1 a2 a3 F c58_1 _ _ _ _ hc_r_94_12) yk_X11_readWordNow wd_1627 ⟨rfl, rfl, by decide, by decide⟩ ⟨Nat.le_refl _, Nat.le_refl _⟩ hX hK hP hD hS hA [0, 1, 2, 3] [4, 5] [2, 3, 4, 5, 0, 1] (va_recv hK hP (ci := 11) (q0 := 0) rfl rfl) rfl rfl (by decide) rfl rfl rfl rfl rfl hl.1 rfl (Nat.le_of_ble_eq_true rfl) dX11_stands_94 (fun H locs hP hD hS => ?_)
          refine lv_aload_n hx hb dX11_stands_97 rfl (lv_at hl 0 rfl) ?_
          refine va_get (ci := 11) (v := .ref h4) (C := RX11) (T := TX11) (N := 51) hx hb ht0 iX11 hown hK hP 0 rfl rfl 33 (by decide) (ht0 _ wd_1439) (fun _ h9 => h9) rfl dX11_stands_98 ?_
          refine lv_aload_n hx hb dX11_stands_101 rfl (lv_at hl 0 rfl) ?_
          obtain ⟨r_102_13, hc_r_102_13, hf⟩ := of_bnd hf
          refine cl_Vi (w2 := (wW_X11_stands G h0 h1 h2 h3 h4 h5 y0_3 y0_4 y0_6 y0_18 y0_21 y0_22 y0_23 y0_24 y0_25 y0_26 y0_34 y0_38 y0_39 y0_40 y0_41 y0_42 y0_43 y0_46 y0_47 y0_48 x0_5 x0_7 x0_8 x0_9 x0_10 x0_11 x0_12 x0_13 x0_14 x0_15 x0_16 x0_17 x0_19 x0_20 x0_27 x0_28 r_94_12_x0_29 r_94_12_x0_30 r_94_12_x0_31 r_94_12_x0_32 x0_35 x0_36 x0_37 x0_44 x0_49 x0_50 r_89_11_a1 a2 a3 a4_58 a5_58)) (As := []) (rest := [.ref h4]) ⟨hx, hb, hml, hown, ht0⟩ (c_X11_isTold l G h0 h1 h2 h3 y0_3 y0_4 y0_6 y0_18 y0_21 y0_22 y0_23 y0_24 y0_25 y0_26 h4 y0_34 y0_38 y0_39 y0_40 y0_41 y0_42 y0_43 h5 y0_46 y0_47 y0_48 _ x0_5 x0_7 x0_8 x0_9 x0_10 x0_11 x0_12 x0_13 x0_14 x0_15 x0_16 x0_17 x0_19 x0_20 x0_27 x0_28 r_94_12_x0_29 r_94_12_x0_30 r_94_12_x0_31 r_94_12_x0_32 x0_35 x0_36 x0_37 x0_44 x0_49 x0_50 F _ hc_r_102_13) yk_X11_isTold wd_1659 ⟨rfl, rfl, by decide, by decide⟩ ⟨Nat.le_refl _, Nat.le_refl _⟩ hX hK hP hD hS hA [0] [1, 2, 3, 4, 5] [5, 0, 1, 2, 3, 4] (va_recv hK hP (ci := 11) (q0 := 0) rfl rfl) rfl rfl (by decide) rfl rfl rfl rfl rfl hl.1 rfl (Nat.le_of_ble_eq_true rfl) dX11_stands_102 (fun H locs hP hD hS => ?_)
          refine lv_if_eq (tgt := 112) hx hb dX11_stands_105 (by decide) (fun c15 => ?_) (fun c15 => ?_)
          · have hf := of_pos hf c15
            refine lv_aload_n hx hb dX11_stands_112 rfl (lv_at hl 0 rfl) ?_
            refine lv_iload_n hx hb dX11_stands_113 rfl (lv_at hl 1 rfl) ?_
            obtain ⟨r_114_15, hc_r_114_15, hf⟩ := of_bnd hf
            refine cl_Vi (w2 := (wW_X11_stands G h0 h1 h2 h3 h4 h5 y0_3 y0_4 y0_6 y0_18 y0_21 y0_22 y0_23 y0_24 y0_25 y0_26 y0_34 y0_38 y0_39 y0_40 y0_41 y0_42 y0_43 y0_46 y0_47 y0_48 x0_5 x0_7 x0_8 x0_9 x0_10 x0_11 x0_12 x0_13 x0_14 x0_15 x0_16 x0_17 x0_19 x0_20 x0_27 x0_28 r_94_12_x0_29 r_94_12_x0_30 r_94_12_x0_31 r_94_12_x0_32 x0_35 x0_36 x0_37 x0_44 x0_49 x0_50 r_89_11_a1 a2 a3 a4_58 a5_58)) (As := [.int c58_1]) (rest := [.ref h4]) ⟨hx, hb, hml, hown, ht0⟩ (c_X11_isRight l G h0 h1 h2 h3 y0_3 y0_4 y0_6 y0_18 y0_21 y0_22 y0_23 y0_24 y0_25 y0_26 h4 y0_34 y0_38 y0_39 y0_40 y0_41 y0_42 y0_43 h5 y0_46 y0_47 y0_48 _ x0_5 x0_7 x0_8 x0_9 x0_10 x0_11 x0_12 x0_13 x0_14 x0_15 x0_16 x0_17 x0_19 x0_20 x0_27 x0_28 r_94_12_x0_29 r_94_12_x0_30 r_94_12_x0_31 r_94_12_x0_32 x0_35 x0_36 x0_37 x0_44 x0_49 x0_50 r_89_11_a1 a2 F c58_1 _ hc_r_114_15) yk_X11_isRight wd_1667 ⟨rfl, rfl, by decide, by decide⟩ ⟨Nat.le_refl _, Nat.le_refl _⟩ hX hK hP hD hS hA [0, 1, 2] [3, 4, 5] [3, 4, 5, 0, 1, 2] (va_recv hK hP (ci := 11) (q0 := 0) rfl rfl) rfl rfl (by decide) rfl rfl rfl rfl rfl hl.1 rfl (Nat.le_of_ble_eq_true rfl) dX11_stands_114 (fun H locs hP hD hS => ?_)
            refine lv_if_eq (tgt := 124) hx hb dX11_stands_117 (by decide) (fun c17 => ?_) (fun c17 => ?_)
            · have hf := of_pos hf c17
              refine lv_iconst (v := (2 : Int32)) hx hb dX11_stands_124 (by decide) ?_
              exact kJ125 _ _ _ _ _ _ _ _ _ hf _ _ hP hD hS _ (lv_sub hl [0, 1, 2, 3] rfl)
            · have hf := of_neg hf c17
              refine lv_iconst (v := (0 : Int32)) hx hb dX11_stands_120 (by decide) ?_
              refine lv_goto (tgt := 125) hx hb dX11_stands_121 (by decide) ?_
              exact kJ125 _ _ _ _ _ _ _ _ _ hf _ _ hP hD hS _ (lv_sub hl [0, 1, 2, 3] rfl)
          · have hf := of_neg hf c15
            refine lv_iconst (v := (1 : Int32)) hx hb dX11_stands_108 (by decide) ?_
            refine lv_goto (tgt := 125) hx hb dX11_stands_109 (by decide) ?_
            exact kJ125 _ _ _ _ _ _ _ _ _ hf _ _ hP hD hS _ (lv_sub hl [0, 1, 2, 3] rfl)
        · have hf := of_neg hf c10
          refine lv_goto (tgt := 144) hx hb dX11_stands_75 (by decide) ?_
          exact kJ144 _ _ _ _ _ _ _ _ hf _ _ hP hD hS _ (lv_sub hl [0, 1, 2, 3] rfl)
  have kL38 : ∀ (c38_1 : Int32) (c38_2 : Int32) (n38 : Nat) (u38_3 : Int32) (x0_29_38 : Int32) (x0_30_38 : Int32) (x0_31_38 : Int32) (x0_32_38 : Int32) (a1_38 : Nat → Int32) (a4_38 : Nat → Int32) (a5_38 : Nat → Int32), p_X11_stands_L38 F x0_5 a2 a3 c38_1 c38_2 n38 u38_3 x0_29_38 x0_30_38 x0_31_38 x0_32_38 a1_38 a4_38 a5_38 = some (r0, e_x0_29, e_x0_30, e_x0_31, e_x0_32, e_a1, e_a4, e_a5) → ∀ (H : Heap) (locs : List Loc), va_P G.1 vwCl (wW_X11_stands G h0 h1 h2 h3 h4 h5 y0_3 y0_4 y0_6 y0_18 y0_21 y0_22 y0_23 y0_24 y0_25 y0_26 y0_34 y0_38 y0_39 y0_40 y0_41 y0_42 y0_43 y0_46 y0_47 y0_48 x0_5 x0_7 x0_8 x0_9 x0_10 x0_11 x0_12 x0_13 x0_14 x0_15 x0_16 x0_17 x0_19 x0_20 x0_27 x0_28 x0_29_38 x0_30_38 x0_31_38 x0_32_38 x0_35 x0_36 x0_37 x0_44 x0_49 x0_50 a1_38 a2 a3 a4_38 a5_38) H → va_D A (wW_X11_stands G h0 h1 h2 h3 h4 h5 y0_3 y0_4 y0_6 y0_18 y0_21 y0_22 y0_23 y0_24 y0_25 y0_26 y0_34 y0_38 y0_39 y0_40 y0_41 y0_42 y0_43 y0_46 y0_47 y0_48 x0_5 x0_7 x0_8 x0_9 x0_10 x0_11 x0_12 x0_13 x0_14 x0_15 x0_16 x0_17 x0_19 x0_20 x0_27 x0_28 x0_29_38 x0_30_38 x0_31_38 x0_32_38 x0_35 x0_36 x0_37 x0_44 x0_49 x0_50 a1_38 a2 a3 a4_38 a5_38) → va_S A s.heap H locs → ∀ ls : Array Slot, lv_has ls 4 [(0, .ref h0), (1, .int c38_1), (2, .int c38_2), (3, .int u38_3)] → W p l e ({ frames := 7, cells := 0, slots := 0, locals := 163 } : Room) s m (List.toArray [.ref h0, .int b1, .int b2]) below meth c H locs 0 0 (MQ below (QiS G r0 A (wW_X11_stands G h0 h1 h2 h3 h4 h5 y0_3 y0_4 y0_6 y0_18 y0_21 y0_22 y0_23 y0_24 y0_25 y0_26 y0_34 y0_38 y0_39 y0_40 y0_41 y0_42 y0_43 y0_46 y0_47 y0_48 x0_5 x0_7 x0_8 x0_9 x0_10 x0_11 x0_12 x0_13 x0_14 x0_15 x0_16 x0_17 x0_19 x0_20 x0_27 x0_28 e_x0_29 e_x0_30 e_x0_31 e_x0_32 x0_35 x0_36 x0_37 x0_44 x0_49 x0_50 e_a1 a2 a3 e_a4 e_a5)) (List.toArray [.ref h0, .int b1, .int b2]) s 0 0 A) (F0 m 38 ls []) := by
    intro c38_1 c38_2 n38
    induction n38 with
    | zero =>
      intro u38_3 x0_29_38 x0_30_38 x0_31_38 x0_32_38 a1_38 a4_38 a5_38 hf
      cases hf
    | succ n38 ih38 =>
      intro u38_3 x0_29_38 x0_30_38 x0_31_38 x0_32_38 a1_38 a4_38 a5_38 hf H locs hP hD hS ls hl
      have hf : p_X11_stands_L38b F x0_5 a2 a3 c38_1 c38_2 (p_X11_stands_L38 F x0_5 a2 a3 c38_1 c38_2 n38) u38_3 x0_29_38 x0_30_38 x0_31_38 x0_32_38 a1_38 a4_38 a5_38 = some (r0, e_x0_29, e_x0_30, e_x0_31, e_x0_32, e_a1, e_a4, e_a5) := hf
      refine lv_iload_n hx hb dX11_stands_38 rfl (lv_at hl 3 rfl) ?_
      refine lv_iconst (v := (3 : Int32)) hx hb dX11_stands_39 (by decide) ?_
      refine lv_icmp_ge (tgt := 56) hx hb dX11_stands_40 (by decide) (fun c18 => ?_) (fun c18 => ?_)
      · have hf := of_pos hf c18
        refine lv_iconst (v := (0 : Int32)) hx hb dX11_stands_56 (by decide) ?_
        refine lv_istore_n (lv' := [(3, .int (0 : Int32)), (0, .ref h0), (1, .int c38_1), (2, .int c38_2)]) hx hb dX11_stands_57 rfl hl (by decide) rfl (fun ls hl => ?_)
        exact kL58 _ _ _ _ _ _ _ _ _ _ _ hf _ _ hP hD hS _ (lv_sub hl [1, 2, 3, 0] rfl)
      · have hf := of_neg hf c18
        refine lv_aload_n hx hb dX11_stands_43 rfl (lv_at hl 0 rfl) ?_
        refine va_get (ci := 11) (v := .ref h4) (C := RX11) (T := TX11) (N := 51) hx hb ht0 iX11 hown hK hP 0 rfl rfl 33 (by decide) (ht0 _ wd_1439) (fun _ h9 => h9) rfl dX11_stands_44 ?_
        refine lv_iload_n hx hb dX11_stands_47 rfl (lv_at hl 3 rfl) ?_
        refine lv_iconst (v := (0 : Int32)) hx hb dX11_stands_48 (by decide) ?_
        obtain ⟨g19, hf⟩ := of_grd hf
        refine va_iast hx hb hK hP hD hS 4 0 rfl rfl g19 dX11_stands_49 (fun H locs hP hD hS => ?_)
        have hP : va_P G.1 vwCl (wW_X11_stands G h0 h1 h2 h3 h4 h5 y0_3 y0_4 y0_6 y0_18 y0_21 y0_22 y0_23 y0_24 y0_25 y0_26 y0_34 y0_38 y0_39 y0_40 y0_41 y0_42 y0_43 y0_46 y0_47 y0_48 x0_5 x0_7 x0_8 x0_9 x0_10 x0_11 x0_12 x0_13 x0_14 x0_15 x0_16 x0_17 x0_19 x0_20 x0_27 x0_28 x0_29_38 x0_30_38 x0_31_38 x0_32_38 x0_35 x0_36 x0_37 x0_44 x0_49 x0_50 a1_38 a2 a3 (upd a4_38 u38_3.toNatClampNeg (0 : Int32)) a5_38) H := hP
        have hD : va_D A (wW_X11_stands G h0 h1 h2 h3 h4 h5 y0_3 y0_4 y0_6 y0_18 y0_21 y0_22 y0_23 y0_24 y0_25 y0_26 y0_34 y0_38 y0_39 y0_40 y0_41 y0_42 y0_43 y0_46 y0_47 y0_48 x0_5 x0_7 x0_8 x0_9 x0_10 x0_11 x0_12 x0_13 x0_14 x0_15 x0_16 x0_17 x0_19 x0_20 x0_27 x0_28 x0_29_38 x0_30_38 x0_31_38 x0_32_38 x0_35 x0_36 x0_37 x0_44 x0_49 x0_50 a1_38 a2 a3 (upd a4_38 u38_3.toNatClampNeg (0 : Int32)) a5_38) := hD
        refine lv_iinc (v := u38_3 + (1 : Int32)) (lv' := [(3, .int (u38_3 + (1 : Int32))), (0, .ref h0), (1, .int c38_1), (2, .int c38_2)]) hx hb dX11_stands_50 hl (k := 3) rfl (by rfl) (by decide) rfl (fun ls hl => ?_)
        refine lv_goto (tgt := 38) hx hb dX11_stands_53 (by decide) ?_
        exact ih38 _ _ _ _ _ _ _ _ hf _ _ hP hD hS _ (lv_sub hl [1, 2, 3, 0] rfl)
  refine lv_iload_n hx hb dX11_stands_0 rfl (lv_at hl 1 rfl) ?_
  obtain ⟨r_1_19, hc_r_1_19, hf⟩ := of_bnd hf
  refine cl_Si (w2 := (wW_X11_stands G h0 h1 h2 h3 h4 h5 y0_3 y0_4 y0_6 y0_18 y0_21 y0_22 y0_23 y0_24 y0_25 y0_26 y0_34 y0_38 y0_39 y0_40 y0_41 y0_42 y0_43 y0_46 y0_47 y0_48 x0_5 x0_7 x0_8 x0_9 x0_10 x0_11 x0_12 x0_13 x0_14 x0_15 x0_16 x0_17 x0_19 x0_20 x0_27 x0_28 x0_29 x0_30 x0_31 x0_32 x0_35 x0_36 x0_37 x0_44 x0_49 x0_50 a1 a2 a3 a4 a5)) (As := [.int b1]) (rest := []) ⟨hx, hb, hml, hown, ht0⟩ (c_X11_isWordAt l G _ F b1 _ hc_r_1_19) yk_X11_isWordAt wd_1588 ⟨rfl, rfl, by decide, by decide⟩ ⟨Nat.le_refl _, Nat.le_refl _⟩ hX hK hP hD hS hA [] [0, 1, 2, 3, 4, 5] [0, 1, 2, 3, 4, 5] rfl rfl (by decide) rfl rfl rfl rfl rfl hl.1 rfl (Nat.le_of_ble_eq_true rfl) dX11_stands_1 (fun H locs hP hD hS => ?_)
  refine lv_if_eq (tgt := 16) hx hb dX11_stands_4 (by decide) (fun c21 => ?_) (fun c21 => ?_)
  · have hf := of_pos hf c21
    refine lv_iconst (v := (-1 : Int32)) hx hb dX11_stands_16 (by decide) ?_
    cases hf
    exact ret_i hx hb hr hlk hK hP hD hS dX11_stands_17
  · have hf := of_neg hf c21
    refine lv_iload_n hx hb dX11_stands_7 rfl (lv_at hl 2 rfl) ?_
    refine lv_iconst (v := (0 : Int32)) hx hb dX11_stands_8 (by decide) ?_
    refine lv_iconst (v := (2 : Int32)) hx hb dX11_stands_9 (by decide) ?_
    obtain ⟨r_10_21, hc_r_10_21, hf⟩ := of_bnd hf
    refine cl_Si (w2 := (wW_X11_stands G h0 h1 h2 h3 h4 h5 y0_3 y0_4 y0_6 y0_18 y0_21 y0_22 y0_23 y0_24 y0_25 y0_26 y0_34 y0_38 y0_39 y0_40 y0_41 y0_42 y0_43 y0_46 y0_47 y0_48 x0_5 x0_7 x0_8 x0_9 x0_10 x0_11 x0_12 x0_13 x0_14 x0_15 x0_16 x0_17 x0_19 x0_20 x0_27 x0_28 x0_29 x0_30 x0_31 x0_32 x0_35 x0_36 x0_37 x0_44 x0_49 x0_50 a1 a2 a3 a4 a5)) (As := [.int b2, .int (0 : Int32), .int (2 : Int32)]) (rest := []) ⟨hx, hb, hml, hown, ht0⟩ (c_X11_isIn l G _ F b2 (0 : Int32) (2 : Int32) _ hc_r_10_21) yk_X11_isIn wd_1321 ⟨rfl, rfl, by decide, by decide⟩ ⟨Nat.le_refl _, Nat.le_refl _⟩ hX hK hP hD hS hA [] [0, 1, 2, 3, 4, 5] [0, 1, 2, 3, 4, 5] rfl rfl (by decide) rfl rfl rfl rfl rfl hl.1 rfl (Nat.le_of_ble_eq_true rfl) dX11_stands_10 (fun H locs hP hD hS => ?_)
    refine lv_if_ne (tgt := 18) hx hb dX11_stands_13 (by decide) (fun c23 => ?_) (fun c23 => ?_)
    · have hf := of_neg hf c23
      refine lv_aload_n hx hb dX11_stands_18 rfl (lv_at hl 0 rfl) ?_
      obtain ⟨r_19_23_a2, hc_r_19_23, hf⟩ := of_bnd hf
      refine cl_Vv (w2 := (wW_X11_stands G h0 h1 h2 h3 h4 h5 y0_3 y0_4 y0_6 y0_18 y0_21 y0_22 y0_23 y0_24 y0_25 y0_26 y0_34 y0_38 y0_39 y0_40 y0_41 y0_42 y0_43 y0_46 y0_47 y0_48 x0_5 x0_7 x0_8 x0_9 x0_10 x0_11 x0_12 x0_13 x0_14 x0_15 x0_16 x0_17 x0_19 x0_20 x0_27 x0_28 x0_29 x0_30 x0_31 x0_32 x0_35 x0_36 x0_37 x0_44 x0_49 x0_50 a1 a2 a3 a4 r_19_23_a2)) (As := []) (rest := []) ⟨hx, hb, hml, hown, ht0⟩ (c_X11_putAside l G h0 h1 h5 h2 h3 y0_3 y0_4 y0_6 y0_18 y0_21 y0_22 y0_23 y0_24 y0_25 y0_26 h4 y0_34 y0_38 y0_39 y0_40 y0_41 y0_42 y0_43 y0_46 y0_47 y0_48 _ x0_5 x0_7 x0_8 x0_9 x0_10 x0_11 x0_12 x0_13 x0_14 x0_15 x0_16 x0_17 x0_19 x0_20 x0_27 x0_28 x0_29 x0_30 x0_31 x0_32 x0_35 x0_36 x0_37 x0_44 x0_49 x0_50 a1 a5 F _ hc_r_19_23) yk_X11_putAside wd_1821 ⟨rfl, rfl, by decide, by decide⟩ ⟨Nat.le_refl _, Nat.le_refl _⟩ hX hK hP hD hS hA [0, 1, 5] [2, 3, 4] [3, 4, 0, 1, 2, 5] (va_recv hK hP (ci := 11) (q0 := 0) rfl rfl) rfl rfl (by decide) rfl rfl rfl rfl rfl hl.1 rfl (Nat.le_of_ble_eq_true rfl) dX11_stands_19 (fun H locs hP hD hS => ?_)
      refine lv_aload_n hx hb dX11_stands_22 rfl (lv_at hl 0 rfl) ?_
      refine lv_iload_n hx hb dX11_stands_23 rfl (lv_at hl 1 rfl) ?_
      refine lv_aload_n hx hb dX11_stands_24 rfl (lv_at hl 0 rfl) ?_
      refine va_get (ci := 11) (v := .ref h1) (C := RX11) (T := TX11) (N := 51) hx hb ht0 iX11 hown hK hP 0 rfl rfl 0 (by decide) (ht0 _ wd_1406) (fun _ h9 => h9) rfl dX11_stands_25 ?_
      refine lv_bipush (v := (65 : Int32)) hx hb dX11_stands_28 (by decide) ?_
      refine lv_iload_n hx hb dX11_stands_30 rfl (lv_at hl 1 rfl) ?_
      refine lv_iadd hx hb dX11_stands_31 ?_
      obtain ⟨g25, hf⟩ := of_grd hf
      refine va_iald hx hb hK hP 1 0 rfl rfl g25 dX11_stands_32 ?_
      obtain ⟨r_33_25_a1, hc_r_33_25, hf⟩ := of_bnd hf
      refine cl_Vv (w2 := (wW_X11_stands G h0 h1 h2 h3 h4 h5 y0_3 y0_4 y0_6 y0_18 y0_21 y0_22 y0_23 y0_24 y0_25 y0_26 y0_34 y0_38 y0_39 y0_40 y0_41 y0_42 y0_43 y0_46 y0_47 y0_48 x0_5 x0_7 x0_8 x0_9 x0_10 x0_11 x0_12 x0_13 x0_14 x0_15 x0_16 x0_17 x0_19 x0_20 x0_27 x0_28 x0_29 x0_30 x0_31 x0_32 x0_35 x0_36 x0_37 x0_44 x0_49 x0_50 r_33_25_a1 a2 a3 a4 r_19_23_a2)) (As := [.int b1, .int (a1 ((65 : Int32) + b1).toNatClampNeg)]) (rest := []) ⟨hx, hb, hml, hown, ht0⟩ (c_X11_writeWhole l G h0 h1 h2 h3 y0_3 y0_4 y0_6 y0_18 y0_21 y0_22 y0_23 y0_24 y0_25 y0_26 h4 y0_34 y0_38 y0_39 y0_40 y0_41 y0_42 y0_43 h5 y0_46 y0_47 y0_48 _ x0_5 x0_7 x0_8 x0_9 x0_10 x0_11 x0_12 x0_13 x0_14 x0_15 x0_16 x0_17 x0_19 x0_20 x0_27 x0_28 x0_29 x0_30 x0_31 x0_32 x0_35 x0_36 x0_37 x0_44 x0_49 x0_50 a1 a2 F b1 (a1 ((65 : Int32) + b1).toNatClampNeg) _ hc_r_33_25) yk_X11_writeWhole wd_1599 ⟨rfl, rfl, by decide, by decide⟩ ⟨Nat.le_refl _, Nat.le_refl _⟩ hX hK hP hD hS hA [0, 1, 2] [3, 4, 5] [3, 4, 5, 0, 1, 2] (va_recv hK hP (ci := 11) (q0 := 0) rfl rfl) rfl rfl (by decide) rfl rfl rfl rfl rfl hl.1 rfl (Nat.le_of_ble_eq_true rfl) dX11_stands_33 (fun H locs hP hD hS => ?_)
      refine lv_iconst (v := (0 : Int32)) hx hb dX11_stands_36 (by decide) ?_
      refine lv_istore_n (lv' := [(3, .int (0 : Int32)), (0, .ref h0), (1, .int b1), (2, .int b2)]) hx hb dX11_stands_37 rfl hl (by decide) rfl (fun ls hl => ?_)
      exact kL38 _ _ _ _ _ _ _ _ _ _ _ hf _ _ hP hD hS _ (lv_sub hl [1, 2, 3, 0] rfl)
    · have hf := of_pos hf c23
      refine lv_iconst (v := (-1 : Int32)) hx hb dX11_stands_16 (by decide) ?_
      cases hf
      exact ret_i hx hb hr hlk hK hP hD hS dX11_stands_17
theorem yk_X11_stands : ykV yX11_stands RX11 cX11_stands 4 (some .int) 2 := ⟨wd_1818, wd_1819, wd_142, wd_1820, rfl, by decide +kernel, by decide +kernel, by decide +kernel⟩
theorem dX11_find_0 : decode cX11_find 0 = .ok (.iload_n 2, 1) := by decide +kernel
theorem dX11_find_1 : decode cX11_find 1 = .ok (.ifCond .ne 11, 3) := by decide +kernel
theorem dX11_find_4 : decode cX11_find 4 = .ok (.aload_n 0, 1) := by decide +kernel
theorem dX11_find_5 : decode cX11_find 5 = .ok (.iload_n 1, 1) := by decide +kernel
theorem dX11_find_6 : decode cX11_find 6 = .ok (.invokevirtual 314, 3) := by decide +kernel
theorem dX11_find_9 : decode cX11_find 9 = .ok (.goto 17, 3) := by decide +kernel
theorem dX11_find_12 : decode cX11_find 12 = .ok (.iload_n 2, 1) := by decide +kernel
theorem dX11_find_13 : decode cX11_find 13 = .ok (.iconst 1, 1) := by decide +kernel
theorem dX11_find_14 : decode cX11_find 14 = .ok (.if_icmp .ne 11, 3) := by decide +kernel
theorem dX11_find_17 : decode cX11_find 17 = .ok (.aload_n 0, 1) := by decide +kernel
theorem dX11_find_18 : decode cX11_find 18 = .ok (.iload_n 1, 1) := by decide +kernel
theorem dX11_find_19 : decode cX11_find 19 = .ok (.invokevirtual 317, 3) := by decide +kernel
theorem dX11_find_22 : decode cX11_find 22 = .ok (.goto 4, 3) := by decide +kernel
theorem dX11_find_25 : decode cX11_find 25 = .ok (.iconst (-1), 1) := by decide +kernel
theorem dX11_find_26 : decode cX11_find 26 = .ok (.ireturn, 1) := by decide +kernel
def wW_X11_find (G : GG) (h0 h1 h2 h3 y0_3 y0_4 y0_6 y0_18 y0_21 y0_22 y0_23 y0_24 y0_25 y0_26 y0_33 y0_34 y0_38 y0_39 y0_40 y0_41 y0_42 y0_43 y0_45 y0_46 y0_47 y0_48 : Nat) (x0_5 : Int32) (x0_7 : Int32) (x0_8 : Int32) (x0_9 : Int32) (x0_10 : Int32) (x0_11 : Int32) (x0_12 : Int32) (x0_13 : Int32) (x0_14 : Int32) (x0_15 : Int32) (x0_16 : Int32) (x0_17 : Int32) (x0_19 : Int32) (x0_20 : Int32) (x0_27 : Int32) (x0_28 : Int32) (x0_29 : Int32) (x0_30 : Int32) (x0_31 : Int32) (x0_32 : Int32) (x0_35 : Int32) (x0_36 : Int32) (x0_37 : Int32) (x0_44 : Int32) (x0_49 : Int32) (x0_50 : Int32) (a1 : Nat → Int32) (a2 : Nat → Int32) (a3 : Nat → Int32) : va_W := [(h0, .inr (11, [.ref h1, .ref h2, .ref h3, .ref y0_3, .ref y0_4, .int x0_5, .ref y0_6, .int x0_7, .int x0_8, .int x0_9, .int x0_10, .int x0_11, .int x0_12, .int x0_13, .int x0_14, .int x0_15, .int x0_16, .int x0_17, .ref y0_18, .int x0_19, .int x0_20, .ref y0_21, .ref y0_22, .ref y0_23, .ref y0_24, .ref y0_25, .ref y0_26, .int x0_27, .int x0_28, .int x0_29, .int x0_30, .int x0_31, .int x0_32, .ref y0_33, .ref y0_34, .int x0_35, .int x0_36, .int x0_37, .ref y0_38, .ref y0_39, .ref y0_40, .ref y0_41, .ref y0_42, .ref y0_43, .int x0_44, .ref y0_45, .ref y0_46, .ref y0_47, .ref y0_48, .int x0_49, .int x0_50])), (h1, .inl (G.2.1, 121, .inl a1)), (h2, .inl (G.2.1, 2, .inl a2)), (h3, .inl (G.2.1, 2, .inl a3))]
set_option maxHeartbeats 4000000 in
set_option maxRecDepth 100000 in
theorem c_X11_find (l : Launch) (G : GG) (h0 h1 h2 h3 y0_3 y0_4 y0_6 y0_18 y0_21 y0_22 y0_23 y0_24 y0_25 y0_26 y0_33 y0_34 y0_38 y0_39 y0_40 y0_41 y0_42 y0_43 y0_45 y0_46 y0_47 y0_48 : Nat) (sz : Nat) (x0_5 : Int32) (x0_7 : Int32) (x0_8 : Int32) (x0_9 : Int32) (x0_10 : Int32) (x0_11 : Int32) (x0_12 : Int32) (x0_13 : Int32) (x0_14 : Int32) (x0_15 : Int32) (x0_16 : Int32) (x0_17 : Int32) (x0_19 : Int32) (x0_20 : Int32) (x0_27 : Int32) (x0_28 : Int32) (x0_29 : Int32) (x0_30 : Int32) (x0_31 : Int32) (x0_32 : Int32) (x0_35 : Int32) (x0_36 : Int32) (x0_37 : Int32) (x0_44 : Int32) (x0_49 : Int32) (x0_50 : Int32) (a1 : Nat → Int32) (a2 : Nat → Int32) (a3 : Nat → Int32) (F : Nat) (b1 : Int32) (b2 : Int32)  (r0 : Int32) (hf : p_X11_find F x0_5 a1 a2 a3 b1 b2 = some r0) : Met l yX11_find (.code yX11_find cX11_find 3 (some .int) :: gtbl) ({ frames := 3, cells := 0, slots := 0, locals := 62 } : Room) (PcS G [.ref h0, .int b1, .int b2] (wW_X11_find G h0 h1 h2 h3 y0_3 y0_4 y0_6 y0_18 y0_21 y0_22 y0_23 y0_24 y0_25 y0_26 y0_33 y0_34 y0_38 y0_39 y0_40 y0_41 y0_42 y0_43 y0_45 y0_46 y0_47 y0_48 x0_5 x0_7 x0_8 x0_9 x0_10 x0_11 x0_12 x0_13 x0_14 x0_15 x0_16 x0_17 x0_19 x0_20 x0_27 x0_28 x0_29 x0_30 x0_31 x0_32 x0_35 x0_36 x0_37 x0_44 x0_49 x0_50 a1 a2 a3) sz) (QiS G r0 (va_A (wW_X11_find G h0 h1 h2 h3 y0_3 y0_4 y0_6 y0_18 y0_21 y0_22 y0_23 y0_24 y0_25 y0_26 y0_33 y0_34 y0_38 y0_39 y0_40 y0_41 y0_42 y0_43 y0_45 y0_46 y0_47 y0_48 x0_5 x0_7 x0_8 x0_9 x0_10 x0_11 x0_12 x0_13 x0_14 x0_15 x0_16 x0_17 x0_19 x0_20 x0_27 x0_28 x0_29 x0_30 x0_31 x0_32 x0_35 x0_36 x0_37 x0_44 x0_49 x0_50 a1 a2 a3) sz) (wW_X11_find G h0 h1 h2 h3 y0_3 y0_4 y0_6 y0_18 y0_21 y0_22 y0_23 y0_24 y0_25 y0_26 y0_33 y0_34 y0_38 y0_39 y0_40 y0_41 y0_42 y0_43 y0_45 y0_46 y0_47 y0_48 x0_5 x0_7 x0_8 x0_9 x0_10 x0_11 x0_12 x0_13 x0_14 x0_15 x0_16 x0_17 x0_19 x0_20 x0_27 x0_28 x0_29 x0_30 x0_31 x0_32 x0_35 x0_36 x0_37 x0_44 x0_49 x0_50 a1 a2 a3)) 0 0 (va_A (wW_X11_find G h0 h1 h2 h3 y0_3 y0_4 y0_6 y0_18 y0_21 y0_22 y0_23 y0_24 y0_25 y0_26 y0_33 y0_34 y0_38 y0_39 y0_40 y0_41 y0_42 y0_43 y0_45 y0_46 y0_47 y0_48 x0_5 x0_7 x0_8 x0_9 x0_10 x0_11 x0_12 x0_13 x0_14 x0_15 x0_16 x0_17 x0_19 x0_20 x0_27 x0_28 x0_29 x0_30 x0_31 x0_32 x0_35 x0_36 x0_37 x0_44 x0_49 x0_50 a1 a2 a3) sz) := by
  refine met_start (by decide) (Nat.le_of_ble_eq_true rfl) ?_
  intro p e s m below meth c hC hr hlk hnm hK hP hD hA hS hX ls hl
  obtain ⟨hx, hb, hml, hown, ht0⟩ := hC
  have hown : s.vm.findClass RX11 = some m.cls := hown
  generalize va_A (wW_X11_find G h0 h1 h2 h3 y0_3 y0_4 y0_6 y0_18 y0_21 y0_22 y0_23 y0_24 y0_25 y0_26 y0_33 y0_34 y0_38 y0_39 y0_40 y0_41 y0_42 y0_43 y0_45 y0_46 y0_47 y0_48 x0_5 x0_7 x0_8 x0_9 x0_10 x0_11 x0_12 x0_13 x0_14 x0_15 x0_16 x0_17 x0_19 x0_20 x0_27 x0_28 x0_29 x0_30 x0_31 x0_32 x0_35 x0_36 x0_37 x0_44 x0_49 x0_50 a1 a2 a3) sz = A at hD hA hS hX ⊢
  have hl : lv_has ls 3 [(0, .ref h0), (1, .int b1), (2, .int b2)] := hl
  have hf : p_X11_find F x0_5 a1 a2 a3 b1 b2 = some r0 := hf
  refine lv_iload_n hx hb dX11_find_0 rfl (lv_at hl 2 rfl) ?_
  refine lv_if_ne (tgt := 12) hx hb dX11_find_1 (by decide) (fun c1 => ?_) (fun c1 => ?_)
  · have hf := of_neg hf c1
    refine lv_iload_n hx hb dX11_find_12 rfl (lv_at hl 2 rfl) ?_
    refine lv_iconst (v := (1 : Int32)) hx hb dX11_find_13 (by decide) ?_
    refine lv_icmp_ne (tgt := 25) hx hb dX11_find_14 (by decide) (fun c2 => ?_) (fun c2 => ?_)
    · have hf := of_neg hf c2
      refine lv_iconst (v := (-1 : Int32)) hx hb dX11_find_25 (by decide) ?_
      cases hf
      exact ret_i hx hb hr hlk hK hP hD hS dX11_find_26
    · have hf := of_pos hf c2
      refine lv_aload_n hx hb dX11_find_17 rfl (lv_at hl 0 rfl) ?_
      refine lv_iload_n hx hb dX11_find_18 rfl (lv_at hl 1 rfl) ?_
      obtain ⟨r_19_2, hc_r_19_2, hf⟩ := of_bnd hf
      refine cl_Vi (w2 := (wW_X11_find G h0 h1 h2 h3 y0_3 y0_4 y0_6 y0_18 y0_21 y0_22 y0_23 y0_24 y0_25 y0_26 y0_33 y0_34 y0_38 y0_39 y0_40 y0_41 y0_42 y0_43 y0_45 y0_46 y0_47 y0_48 x0_5 x0_7 x0_8 x0_9 x0_10 x0_11 x0_12 x0_13 x0_14 x0_15 x0_16 x0_17 x0_19 x0_20 x0_27 x0_28 x0_29 x0_30 x0_31 x0_32 x0_35 x0_36 x0_37 x0_44 x0_49 x0_50 a1 a2 a3)) (As := [.int b1]) (rest := []) ⟨hx, hb, hml, hown, ht0⟩ (c_X11_pairOf l G h0 h1 h2 h3 y0_3 y0_4 y0_6 y0_18 y0_21 y0_22 y0_23 y0_24 y0_25 y0_26 y0_33 y0_34 y0_38 y0_39 y0_40 y0_41 y0_42 y0_43 y0_45 y0_46 y0_47 y0_48 _ x0_5 x0_7 x0_8 x0_9 x0_10 x0_11 x0_12 x0_13 x0_14 x0_15 x0_16 x0_17 x0_19 x0_20 x0_27 x0_28 x0_29 x0_30 x0_31 x0_32 x0_35 x0_36 x0_37 x0_44 x0_49 x0_50 a1 a2 a3 F b1 _ hc_r_19_2) yk_X11_pairOf wd_1655 ⟨rfl, rfl, by decide, by decide⟩ ⟨Nat.le_refl _, Nat.le_refl _⟩ hX hK hP hD hS hA [0, 1, 2, 3] [] [0, 1, 2, 3] (va_recv hK hP (ci := 11) (q0 := 0) rfl rfl) rfl rfl (by decide) rfl rfl rfl rfl rfl hl.1 rfl (Nat.le_of_ble_eq_true rfl) dX11_find_19 (fun H locs hP hD hS => ?_)
      refine lv_goto (tgt := 26) hx hb dX11_find_22 (by decide) ?_
      cases hf
      exact ret_i hx hb hr hlk hK hP hD hS dX11_find_26
  · have hf := of_pos hf c1
    refine lv_aload_n hx hb dX11_find_4 rfl (lv_at hl 0 rfl) ?_
    refine lv_iload_n hx hb dX11_find_5 rfl (lv_at hl 1 rfl) ?_
    obtain ⟨r_6_3, hc_r_6_3, hf⟩ := of_bnd hf
    refine cl_Vi (w2 := (wW_X11_find G h0 h1 h2 h3 y0_3 y0_4 y0_6 y0_18 y0_21 y0_22 y0_23 y0_24 y0_25 y0_26 y0_33 y0_34 y0_38 y0_39 y0_40 y0_41 y0_42 y0_43 y0_45 y0_46 y0_47 y0_48 x0_5 x0_7 x0_8 x0_9 x0_10 x0_11 x0_12 x0_13 x0_14 x0_15 x0_16 x0_17 x0_19 x0_20 x0_27 x0_28 x0_29 x0_30 x0_31 x0_32 x0_35 x0_36 x0_37 x0_44 x0_49 x0_50 a1 a2 a3)) (As := [.int b1]) (rest := []) ⟨hx, hb, hml, hown, ht0⟩ (c_X11_placeOf l G h0 h1 h2 h3 y0_3 y0_4 y0_6 y0_18 y0_21 y0_22 y0_23 y0_24 y0_25 y0_26 y0_33 y0_34 y0_38 y0_39 y0_40 y0_41 y0_42 y0_43 y0_45 y0_46 y0_47 y0_48 _ x0_5 x0_7 x0_8 x0_9 x0_10 x0_11 x0_12 x0_13 x0_14 x0_15 x0_16 x0_17 x0_19 x0_20 x0_27 x0_28 x0_29 x0_30 x0_31 x0_32 x0_35 x0_36 x0_37 x0_44 x0_49 x0_50 a1 a2 a3 F b1 _ hc_r_6_3) yk_X11_placeOf wd_1651 ⟨rfl, rfl, by decide, by decide⟩ ⟨Nat.le_refl _, Nat.le_refl _⟩ hX hK hP hD hS hA [0, 1, 2, 3] [] [0, 1, 2, 3] (va_recv hK hP (ci := 11) (q0 := 0) rfl rfl) rfl rfl (by decide) rfl rfl rfl rfl rfl hl.1 rfl (Nat.le_of_ble_eq_true rfl) dX11_find_6 (fun H locs hP hD hS => ?_)
    refine lv_goto (tgt := 26) hx hb dX11_find_9 (by decide) ?_
    cases hf
    exact ret_i hx hb hr hlk hK hP hD hS dX11_find_26
theorem yk_X11_find : ykV yX11_find RX11 cX11_find 3 (some .int) 2 := ⟨wd_1830, wd_1831, wd_142, wd_1832, rfl, by decide +kernel, by decide +kernel, by decide +kernel⟩
theorem dX11_fours_0 : decode cX11_fours 0 = .ok (.iconst 0, 1) := by decide +kernel
theorem dX11_fours_1 : decode cX11_fours 1 = .ok (.istore_n 1, 1) := by decide +kernel
theorem dX11_fours_2 : decode cX11_fours 2 = .ok (.aload_n 0, 1) := by decide +kernel
theorem dX11_fours_3 : decode cX11_fours 3 = .ok (.iconst (-1), 1) := by decide +kernel
theorem dX11_fours_4 : decode cX11_fours 4 = .ok (.invokevirtual 411, 3) := by decide +kernel
theorem dX11_fours_7 : decode cX11_fours 7 = .ok (.iconst 0, 1) := by decide +kernel
theorem dX11_fours_8 : decode cX11_fours 8 = .ok (.istore_n 2, 1) := by decide +kernel
theorem dX11_fours_9 : decode cX11_fours 9 = .ok (.iload_n 2, 1) := by decide +kernel
theorem dX11_fours_10 : decode cX11_fours 10 = .ok (.aload_n 0, 1) := by decide +kernel
theorem dX11_fours_11 : decode cX11_fours 11 = .ok (.invokevirtual 217, 3) := by decide +kernel
theorem dX11_fours_14 : decode cX11_fours 14 = .ok (.if_icmp .ge 22, 3) := by decide +kernel
theorem dX11_fours_17 : decode cX11_fours 17 = .ok (.iload_n 1, 1) := by decide +kernel
theorem dX11_fours_18 : decode cX11_fours 18 = .ok (.aload_n 0, 1) := by decide +kernel
theorem dX11_fours_19 : decode cX11_fours 19 = .ok (.getfield 58, 3) := by decide +kernel
theorem dX11_fours_22 : decode cX11_fours 22 = .ok (.aload_n 0, 1) := by decide +kernel
theorem dX11_fours_23 : decode cX11_fours 23 = .ok (.iload_n 2, 1) := by decide +kernel
theorem dX11_fours_24 : decode cX11_fours 24 = .ok (.invokevirtual 269, 3) := by decide +kernel
theorem dX11_fours_27 : decode cX11_fours 27 = .ok (.iaload, 1) := by decide +kernel
theorem dX11_fours_28 : decode cX11_fours 28 = .ok (.iadd, 1) := by decide +kernel
theorem dX11_fours_29 : decode cX11_fours 29 = .ok (.istore_n 1, 1) := by decide +kernel
theorem dX11_fours_30 : decode cX11_fours 30 = .ok (.iinc 2 1, 3) := by decide +kernel
theorem dX11_fours_33 : decode cX11_fours 33 = .ok (.goto (-24), 3) := by decide +kernel
theorem dX11_fours_36 : decode cX11_fours 36 = .ok (.iload_n 1, 1) := by decide +kernel
theorem dX11_fours_37 : decode cX11_fours 37 = .ok (.iconst 4, 1) := by decide +kernel
theorem dX11_fours_38 : decode cX11_fours 38 = .ok (.idiv, 1) := by decide +kernel
theorem dX11_fours_39 : decode cX11_fours 39 = .ok (.ireturn, 1) := by decide +kernel
def wW_X11_fours (G : GG) (h0 h1 h2 h3 h4 y0_3 y0_4 y0_6 y0_18 y0_21 y0_22 y0_23 y0_24 y0_25 y0_26 y0_33 y0_38 y0_39 y0_40 y0_41 y0_42 y0_43 y0_45 y0_46 y0_47 y0_48 : Nat) (x0_5 : Int32) (x0_7 : Int32) (x0_8 : Int32) (x0_9 : Int32) (x0_10 : Int32) (x0_11 : Int32) (x0_12 : Int32) (x0_13 : Int32) (x0_14 : Int32) (x0_15 : Int32) (x0_16 : Int32) (x0_17 : Int32) (x0_19 : Int32) (x0_20 : Int32) (x0_27 : Int32) (x0_28 : Int32) (x0_29 : Int32) (x0_30 : Int32) (x0_31 : Int32) (x0_32 : Int32) (x0_35 : Int32) (x0_36 : Int32) (x0_37 : Int32) (x0_44 : Int32) (x0_49 : Int32) (x0_50 : Int32) (a1 : Nat → Int32) (a2 : Nat → Int32) (a3 : Nat → Int32) (a4 : Nat → Int32) : va_W := [(h0, .inr (11, [.ref h1, .ref h2, .ref h3, .ref y0_3, .ref y0_4, .int x0_5, .ref y0_6, .int x0_7, .int x0_8, .int x0_9, .int x0_10, .int x0_11, .int x0_12, .int x0_13, .int x0_14, .int x0_15, .int x0_16, .int x0_17, .ref y0_18, .int x0_19, .int x0_20, .ref y0_21, .ref y0_22, .ref y0_23, .ref y0_24, .ref y0_25, .ref y0_26, .int x0_27, .int x0_28, .int x0_29, .int x0_30, .int x0_31, .int x0_32, .ref y0_33, .ref h4, .int x0_35, .int x0_36, .int x0_37, .ref y0_38, .ref y0_39, .ref y0_40, .ref y0_41, .ref y0_42, .ref y0_43, .int x0_44, .ref y0_45, .ref y0_46, .ref y0_47, .ref y0_48, .int x0_49, .int x0_50])), (h1, .inl (G.2.1, 121, .inl a1)), (h2, .inl (G.2.1, 2, .inl a2)), (h3, .inl (G.2.1, 2, .inl a3)), (h4, .inl (G.2.1, 256, .inl a4))]
set_option maxHeartbeats 4000000 in
set_option maxRecDepth 100000 in
theorem c_X11_fours (l : Launch) (G : GG) (h0 h1 h2 h3 h4 y0_3 y0_4 y0_6 y0_18 y0_21 y0_22 y0_23 y0_24 y0_25 y0_26 y0_33 y0_38 y0_39 y0_40 y0_41 y0_42 y0_43 y0_45 y0_46 y0_47 y0_48 : Nat) (sz : Nat) (x0_5 : Int32) (x0_7 : Int32) (x0_8 : Int32) (x0_9 : Int32) (x0_10 : Int32) (x0_11 : Int32) (x0_12 : Int32) (x0_13 : Int32) (x0_14 : Int32) (x0_15 : Int32) (x0_16 : Int32) (x0_17 : Int32) (x0_19 : Int32) (x0_20 : Int32) (x0_27 : Int32) (x0_28 : Int32) (x0_29 : Int32) (x0_30 : Int32) (x0_31 : Int32) (x0_32 : Int32) (x0_35 : Int32) (x0_36 : Int32) (x0_37 : Int32) (x0_44 : Int32) (x0_49 : Int32) (x0_50 : Int32) (a1 : Nat → Int32) (a2 : Nat → Int32) (a3 : Nat → Int32) (a4 : Nat → Int32) (F : Nat)   (r0 : Int32) (e_a4 : Nat → Int32) (hf : p_X11_fours F x0_5 a1 a2 a3 a4  = some (r0, e_a4)) : Met l yX11_fours (.code yX11_fours cX11_fours 3 (some .int) :: gtbl) ({ frames := 3, cells := 0, slots := 0, locals := 65 } : Room) (PcS G [.ref h0] (wW_X11_fours G h0 h1 h2 h3 h4 y0_3 y0_4 y0_6 y0_18 y0_21 y0_22 y0_23 y0_24 y0_25 y0_26 y0_33 y0_38 y0_39 y0_40 y0_41 y0_42 y0_43 y0_45 y0_46 y0_47 y0_48 x0_5 x0_7 x0_8 x0_9 x0_10 x0_11 x0_12 x0_13 x0_14 x0_15 x0_16 x0_17 x0_19 x0_20 x0_27 x0_28 x0_29 x0_30 x0_31 x0_32 x0_35 x0_36 x0_37 x0_44 x0_49 x0_50 a1 a2 a3 a4) sz) (QiS G r0 (va_A (wW_X11_fours G h0 h1 h2 h3 h4 y0_3 y0_4 y0_6 y0_18 y0_21 y0_22 y0_23 y0_24 y0_25 y0_26 y0_33 y0_38 y0_39 y0_40 y0_41 y0_42 y0_43 y0_45 y0_46 y0_47 y0_48 x0_5 x0_7 x0_8 x0_9 x0_10 x0_11 x0_12 x0_13 x0_14 x0_15 x0_16 x0_17 x0_19 x0_20 x0_27 x0_28 x0_29 x0_30 x0_31 x0_32 x0_35 x0_36 x0_37 x0_44 x0_49 x0_50 a1 a2 a3 a4) sz) (wW_X11_fours G h0 h1 h2 h3 h4 y0_3 y0_4 y0_6 y0_18 y0_21 y0_22 y0_23 y0_24 y0_25 y0_26 y0_33 y0_38 y0_39 y0_40 y0_41 y0_42 y0_43 y0_45 y0_46 y0_47 y0_48 x0_5 x0_7 x0_8 x0_9 x0_10 x0_11 x0_12 x0_13 x0_14 x0_15 x0_16 x0_17 x0_19 x0_20 x0_27 x0_28 x0_29 x0_30 x0_31 x0_32 x0_35 x0_36 x0_37 x0_44 x0_49 x0_50 a1 a2 a3 e_a4)) 0 0 (va_A (wW_X11_fours G h0 h1 h2 h3 h4 y0_3 y0_4 y0_6 y0_18 y0_21 y0_22 y0_23 y0_24 y0_25 y0_26 y0_33 y0_38 y0_39 y0_40 y0_41 y0_42 y0_43 y0_45 y0_46 y0_47 y0_48 x0_5 x0_7 x0_8 x0_9 x0_10 x0_11 x0_12 x0_13 x0_14 x0_15 x0_16 x0_17 x0_19 x0_20 x0_27 x0_28 x0_29 x0_30 x0_31 x0_32 x0_35 x0_36 x0_37 x0_44 x0_49 x0_50 a1 a2 a3 a4) sz) := by
  refine met_start (by decide) (Nat.le_of_ble_eq_true rfl) ?_
  intro p e s m below meth c hC hr hlk hnm hK hP hD hA hS hX ls hl
  obtain ⟨hx, hb, hml, hown, ht0⟩ := hC
  have hown : s.vm.findClass RX11 = some m.cls := hown
  generalize va_A (wW_X11_fours G h0 h1 h2 h3 h4 y0_3 y0_4 y0_6 y0_18 y0_21 y0_22 y0_23 y0_24 y0_25 y0_26 y0_33 y0_38 y0_39 y0_40 y0_41 y0_42 y0_43 y0_45 y0_46 y0_47 y0_48 x0_5 x0_7 x0_8 x0_9 x0_10 x0_11 x0_12 x0_13 x0_14 x0_15 x0_16 x0_17 x0_19 x0_20 x0_27 x0_28 x0_29 x0_30 x0_31 x0_32 x0_35 x0_36 x0_37 x0_44 x0_49 x0_50 a1 a2 a3 a4) sz = A at hD hA hS hX ⊢
  have hl : lv_has ls 3 [(0, .ref h0)] := hl
  have hf : p_X11_fours F x0_5 a1 a2 a3 a4  = some (r0, e_a4) := hf
  have kL9 : ∀ (n9 : Nat) (u9_1 : Int32) (u9_2 : Int32) (a4_9 : Nat → Int32), p_X11_fours_L9 F x0_5 a1 a2 a3 n9 u9_1 u9_2 a4_9 = some (r0, e_a4) → ∀ (H : Heap) (locs : List Loc), va_P G.1 vwCl (wW_X11_fours G h0 h1 h2 h3 h4 y0_3 y0_4 y0_6 y0_18 y0_21 y0_22 y0_23 y0_24 y0_25 y0_26 y0_33 y0_38 y0_39 y0_40 y0_41 y0_42 y0_43 y0_45 y0_46 y0_47 y0_48 x0_5 x0_7 x0_8 x0_9 x0_10 x0_11 x0_12 x0_13 x0_14 x0_15 x0_16 x0_17 x0_19 x0_20 x0_27 x0_28 x0_29 x0_30 x0_31 x0_32 x0_35 x0_36 x0_37 x0_44 x0_49 x0_50 a1 a2 a3 a4_9) H → va_D A (wW_X11_fours G h0 h1 h2 h3 h4 y0_3 y0_4 y0_6 y0_18 y0_21 y0_22 y0_23 y0_24 y0_25 y0_26 y0_33 y0_38 y0_39 y0_40 y0_41 y0_42 y0_43 y0_45 y0_46 y0_47 y0_48 x0_5 x0_7 x0_8 x0_9 x0_10 x0_11 x0_12 x0_13 x0_14 x0_15 x0_16 x0_17 x0_19 x0_20 x0_27 x0_28 x0_29 x0_30 x0_31 x0_32 x0_35 x0_36 x0_37 x0_44 x0_49 x0_50 a1 a2 a3 a4_9) → va_S A s.heap H locs → ∀ ls : Array Slot, lv_has ls 3 [(0, .ref h0), (1, .int u9_1), (2, .int u9_2)] → W p l e ({ frames := 3, cells := 0, slots := 0, locals := 65 } : Room) s m (List.toArray [.ref h0]) below meth c H locs 0 0 (MQ below (QiS G r0 A (wW_X11_fours G h0 h1 h2 h3 h4 y0_3 y0_4 y0_6 y0_18 y0_21 y0_22 y0_23 y0_24 y0_25 y0_26 y0_33 y0_38 y0_39 y0_40 y0_41 y0_42 y0_43 y0_45 y0_46 y0_47 y0_48 x0_5 x0_7 x0_8 x0_9 x0_10 x0_11 x0_12 x0_13 x0_14 x0_15 x0_16 x0_17 x0_19 x0_20 x0_27 x0_28 x0_29 x0_30 x0_31 x0_32 x0_35 x0_36 x0_37 x0_44 x0_49 x0_50 a1 a2 a3 e_a4)) (List.toArray [.ref h0]) s 0 0 A) (F0 m 9 ls []) := by
    intro n9
    induction n9 with
    | zero =>
      intro u9_1 u9_2 a4_9 hf
      cases hf
    | succ n9 ih9 =>
      intro u9_1 u9_2 a4_9 hf H locs hP hD hS ls hl
      have hf : p_X11_fours_L9b F x0_5 a1 a2 a3 (p_X11_fours_L9 F x0_5 a1 a2 a3 n9) u9_1 u9_2 a4_9 = some (r0, e_a4) := hf
      refine lv_iload_n hx hb dX11_fours_9 rfl (lv_at hl 2 rfl) ?_
      refine lv_aload_n hx hb dX11_fours_10 rfl (lv_at hl 0 rfl) ?_
      obtain ⟨r_11_0, hc_r_11_0, hf⟩ := of_bnd hf
      refine cl_Vi (w2 := (wW_X11_fours G h0 h1 h2 h3 h4 y0_3 y0_4 y0_6 y0_18 y0_21 y0_22 y0_23 y0_24 y0_25 y0_26 y0_33 y0_38 y0_39 y0_40 y0_41 y0_42 y0_43 y0_45 y0_46 y0_47 y0_48 x0_5 x0_7 x0_8 x0_9 x0_10 x0_11 x0_12 x0_13 x0_14 x0_15 x0_16 x0_17 x0_19 x0_20 x0_27 x0_28 x0_29 x0_30 x0_31 x0_32 x0_35 x0_36 x0_37 x0_44 x0_49 x0_50 a1 a2 a3 a4_9)) (As := []) (rest := [.int u9_2]) ⟨hx, hb, hml, hown, ht0⟩ (c_X11_places l G h0 h2 h3 h1 y0_3 y0_4 y0_6 y0_18 y0_21 y0_22 y0_23 y0_24 y0_25 y0_26 y0_33 h4 y0_38 y0_39 y0_40 y0_41 y0_42 y0_43 y0_45 y0_46 y0_47 y0_48 _ x0_5 x0_7 x0_8 x0_9 x0_10 x0_11 x0_12 x0_13 x0_14 x0_15 x0_16 x0_17 x0_19 x0_20 x0_27 x0_28 x0_29 x0_30 x0_31 x0_32 x0_35 x0_36 x0_37 x0_44 x0_49 x0_50 a2 a3 F _ hc_r_11_0) yk_X11_places wd_1572 ⟨rfl, rfl, by decide, by decide⟩ ⟨Nat.le_refl _, Nat.le_refl _⟩ hX hK hP hD hS hA [0, 2, 3] [1, 4] [2, 0, 3, 4, 1] (va_recv hK hP (ci := 11) (q0 := 0) rfl rfl) rfl rfl (by decide) rfl rfl rfl rfl rfl hl.1 rfl (Nat.le_of_ble_eq_true rfl) dX11_fours_11 (fun H locs hP hD hS => ?_)
      refine lv_icmp_ge (tgt := 36) hx hb dX11_fours_14 (by decide) (fun c2 => ?_) (fun c2 => ?_)
      · have hf := of_pos hf c2
        refine lv_iload_n hx hb dX11_fours_36 rfl (lv_at hl 1 rfl) ?_
        refine lv_iconst (v := (4 : Int32)) hx hb dX11_fours_37 (by decide) ?_
        refine lv_idiv hx hb dX11_fours_38 (by decide) ?_
        cases hf
        exact ret_i hx hb hr hlk hK hP hD hS dX11_fours_39
      · have hf := of_neg hf c2
        refine lv_iload_n hx hb dX11_fours_17 rfl (lv_at hl 1 rfl) ?_
        refine lv_aload_n hx hb dX11_fours_18 rfl (lv_at hl 0 rfl) ?_
        refine va_get (ci := 11) (v := .ref h4) (C := RX11) (T := TX11) (N := 51) hx hb ht0 iX11 hown hK hP 0 rfl rfl 34 (by decide) (ht0 _ wd_1440) (fun _ h9 => h9) rfl dX11_fours_19 ?_
        refine lv_aload_n hx hb dX11_fours_22 rfl (lv_at hl 0 rfl) ?_
        refine lv_iload_n hx hb dX11_fours_23 rfl (lv_at hl 2 rfl) ?_
        obtain ⟨r_24_2, hc_r_24_2, hf⟩ := of_bnd hf
        refine cl_Vi (w2 := (wW_X11_fours G h0 h1 h2 h3 h4 y0_3 y0_4 y0_6 y0_18 y0_21 y0_22 y0_23 y0_24 y0_25 y0_26 y0_33 y0_38 y0_39 y0_40 y0_41 y0_42 y0_43 y0_45 y0_46 y0_47 y0_48 x0_5 x0_7 x0_8 x0_9 x0_10 x0_11 x0_12 x0_13 x0_14 x0_15 x0_16 x0_17 x0_19 x0_20 x0_27 x0_28 x0_29 x0_30 x0_31 x0_32 x0_35 x0_36 x0_37 x0_44 x0_49 x0_50 a1 a2 a3 a4_9)) (As := [.int u9_2]) (rest := [.ref h4, .int u9_1]) ⟨hx, hb, hml, hown, ht0⟩ (c_X11_columnAt l G h0 h1 h2 h3 y0_3 y0_4 y0_6 y0_18 y0_21 y0_22 y0_23 y0_24 y0_25 y0_26 y0_33 h4 y0_38 y0_39 y0_40 y0_41 y0_42 y0_43 y0_45 y0_46 y0_47 y0_48 _ x0_5 x0_7 x0_8 x0_9 x0_10 x0_11 x0_12 x0_13 x0_14 x0_15 x0_16 x0_17 x0_19 x0_20 x0_27 x0_28 x0_29 x0_30 x0_31 x0_32 x0_35 x0_36 x0_37 x0_44 x0_49 x0_50 a1 F u9_2 _ hc_r_24_2) yk_X11_columnAt wd_1402 ⟨rfl, rfl, by decide, by decide⟩ ⟨Nat.le_refl _, Nat.le_refl _⟩ hX hK hP hD hS hA [0, 1] [2, 3, 4] [3, 4, 0, 1, 2] (va_recv hK hP (ci := 11) (q0 := 0) rfl rfl) rfl rfl (by decide) rfl rfl rfl rfl rfl hl.1 rfl (Nat.le_of_ble_eq_true rfl) dX11_fours_24 (fun H locs hP hD hS => ?_)
        obtain ⟨g4, hf⟩ := of_grd hf
        refine va_iald hx hb hK hP 4 0 rfl rfl g4 dX11_fours_27 ?_
        refine lv_iadd hx hb dX11_fours_28 ?_
        refine lv_istore_n (lv' := [(1, .int (u9_1 + (a4_9 r_24_2.toNatClampNeg))), (0, .ref h0), (2, .int u9_2)]) hx hb dX11_fours_29 rfl hl (by decide) rfl (fun ls hl => ?_)
        refine lv_iinc (v := u9_2 + (1 : Int32)) (lv' := [(2, .int (u9_2 + (1 : Int32))), (1, .int (u9_1 + (a4_9 r_24_2.toNatClampNeg))), (0, .ref h0)]) hx hb dX11_fours_30 hl (k := 2) rfl (by rfl) (by decide) rfl (fun ls hl => ?_)
        refine lv_goto (tgt := 9) hx hb dX11_fours_33 (by decide) ?_
        exact ih9 _ _ _ hf _ _ hP hD hS _ (lv_sub hl [2, 1, 0] rfl)
  refine lv_iconst (v := (0 : Int32)) hx hb dX11_fours_0 (by decide) ?_
  refine lv_istore_n (lv' := [(1, .int (0 : Int32)), (0, .ref h0)]) hx hb dX11_fours_1 rfl hl (by decide) rfl (fun ls hl => ?_)
  refine lv_aload_n hx hb dX11_fours_2 rfl (lv_at hl 1 rfl) ?_
  refine lv_iconst (v := (-1 : Int32)) hx hb dX11_fours_3 (by decide) ?_
  obtain ⟨r_4_4_a4, hc_r_4_4, hf⟩ := of_bnd hf
  refine cl_Vv (w2 := (wW_X11_fours G h0 h1 h2 h3 h4 y0_3 y0_4 y0_6 y0_18 y0_21 y0_22 y0_23 y0_24 y0_25 y0_26 y0_33 y0_38 y0_39 y0_40 y0_41 y0_42 y0_43 y0_45 y0_46 y0_47 y0_48 x0_5 x0_7 x0_8 x0_9 x0_10 x0_11 x0_12 x0_13 x0_14 x0_15 x0_16 x0_17 x0_19 x0_20 x0_27 x0_28 x0_29 x0_30 x0_31 x0_32 x0_35 x0_36 x0_37 x0_44 x0_49 x0_50 a1 a2 a3 r_4_4_a4)) (As := [.int (-1 : Int32)]) (rest := []) ⟨hx, hb, hml, hown, ht0⟩ (c_X11_layThrees l G h0 h1 h2 h3 h4 y0_3 y0_4 y0_6 y0_18 y0_21 y0_22 y0_23 y0_24 y0_25 y0_26 y0_33 y0_38 y0_39 y0_40 y0_41 y0_42 y0_43 y0_45 y0_46 y0_47 y0_48 _ x0_5 x0_7 x0_8 x0_9 x0_10 x0_11 x0_12 x0_13 x0_14 x0_15 x0_16 x0_17 x0_19 x0_20 x0_27 x0_28 x0_29 x0_30 x0_31 x0_32 x0_35 x0_36 x0_37 x0_44 x0_49 x0_50 a1 a2 a3 a4 F (-1 : Int32) _ hc_r_4_4) yk_X11_layThrees wd_1778 ⟨rfl, rfl, by decide, by decide⟩ ⟨Nat.le_refl _, Nat.le_refl _⟩ hX hK hP hD hS hA [0, 1, 2, 3, 4] [] [0, 1, 2, 3, 4] (va_recv hK hP (ci := 11) (q0 := 0) rfl rfl) rfl rfl (by decide) rfl rfl rfl rfl rfl hl.1 rfl (Nat.le_of_ble_eq_true rfl) dX11_fours_4 (fun H locs hP hD hS => ?_)
  refine lv_iconst (v := (0 : Int32)) hx hb dX11_fours_7 (by decide) ?_
  refine lv_istore_n (lv' := [(2, .int (0 : Int32)), (1, .int (0 : Int32)), (0, .ref h0)]) hx hb dX11_fours_8 rfl hl (by decide) rfl (fun ls hl => ?_)
  exact kL9 _ _ _ _ hf _ _ hP hD hS _ (lv_sub hl [2, 1, 0] rfl)
theorem yk_X11_fours : ykV yX11_fours RX11 cX11_fours 3 (some .int) 0 := ⟨wd_1834, wd_1835, wd_142, wd_1836, rfl, by decide +kernel, by decide +kernel, by decide +kernel⟩
theorem dX11_missedOfData_0 : decode cX11_missedOfData 0 = .ok (.iconst 0, 1) := by decide +kernel
theorem dX11_missedOfData_1 : decode cX11_missedOfData 1 = .ok (.istore_n 1, 1) := by decide +kernel
theorem dX11_missedOfData_2 : decode cX11_missedOfData 2 = .ok (.iconst 0, 1) := by decide +kernel
theorem dX11_missedOfData_3 : decode cX11_missedOfData 3 = .ok (.istore_n 2, 1) := by decide +kernel
theorem dX11_missedOfData_4 : decode cX11_missedOfData 4 = .ok (.iload_n 2, 1) := by decide +kernel
theorem dX11_missedOfData_5 : decode cX11_missedOfData 5 = .ok (.aload_n 0, 1) := by decide +kernel
theorem dX11_missedOfData_6 : decode cX11_missedOfData 6 = .ok (.invokevirtual 221, 3) := by decide +kernel
theorem dX11_missedOfData_9 : decode cX11_missedOfData 9 = .ok (.if_icmp .ge 80, 3) := by decide +kernel
theorem dX11_missedOfData_12 : decode cX11_missedOfData 12 = .ok (.iload_n 2, 1) := by decide +kernel
theorem dX11_missedOfData_13 : decode cX11_missedOfData 13 = .ok (.iconst 1, 1) := by decide +kernel
theorem dX11_missedOfData_14 : decode cX11_missedOfData 14 = .ok (.iadd, 1) := by decide +kernel
theorem dX11_missedOfData_15 : decode cX11_missedOfData 15 = .ok (.istore_n 3, 1) := by decide +kernel
theorem dX11_missedOfData_16 : decode cX11_missedOfData 16 = .ok (.iload_n 3, 1) := by decide +kernel
theorem dX11_missedOfData_17 : decode cX11_missedOfData 17 = .ok (.aload_n 0, 1) := by decide +kernel
theorem dX11_missedOfData_18 : decode cX11_missedOfData 18 = .ok (.invokevirtual 221, 3) := by decide +kernel
theorem dX11_missedOfData_21 : decode cX11_missedOfData 21 = .ok (.if_icmp .ge 62, 3) := by decide +kernel
theorem dX11_missedOfData_24 : decode cX11_missedOfData 24 = .ok (.iload_n 3, 1) := by decide +kernel
theorem dX11_missedOfData_25 : decode cX11_missedOfData 25 = .ok (.iconst 1, 1) := by decide +kernel
theorem dX11_missedOfData_26 : decode cX11_missedOfData 26 = .ok (.iadd, 1) := by decide +kernel
theorem dX11_missedOfData_27 : decode cX11_missedOfData 27 = .ok (.istore 4, 2) := by decide +kernel
theorem dX11_missedOfData_29 : decode cX11_missedOfData 29 = .ok (.iload 4, 2) := by decide +kernel
theorem dX11_missedOfData_31 : decode cX11_missedOfData 31 = .ok (.aload_n 0, 1) := by decide +kernel
theorem dX11_missedOfData_32 : decode cX11_missedOfData 32 = .ok (.invokevirtual 221, 3) := by decide +kernel
theorem dX11_missedOfData_35 : decode cX11_missedOfData 35 = .ok (.if_icmp .ge 42, 3) := by decide +kernel
theorem dX11_missedOfData_38 : decode cX11_missedOfData 38 = .ok (.iload_n 1, 1) := by decide +kernel
theorem dX11_missedOfData_39 : decode cX11_missedOfData 39 = .ok (.aload_n 0, 1) := by decide +kernel
theorem dX11_missedOfData_40 : decode cX11_missedOfData 40 = .ok (.aload_n 0, 1) := by decide +kernel
theorem dX11_missedOfData_41 : decode cX11_missedOfData 41 = .ok (.iload_n 2, 1) := by decide +kernel
theorem dX11_missedOfData_42 : decode cX11_missedOfData 42 = .ok (.invokevirtual 269, 3) := by decide +kernel
theorem dX11_missedOfData_45 : decode cX11_missedOfData 45 = .ok (.aload_n 0, 1) := by decide +kernel
theorem dX11_missedOfData_46 : decode cX11_missedOfData 46 = .ok (.iload_n 3, 1) := by decide +kernel
theorem dX11_missedOfData_47 : decode cX11_missedOfData 47 = .ok (.invokevirtual 269, 3) := by decide +kernel
theorem dX11_missedOfData_50 : decode cX11_missedOfData 50 = .ok (.ixor, 1) := by decide +kernel
theorem dX11_missedOfData_51 : decode cX11_missedOfData 51 = .ok (.aload_n 0, 1) := by decide +kernel
theorem dX11_missedOfData_52 : decode cX11_missedOfData 52 = .ok (.iload 4, 2) := by decide +kernel
theorem dX11_missedOfData_54 : decode cX11_missedOfData 54 = .ok (.invokevirtual 269, 3) := by decide +kernel
theorem dX11_missedOfData_57 : decode cX11_missedOfData 57 = .ok (.ixor, 1) := by decide +kernel
theorem dX11_missedOfData_58 : decode cX11_missedOfData 58 = .ok (.invokevirtual 314, 3) := by decide +kernel
theorem dX11_missedOfData_61 : decode cX11_missedOfData 61 = .ok (.ifCond .lt 7, 3) := by decide +kernel
theorem dX11_missedOfData_64 : decode cX11_missedOfData 64 = .ok (.iconst 1, 1) := by decide +kernel
theorem dX11_missedOfData_65 : decode cX11_missedOfData 65 = .ok (.goto 4, 3) := by decide +kernel
theorem dX11_missedOfData_68 : decode cX11_missedOfData 68 = .ok (.iconst 0, 1) := by decide +kernel
theorem dX11_missedOfData_69 : decode cX11_missedOfData 69 = .ok (.iadd, 1) := by decide +kernel
theorem dX11_missedOfData_70 : decode cX11_missedOfData 70 = .ok (.istore_n 1, 1) := by decide +kernel
theorem dX11_missedOfData_71 : decode cX11_missedOfData 71 = .ok (.iinc 4 1, 3) := by decide +kernel
theorem dX11_missedOfData_74 : decode cX11_missedOfData 74 = .ok (.goto (-45), 3) := by decide +kernel
theorem dX11_missedOfData_77 : decode cX11_missedOfData 77 = .ok (.iinc 3 1, 3) := by decide +kernel
theorem dX11_missedOfData_80 : decode cX11_missedOfData 80 = .ok (.goto (-64), 3) := by decide +kernel
theorem dX11_missedOfData_83 : decode cX11_missedOfData 83 = .ok (.iinc 2 1, 3) := by decide +kernel
theorem dX11_missedOfData_86 : decode cX11_missedOfData 86 = .ok (.goto (-82), 3) := by decide +kernel
theorem dX11_missedOfData_89 : decode cX11_missedOfData 89 = .ok (.iload_n 1, 1) := by decide +kernel
theorem dX11_missedOfData_90 : decode cX11_missedOfData 90 = .ok (.ireturn, 1) := by decide +kernel
def wW_X11_missedOfData (G : GG) (h0 h1 h2 h3 y0_3 y0_4 y0_6 y0_18 y0_21 y0_22 y0_23 y0_24 y0_25 y0_26 y0_33 y0_34 y0_38 y0_39 y0_40 y0_41 y0_42 y0_43 y0_45 y0_46 y0_47 y0_48 : Nat) (x0_5 : Int32) (x0_7 : Int32) (x0_8 : Int32) (x0_9 : Int32) (x0_10 : Int32) (x0_11 : Int32) (x0_12 : Int32) (x0_13 : Int32) (x0_14 : Int32) (x0_15 : Int32) (x0_16 : Int32) (x0_17 : Int32) (x0_19 : Int32) (x0_20 : Int32) (x0_27 : Int32) (x0_28 : Int32) (x0_29 : Int32) (x0_30 : Int32) (x0_31 : Int32) (x0_32 : Int32) (x0_35 : Int32) (x0_36 : Int32) (x0_37 : Int32) (x0_44 : Int32) (x0_49 : Int32) (x0_50 : Int32) (a1 : Nat → Int32) (a2 : Nat → Int32) (a3 : Nat → Int32) : va_W := [(h0, .inr (11, [.ref h1, .ref h2, .ref h3, .ref y0_3, .ref y0_4, .int x0_5, .ref y0_6, .int x0_7, .int x0_8, .int x0_9, .int x0_10, .int x0_11, .int x0_12, .int x0_13, .int x0_14, .int x0_15, .int x0_16, .int x0_17, .ref y0_18, .int x0_19, .int x0_20, .ref y0_21, .ref y0_22, .ref y0_23, .ref y0_24, .ref y0_25, .ref y0_26, .int x0_27, .int x0_28, .int x0_29, .int x0_30, .int x0_31, .int x0_32, .ref y0_33, .ref y0_34, .int x0_35, .int x0_36, .int x0_37, .ref y0_38, .ref y0_39, .ref y0_40, .ref y0_41, .ref y0_42, .ref y0_43, .int x0_44, .ref y0_45, .ref y0_46, .ref y0_47, .ref y0_48, .int x0_49, .int x0_50])), (h1, .inl (G.2.1, 121, .inl a1)), (h2, .inl (G.2.1, 2, .inl a2)), (h3, .inl (G.2.1, 2, .inl a3))]
set_option maxHeartbeats 4000000 in
set_option maxRecDepth 100000 in
theorem c_X11_missedOfData (l : Launch) (G : GG) (h0 h1 h2 h3 y0_3 y0_4 y0_6 y0_18 y0_21 y0_22 y0_23 y0_24 y0_25 y0_26 y0_33 y0_34 y0_38 y0_39 y0_40 y0_41 y0_42 y0_43 y0_45 y0_46 y0_47 y0_48 : Nat) (sz : Nat) (x0_5 : Int32) (x0_7 : Int32) (x0_8 : Int32) (x0_9 : Int32) (x0_10 : Int32) (x0_11 : Int32) (x0_12 : Int32) (x0_13 : Int32) (x0_14 : Int32) (x0_15 : Int32) (x0_16 : Int32) (x0_17 : Int32) (x0_19 : Int32) (x0_20 : Int32) (x0_27 : Int32) (x0_28 : Int32) (x0_29 : Int32) (x0_30 : Int32) (x0_31 : Int32) (x0_32 : Int32) (x0_35 : Int32) (x0_36 : Int32) (x0_37 : Int32) (x0_44 : Int32) (x0_49 : Int32) (x0_50 : Int32) (a1 : Nat → Int32) (a2 : Nat → Int32) (a3 : Nat → Int32) (F : Nat)   (r0 : Int32) (hf : p_X11_missedOfData F x0_5 a1 a2 a3  = some r0) : Met l yX11_missedOfData (.code yX11_missedOfData cX11_missedOfData 5 (some .int) :: gtbl) ({ frames := 3, cells := 0, slots := 0, locals := 62 } : Room) (PcS G [.ref h0] (wW_X11_missedOfData G h0 h1 h2 h3 y0_3 y0_4 y0_6 y0_18 y0_21 y0_22 y0_23 y0_24 y0_25 y0_26 y0_33 y0_34 y0_38 y0_39 y0_40 y0_41 y0_42 y0_43 y0_45 y0_46 y0_47 y0_48 x0_5 x0_7 x0_8 x0_9 x0_10 x0_11 x0_12 x0_13 x0_14 x0_15 x0_16 x0_17 x0_19 x0_20 x0_27 x0_28 x0_29 x0_30 x0_31 x0_32 x0_35 x0_36 x0_37 x0_44 x0_49 x0_50 a1 a2 a3) sz) (QiS G r0 (va_A (wW_X11_missedOfData G h0 h1 h2 h3 y0_3 y0_4 y0_6 y0_18 y0_21 y0_22 y0_23 y0_24 y0_25 y0_26 y0_33 y0_34 y0_38 y0_39 y0_40 y0_41 y0_42 y0_43 y0_45 y0_46 y0_47 y0_48 x0_5 x0_7 x0_8 x0_9 x0_10 x0_11 x0_12 x0_13 x0_14 x0_15 x0_16 x0_17 x0_19 x0_20 x0_27 x0_28 x0_29 x0_30 x0_31 x0_32 x0_35 x0_36 x0_37 x0_44 x0_49 x0_50 a1 a2 a3) sz) (wW_X11_missedOfData G h0 h1 h2 h3 y0_3 y0_4 y0_6 y0_18 y0_21 y0_22 y0_23 y0_24 y0_25 y0_26 y0_33 y0_34 y0_38 y0_39 y0_40 y0_41 y0_42 y0_43 y0_45 y0_46 y0_47 y0_48 x0_5 x0_7 x0_8 x0_9 x0_10 x0_11 x0_12 x0_13 x0_14 x0_15 x0_16 x0_17 x0_19 x0_20 x0_27 x0_28 x0_29 x0_30 x0_31 x0_32 x0_35 x0_36 x0_37 x0_44 x0_49 x0_50 a1 a2 a3)) 0 0 (va_A (wW_X11_missedOfData G h0 h1 h2 h3 y0_3 y0_4 y0_6 y0_18 y0_21 y0_22 y0_23 y0_24 y0_25 y0_26 y0_33 y0_34 y0_38 y0_39 y0_40 y0_41 y0_42 y0_43 y0_45 y0_46 y0_47 y0_48 x0_5 x0_7 x0_8 x0_9 x0_10 x0_11 x0_12 x0_13 x0_14 x0_15 x0_16 x0_17 x0_19 x0_20 x0_27 x0_28 x0_29 x0_30 x0_31 x0_32 x0_35 x0_36 x0_37 x0_44 x0_49 x0_50 a1 a2 a3) sz) := by
  refine met_start (by decide) (Nat.le_of_ble_eq_true rfl) ?_
  intro p e s m below meth c hC hr hlk hnm hK hP hD hA hS hX ls hl
  obtain ⟨hx, hb, hml, hown, ht0⟩ := hC
  have hown : s.vm.findClass RX11 = some m.cls := hown
  generalize va_A (wW_X11_missedOfData G h0 h1 h2 h3 y0_3 y0_4 y0_6 y0_18 y0_21 y0_22 y0_23 y0_24 y0_25 y0_26 y0_33 y0_34 y0_38 y0_39 y0_40 y0_41 y0_42 y0_43 y0_45 y0_46 y0_47 y0_48 x0_5 x0_7 x0_8 x0_9 x0_10 x0_11 x0_12 x0_13 x0_14 x0_15 x0_16 x0_17 x0_19 x0_20 x0_27 x0_28 x0_29 x0_30 x0_31 x0_32 x0_35 x0_36 x0_37 x0_44 x0_49 x0_50 a1 a2 a3) sz = A at hD hA hS hX ⊢
  have hl : lv_has ls 5 [(0, .ref h0)] := hl
  have hf : p_X11_missedOfData F x0_5 a1 a2 a3  = some r0 := hf
  have kL4 : ∀ (n4 : Nat) (u4_1 : Int32) (u4_2 : Int32), p_X11_missedOfData_L4 F x0_5 a1 a2 a3 n4 u4_1 u4_2 = some r0 → ∀ (H : Heap) (locs : List Loc), va_P G.1 vwCl (wW_X11_missedOfData G h0 h1 h2 h3 y0_3 y0_4 y0_6 y0_18 y0_21 y0_22 y0_23 y0_24 y0_25 y0_26 y0_33 y0_34 y0_38 y0_39 y0_40 y0_41 y0_42 y0_43 y0_45 y0_46 y0_47 y0_48 x0_5 x0_7 x0_8 x0_9 x0_10 x0_11 x0_12 x0_13 x0_14 x0_15 x0_16 x0_17 x0_19 x0_20 x0_27 x0_28 x0_29 x0_30 x0_31 x0_32 x0_35 x0_36 x0_37 x0_44 x0_49 x0_50 a1 a2 a3) H → va_D A (wW_X11_missedOfData G h0 h1 h2 h3 y0_3 y0_4 y0_6 y0_18 y0_21 y0_22 y0_23 y0_24 y0_25 y0_26 y0_33 y0_34 y0_38 y0_39 y0_40 y0_41 y0_42 y0_43 y0_45 y0_46 y0_47 y0_48 x0_5 x0_7 x0_8 x0_9 x0_10 x0_11 x0_12 x0_13 x0_14 x0_15 x0_16 x0_17 x0_19 x0_20 x0_27 x0_28 x0_29 x0_30 x0_31 x0_32 x0_35 x0_36 x0_37 x0_44 x0_49 x0_50 a1 a2 a3) → va_S A s.heap H locs → ∀ ls : Array Slot, lv_has ls 5 [(0, .ref h0), (1, .int u4_1), (2, .int u4_2)] → W p l e ({ frames := 3, cells := 0, slots := 0, locals := 62 } : Room) s m (List.toArray [.ref h0]) below meth c H locs 0 0 (MQ below (QiS G r0 A (wW_X11_missedOfData G h0 h1 h2 h3 y0_3 y0_4 y0_6 y0_18 y0_21 y0_22 y0_23 y0_24 y0_25 y0_26 y0_33 y0_34 y0_38 y0_39 y0_40 y0_41 y0_42 y0_43 y0_45 y0_46 y0_47 y0_48 x0_5 x0_7 x0_8 x0_9 x0_10 x0_11 x0_12 x0_13 x0_14 x0_15 x0_16 x0_17 x0_19 x0_20 x0_27 x0_28 x0_29 x0_30 x0_31 x0_32 x0_35 x0_36 x0_37 x0_44 x0_49 x0_50 a1 a2 a3)) (List.toArray [.ref h0]) s 0 0 A) (F0 m 4 ls []) := by
    intro n4
    induction n4 with
    | zero =>
      intro u4_1 u4_2 hf
      cases hf
    | succ n4 ih4 =>
      have kL16 : ∀ (c16_2 : Int32) (n16 : Nat) (u16_1 : Int32) (u16_3 : Int32), p_X11_missedOfData_L16 F x0_5 a1 a2 a3 c16_2 (p_X11_missedOfData_L4 F x0_5 a1 a2 a3 n4) n16 u16_1 u16_3 = some r0 → ∀ (H : Heap) (locs : List Loc), va_P G.1 vwCl (wW_X11_missedOfData G h0 h1 h2 h3 y0_3 y0_4 y0_6 y0_18 y0_21 y0_22 y0_23 y0_24 y0_25 y0_26 y0_33 y0_34 y0_38 y0_39 y0_40 y0_41 y0_42 y0_43 y0_45 y0_46 y0_47 y0_48 x0_5 x0_7 x0_8 x0_9 x0_10 x0_11 x0_12 x0_13 x0_14 x0_15 x0_16 x0_17 x0_19 x0_20 x0_27 x0_28 x0_29 x0_30 x0_31 x0_32 x0_35 x0_36 x0_37 x0_44 x0_49 x0_50 a1 a2 a3) H → va_D A (wW_X11_missedOfData G h0 h1 h2 h3 y0_3 y0_4 y0_6 y0_18 y0_21 y0_22 y0_23 y0_24 y0_25 y0_26 y0_33 y0_34 y0_38 y0_39 y0_40 y0_41 y0_42 y0_43 y0_45 y0_46 y0_47 y0_48 x0_5 x0_7 x0_8 x0_9 x0_10 x0_11 x0_12 x0_13 x0_14 x0_15 x0_16 x0_17 x0_19 x0_20 x0_27 x0_28 x0_29 x0_30 x0_31 x0_32 x0_35 x0_36 x0_37 x0_44 x0_49 x0_50 a1 a2 a3) → va_S A s.heap H locs → ∀ ls : Array Slot, lv_has ls 5 [(0, .ref h0), (1, .int u16_1), (2, .int c16_2), (3, .int u16_3)] → W p l e ({ frames := 3, cells := 0, slots := 0, locals := 62 } : Room) s m (List.toArray [.ref h0]) below meth c H locs 0 0 (MQ below (QiS G r0 A (wW_X11_missedOfData G h0 h1 h2 h3 y0_3 y0_4 y0_6 y0_18 y0_21 y0_22 y0_23 y0_24 y0_25 y0_26 y0_33 y0_34 y0_38 y0_39 y0_40 y0_41 y0_42 y0_43 y0_45 y0_46 y0_47 y0_48 x0_5 x0_7 x0_8 x0_9 x0_10 x0_11 x0_12 x0_13 x0_14 x0_15 x0_16 x0_17 x0_19 x0_20 x0_27 x0_28 x0_29 x0_30 x0_31 x0_32 x0_35 x0_36 x0_37 x0_44 x0_49 x0_50 a1 a2 a3)) (List.toArray [.ref h0]) s 0 0 A) (F0 m 16 ls []) := by
        intro c16_2 n16
        induction n16 with
        | zero =>
          intro u16_1 u16_3 hf
          cases hf
        | succ n16 ih16 =>
          have kL29 : ∀ (c29_3 : Int32) (n29 : Nat) (u29_1 : Int32) (u29_4 : Int32), p_X11_missedOfData_L29 F x0_5 a1 a2 a3 c16_2 c29_3 (p_X11_missedOfData_L4 F x0_5 a1 a2 a3 n4) (p_X11_missedOfData_L16 F x0_5 a1 a2 a3 c16_2 (p_X11_missedOfData_L4 F x0_5 a1 a2 a3 n4) n16) n29 u29_1 u29_4 = some r0 → ∀ (H : Heap) (locs : List Loc), va_P G.1 vwCl (wW_X11_missedOfData G h0 h1 h2 h3 y0_3 y0_4 y0_6 y0_18 y0_21 y0_22 y0_23 y0_24 y0_25 y0_26 y0_33 y0_34 y0_38 y0_39 y0_40 y0_41 y0_42 y0_43 y0_45 y0_46 y0_47 y0_48 x0_5 x0_7 x0_8 x0_9 x0_10 x0_11 x0_12 x0_13 x0_14 x0_15 x0_16 x0_17 x0_19 x0_20 x0_27 x0_28 x0_29 x0_30 x0_31 x0_32 x0_35 x0_36 x0_37 x0_44 x0_49 x0_50 a1 a2 a3) H → va_D A (wW_X11_missedOfData G h0 h1 h2 h3 y0_3 y0_4 y0_6 y0_18 y0_21 y0_22 y0_23 y0_24 y0_25 y0_26 y0_33 y0_34 y0_38 y0_39 y0_40 y0_41 y0_42 y0_43 y0_45 y0_46 y0_47 y0_48 x0_5 x0_7 x0_8 x0_9 x0_10 x0_11 x0_12 x0_13 x0_14 x0_15 x0_16 x0_17 x0_19 x0_20 x0_27 x0_28 x0_29 x0_30 x0_31 x0_32 x0_35 x0_36 x0_37 x0_44 x0_49 x0_50 a1 a2 a3) → va_S A s.heap H locs → ∀ ls : Array Slot, lv_has ls 5 [(0, .ref h0), (1, .int u29_1), (2, .int c16_2), (3, .int c29_3), (4, .int u29_4)] → W p l e ({ frames := 3, cells := 0, slots := 0, locals := 62 } : Room) s m (List.toArray [.ref h0]) below meth c H locs 0 0 (MQ below (QiS G r0 A (wW_X11_missedOfData G h0 h1 h2 h3 y0_3 y0_4 y0_6 y0_18 y0_21 y0_22 y0_23 y0_24 y0_25 y0_26 y0_33 y0_34 y0_38 y0_39 y0_40 y0_41 y0_42 y0_43 y0_45 y0_46 y0_47 y0_48 x0_5 x0_7 x0_8 x0_9 x0_10 x0_11 x0_12 x0_13 x0_14 x0_15 x0_16 x0_17 x0_19 x0_20 x0_27 x0_28 x0_29 x0_30 x0_31 x0_32 x0_35 x0_36 x0_37 x0_44 x0_49 x0_50 a1 a2 a3)) (List.toArray [.ref h0]) s 0 0 A) (F0 m 29 ls []) := by
            intro c29_3 n29
            induction n29 with
            | zero =>
              intro u29_1 u29_4 hf
              cases hf
            | succ n29 ih29 =>
              have kJ69 : ∀ (u69_4 : Int32) (s69_0 : Int32) (s69_1 : Int32), p_X11_missedOfData_J69 F x0_5 a1 a2 a3 c16_2 c29_3 (p_X11_missedOfData_L4 F x0_5 a1 a2 a3 n4) (p_X11_missedOfData_L16 F x0_5 a1 a2 a3 c16_2 (p_X11_missedOfData_L4 F x0_5 a1 a2 a3 n4) n16) (p_X11_missedOfData_L29 F x0_5 a1 a2 a3 c16_2 c29_3 (p_X11_missedOfData_L4 F x0_5 a1 a2 a3 n4) (p_X11_missedOfData_L16 F x0_5 a1 a2 a3 c16_2 (p_X11_missedOfData_L4 F x0_5 a1 a2 a3 n4) n16) n29) u69_4 s69_0 s69_1 = some r0 → ∀ (H : Heap) (locs : List Loc), va_P G.1 vwCl (wW_X11_missedOfData G h0 h1 h2 h3 y0_3 y0_4 y0_6 y0_18 y0_21 y0_22 y0_23 y0_24 y0_25 y0_26 y0_33 y0_34 y0_38 y0_39 y0_40 y0_41 y0_42 y0_43 y0_45 y0_46 y0_47 y0_48 x0_5 x0_7 x0_8 x0_9 x0_10 x0_11 x0_12 x0_13 x0_14 x0_15 x0_16 x0_17 x0_19 x0_20 x0_27 x0_28 x0_29 x0_30 x0_31 x0_32 x0_35 x0_36 x0_37 x0_44 x0_49 x0_50 a1 a2 a3) H → va_D A (wW_X11_missedOfData G h0 h1 h2 h3 y0_3 y0_4 y0_6 y0_18 y0_21 y0_22 y0_23 y0_24 y0_25 y0_26 y0_33 y0_34 y0_38 y0_39 y0_40 y0_41 y0_42 y0_43 y0_45 y0_46 y0_47 y0_48 x0_5 x0_7 x0_8 x0_9 x0_10 x0_11 x0_12 x0_13 x0_14 x0_15 x0_16 x0_17 x0_19 x0_20 x0_27 x0_28 x0_29 x0_30 x0_31 x0_32 x0_35 x0_36 x0_37 x0_44 x0_49 x0_50 a1 a2 a3) → va_S A s.heap H locs → ∀ ls : Array Slot, lv_has ls 5 [(0, .ref h0), (2, .int c16_2), (3, .int c29_3), (4, .int u69_4)] → W p l e ({ frames := 3, cells := 0, slots := 0, locals := 62 } : Room) s m (List.toArray [.ref h0]) below meth c H locs 0 0 (MQ below (QiS G r0 A (wW_X11_missedOfData G h0 h1 h2 h3 y0_3 y0_4 y0_6 y0_18 y0_21 y0_22 y0_23 y0_24 y0_25 y0_26 y0_33 y0_34 y0_38 y0_39 y0_40 y0_41 y0_42 y0_43 y0_45 y0_46 y0_47 y0_48 x0_5 x0_7 x0_8 x0_9 x0_10 x0_11 x0_12 x0_13 x0_14 x0_15 x0_16 x0_17 x0_19 x0_20 x0_27 x0_28 x0_29 x0_30 x0_31 x0_32 x0_35 x0_36 x0_37 x0_44 x0_49 x0_50 a1 a2 a3)) (List.toArray [.ref h0]) s 0 0 A) (F0 m 69 ls [.int s69_1, .int s69_0]) := by
                intro u69_4 s69_0 s69_1 hf H locs hP hD hS ls hl
                refine lv_iadd hx hb dX11_missedOfData_69 ?_
                refine lv_istore_n (lv' := [(1, .int (s69_0 + s69_1)), (0, .ref h0), (2, .int c16_2), (3, .int c29_3), (4, .int u69_4)]) hx hb dX11_missedOfData_70 rfl hl (by decide) rfl (fun ls hl => ?_)
                refine lv_iinc (v := u69_4 + (1 : Int32)) (lv' := [(4, .int (u69_4 + (1 : Int32))), (1, .int (s69_0 + s69_1)), (0, .ref h0), (2, .int c16_2), (3, .int c29_3)]) hx hb dX11_missedOfData_71 hl (k := 4) rfl (by rfl) (by decide) rfl (fun ls hl => ?_)
                refine lv_goto (tgt := 29) hx hb dX11_missedOfData_74 (by decide) ?_
                exact ih29 _ _ hf _ _ hP hD hS _ (lv_sub hl [2, 1, 3, 4, 0] rfl)
              intro u29_1 u29_4 hf H locs hP hD hS ls hl
              have hf : p_X11_missedOfData_L29b F x0_5 a1 a2 a3 c16_2 c29_3 (p_X11_missedOfData_L4 F x0_5 a1 a2 a3 n4) (p_X11_missedOfData_L16 F x0_5 a1 a2 a3 c16_2 (p_X11_missedOfData_L4 F x0_5 a1 a2 a3 n4) n16) (p_X11_missedOfData_L29 F x0_5 a1 a2 a3 c16_2 c29_3 (p_X11_missedOfData_L4 F x0_5 a1 a2 a3 n4) (p_X11_missedOfData_L16 F x0_5 a1 a2 a3 c16_2 (p_X11_missedOfData_L4 F x0_5 a1 a2 a3 n4) n16) n29) u29_1 u29_4 = some r0 := hf
              refine lv_iload hx hb dX11_missedOfData_29 (lv_at hl 4 rfl) ?_
              refine lv_aload_n hx hb dX11_missedOfData_31 rfl (lv_at hl 0 rfl) ?_
              obtain ⟨r_32_0, hc_r_32_0, hf⟩ := of_bnd hf
              refine cl_Vi (w2 := (wW_X11_missedOfData G h0 h1 h2 h3 y0_3 y0_4 y0_6 y0_18 y0_21 y0_22 y0_23 y0_24 y0_25 y0_26 y0_33 y0_34 y0_38 y0_39 y0_40 y0_41 y0_42 y0_43 y0_45 y0_46 y0_47 y0_48 x0_5 x0_7 x0_8 x0_9 x0_10 x0_11 x0_12 x0_13 x0_14 x0_15 x0_16 x0_17 x0_19 x0_20 x0_27 x0_28 x0_29 x0_30 x0_31 x0_32 x0_35 x0_36 x0_37 x0_44 x0_49 x0_50 a1 a2 a3)) (As := []) (rest := [.int u29_4]) ⟨hx, hb, hml, hown, ht0⟩ (c_X11_dataNow l G h0 h2 h1 h3 y0_3 y0_4 y0_6 y0_18 y0_21 y0_22 y0_23 y0_24 y0_25 y0_26 y0_33 y0_34 y0_38 y0_39 y0_40 y0_41 y0_42 y0_43 y0_45 y0_46 y0_47 y0_48 _ x0_5 x0_7 x0_8 x0_9 x0_10 x0_11 x0_12 x0_13 x0_14 x0_15 x0_16 x0_17 x0_19 x0_20 x0_27 x0_28 x0_29 x0_30 x0_31 x0_32 x0_35 x0_36 x0_37 x0_44 x0_49 x0_50 a2 F _ hc_r_32_0) yk_X11_dataNow wd_1398 ⟨rfl, rfl, by decide, by decide⟩ ⟨Nat.le_refl _, Nat.le_refl _⟩ hX hK hP hD hS hA [0, 2] [1, 3] [2, 0, 3, 1] (va_recv hK hP (ci := 11) (q0 := 0) rfl rfl) rfl rfl (by decide) rfl rfl rfl rfl rfl hl.1 rfl (Nat.le_of_ble_eq_true rfl) dX11_missedOfData_32 (fun H locs hP hD hS => ?_)
              refine lv_icmp_ge (tgt := 77) hx hb dX11_missedOfData_35 (by decide) (fun c2 => ?_) (fun c2 => ?_)
              · have hf := of_pos hf c2
                refine lv_iinc (v := c29_3 + (1 : Int32)) (lv' := [(3, .int (c29_3 + (1 : Int32))), (0, .ref h0), (1, .int u29_1), (2, .int c16_2), (4, .int u29_4)]) hx hb dX11_missedOfData_77 hl (k := 3) rfl (by rfl) (by decide) rfl (fun ls hl => ?_)
                refine lv_goto (tgt := 16) hx hb dX11_missedOfData_80 (by decide) ?_
                exact ih16 _ _ hf _ _ hP hD hS _ (lv_sub hl [1, 2, 3, 0] rfl)
              · have hf := of_neg hf c2
                refine lv_iload_n hx hb dX11_missedOfData_38 rfl (lv_at hl 1 rfl) ?_
                refine lv_aload_n hx hb dX11_missedOfData_39 rfl (lv_at hl 0 rfl) ?_
                refine lv_aload_n hx hb dX11_missedOfData_40 rfl (lv_at hl 0 rfl) ?_
                refine lv_iload_n hx hb dX11_missedOfData_41 rfl (lv_at hl 2 rfl) ?_
                obtain ⟨r_42_2, hc_r_42_2, hf⟩ := of_bnd hf
                refine cl_Vi (w2 := (wW_X11_missedOfData G h0 h1 h2 h3 y0_3 y0_4 y0_6 y0_18 y0_21 y0_22 y0_23 y0_24 y0_25 y0_26 y0_33 y0_34 y0_38 y0_39 y0_40 y0_41 y0_42 y0_43 y0_45 y0_46 y0_47 y0_48 x0_5 x0_7 x0_8 x0_9 x0_10 x0_11 x0_12 x0_13 x0_14 x0_15 x0_16 x0_17 x0_19 x0_20 x0_27 x0_28 x0_29 x0_30 x0_31 x0_32 x0_35 x0_36 x0_37 x0_44 x0_49 x0_50 a1 a2 a3)) (As := [.int c16_2]) (rest := [.ref h0, .int u29_1]) ⟨hx, hb, hml, hown, ht0⟩ (c_X11_columnAt l G h0 h1 h2 h3 y0_3 y0_4 y0_6 y0_18 y0_21 y0_22 y0_23 y0_24 y0_25 y0_26 y0_33 y0_34 y0_38 y0_39 y0_40 y0_41 y0_42 y0_43 y0_45 y0_46 y0_47 y0_48 _ x0_5 x0_7 x0_8 x0_9 x0_10 x0_11 x0_12 x0_13 x0_14 x0_15 x0_16 x0_17 x0_19 x0_20 x0_27 x0_28 x0_29 x0_30 x0_31 x0_32 x0_35 x0_36 x0_37 x0_44 x0_49 x0_50 a1 F c16_2 _ hc_r_42_2) yk_X11_columnAt wd_1402 ⟨rfl, rfl, by decide, by decide⟩ ⟨Nat.le_refl _, Nat.le_refl _⟩ hX hK hP hD hS hA [0, 1] [2, 3] [2, 3, 0, 1] (va_recv hK hP (ci := 11) (q0 := 0) rfl rfl) rfl rfl (by decide) rfl rfl rfl rfl rfl hl.1 rfl (Nat.le_of_ble_eq_true rfl) dX11_missedOfData_42 (fun H locs hP hD hS => ?_)
                refine lv_aload_n hx hb dX11_missedOfData_45 rfl (lv_at hl 0 rfl) ?_
                refine lv_iload_n hx hb dX11_missedOfData_46 rfl (lv_at hl 3 rfl) ?_
                obtain ⟨r_47_3, hc_r_47_3, hf⟩ := of_bnd hf
                refine cl_Vi (w2 := (wW_X11_missedOfData G h0 h1 h2 h3 y0_3 y0_4 y0_6 y0_18 y0_21 y0_22 y0_23 y0_24 y0_25 y0_26 y0_33 y0_34 y0_38 y0_39 y0_40 y0_41 y0_42 y0_43 y0_45 y0_46 y0_47 y0_48 x0_5 x0_7 x0_8 x0_9 x0_10 x0_11 x0_12 x0_13 x0_14 x0_15 x0_16 x0_17 x0_19 x0_20 x0_27 x0_28 x0_29 x0_30 x0_31 x0_32 x0_35 x0_36 x0_37 x0_44 x0_49 x0_50 a1 a2 a3)) (As := [.int c29_3]) (rest := [.int r_42_2, .ref h0, .int u29_1]) ⟨hx, hb, hml, hown, ht0⟩ (c_X11_columnAt l G h0 h1 h2 h3 y0_3 y0_4 y0_6 y0_18 y0_21 y0_22 y0_23 y0_24 y0_25 y0_26 y0_33 y0_34 y0_38 y0_39 y0_40 y0_41 y0_42 y0_43 y0_45 y0_46 y0_47 y0_48 _ x0_5 x0_7 x0_8 x0_9 x0_10 x0_11 x0_12 x0_13 x0_14 x0_15 x0_16 x0_17 x0_19 x0_20 x0_27 x0_28 x0_29 x0_30 x0_31 x0_32 x0_35 x0_36 x0_37 x0_44 x0_49 x0_50 a1 F c29_3 _ hc_r_47_3) yk_X11_columnAt wd_1402 ⟨rfl, rfl, by decide, by decide⟩ ⟨Nat.le_refl _, Nat.le_refl _⟩ hX hK hP hD hS hA [0, 1] [2, 3] [2, 3, 0, 1] (va_recv hK hP (ci := 11) (q0 := 0) rfl rfl) rfl rfl (by decide) rfl rfl rfl rfl rfl hl.1 rfl (Nat.le_of_ble_eq_true rfl) dX11_missedOfData_47 (fun H locs hP hD hS => ?_)
                refine lv_ixor hx hb dX11_missedOfData_50 ?_
                refine lv_aload_n hx hb dX11_missedOfData_51 rfl (lv_at hl 0 rfl) ?_
                refine lv_iload hx hb dX11_missedOfData_52 (lv_at hl 4 rfl) ?_
                obtain ⟨r_54_4, hc_r_54_4, hf⟩ := of_bnd hf
                refine cl_Vi (w2 := (wW_X11_missedOfData G h0 h1 h2 h3 y0_3 y0_4 y0_6 y0_18 y0_21 y0_22 y0_23 y0_24 y0_25 y0_26 y0_33 y0_34 y0_38 y0_39 y0_40 y0_41 y0_42 y0_43 y0_45 y0_46 y0_47 y0_48 x0_5 x0_7 x0_8 x0_9 x0_10 x0_11 x0_12 x0_13 x0_14 x0_15 x0_16 x0_17 x0_19 x0_20 x0_27 x0_28 x0_29 x0_30 x0_31 x0_32 x0_35 x0_36 x0_37 x0_44 x0_49 x0_50 a1 a2 a3)) (As := [.int u29_4]) (rest := [.int (r_42_2 ^^^ r_47_3), .ref h0, .int u29_1]) ⟨hx, hb, hml, hown, ht0⟩ (c_X11_columnAt l G h0 h1 h2 h3 y0_3 y0_4 y0_6 y0_18 y0_21 y0_22 y0_23 y0_24 y0_25 y0_26 y0_33 y0_34 y0_38 y0_39 y0_40 y0_41 y0_42 y0_43 y0_45 y0_46 y0_47 y0_48 _ x0_5 x0_7 x0_8 x0_9 x0_10 x0_11 x0_12 x0_13 x0_14 x0_15 x0_16 x0_17 x0_19 x0_20 x0_27 x0_28 x0_29 x0_30 x0_31 x0_32 x0_35 x0_36 x0_37 x0_44 x0_49 x0_50 a1 F u29_4 _ hc_r_54_4) yk_X11_columnAt wd_1402 ⟨rfl, rfl, by decide, by decide⟩ ⟨Nat.le_refl _, Nat.le_refl _⟩ hX hK hP hD hS hA [0, 1] [2, 3] [2, 3, 0, 1] (va_recv hK hP (ci := 11) (q0 := 0) rfl rfl) rfl rfl (by decide) rfl rfl rfl rfl rfl hl.1 rfl (Nat.le_of_ble_eq_true rfl) dX11_missedOfData_54 (fun H locs hP hD hS => ?_)
                refine lv_ixor hx hb dX11_missedOfData_57 ?_
                obtain ⟨r_58_5, hc_r_58_5, hf⟩ := of_bnd hf
                refine cl_Vi (w2 := (wW_X11_missedOfData G h0 h1 h2 h3 y0_3 y0_4 y0_6 y0_18 y0_21 y0_22 y0_23 y0_24 y0_25 y0_26 y0_33 y0_34 y0_38 y0_39 y0_40 y0_41 y0_42 y0_43 y0_45 y0_46 y0_47 y0_48 x0_5 x0_7 x0_8 x0_9 x0_10 x0_11 x0_12 x0_13 x0_14 x0_15 x0_16 x0_17 x0_19 x0_20 x0_27 x0_28 x0_29 x0_30 x0_31 x0_32 x0_35 x0_36 x0_37 x0_44 x0_49 x0_50 a1 a2 a3)) (As := [.int ((r_42_2 ^^^ r_47_3) ^^^ r_54_4)]) (rest := [.int u29_1]) ⟨hx, hb, hml, hown, ht0⟩ (c_X11_placeOf l G h0 h1 h2 h3 y0_3 y0_4 y0_6 y0_18 y0_21 y0_22 y0_23 y0_24 y0_25 y0_26 y0_33 y0_34 y0_38 y0_39 y0_40 y0_41 y0_42 y0_43 y0_45 y0_46 y0_47 y0_48 _ x0_5 x0_7 x0_8 x0_9 x0_10 x0_11 x0_12 x0_13 x0_14 x0_15 x0_16 x0_17 x0_19 x0_20 x0_27 x0_28 x0_29 x0_30 x0_31 x0_32 x0_35 x0_36 x0_37 x0_44 x0_49 x0_50 a1 a2 a3 F ((r_42_2 ^^^ r_47_3) ^^^ r_54_4) _ hc_r_58_5) yk_X11_placeOf wd_1651 ⟨rfl, rfl, by decide, by decide⟩ ⟨Nat.le_refl _, Nat.le_refl _⟩ hX hK hP hD hS hA [0, 1, 2, 3] [] [0, 1, 2, 3] (va_recv hK hP (ci := 11) (q0 := 0) rfl rfl) rfl rfl (by decide) rfl rfl rfl rfl rfl hl.1 rfl (Nat.le_of_ble_eq_true rfl) dX11_missedOfData_58 (fun H locs hP hD hS => ?_)
                refine lv_if_lt (tgt := 68) hx hb dX11_missedOfData_61 (by decide) (fun c7 => ?_) (fun c7 => ?_)
                · have hf := of_pos hf c7
                  refine lv_iconst (v := (0 : Int32)) hx hb dX11_missedOfData_68 (by decide) ?_
                  exact kJ69 _ _ _ hf _ _ hP hD hS _ (lv_sub hl [0, 2, 3, 4] rfl)
                · have hf := of_neg hf c7
                  refine lv_iconst (v := (1 : Int32)) hx hb dX11_missedOfData_64 (by decide) ?_
                  refine lv_goto (tgt := 69) hx hb dX11_missedOfData_65 (by decide) ?_
                  exact kJ69 _ _ _ hf _ _ hP hD hS _ (lv_sub hl [0, 2, 3, 4] rfl)
          intro u16_1 u16_3 hf H locs hP hD hS ls hl
          have hf : p_X11_missedOfData_L16b F x0_5 a1 a2 a3 c16_2 (p_X11_missedOfData_L4 F x0_5 a1 a2 a3 n4) (p_X11_missedOfData_L16 F x0_5 a1 a2 a3 c16_2 (p_X11_missedOfData_L4 F x0_5 a1 a2 a3 n4) n16) u16_1 u16_3 = some r0 := hf
          refine lv_iload_n hx hb dX11_missedOfData_16 rfl (lv_at hl 3 rfl) ?_
          refine lv_aload_n hx hb dX11_missedOfData_17 rfl (lv_at hl 0 rfl) ?_
          obtain ⟨r_18_7, hc_r_18_7, hf⟩ := of_bnd hf
          refine cl_Vi (w2 := (wW_X11_missedOfData G h0 h1 h2 h3 y0_3 y0_4 y0_6 y0_18 y0_21 y0_22 y0_23 y0_24 y0_25 y0_26 y0_33 y0_34 y0_38 y0_39 y0_40 y0_41 y0_42 y0_43 y0_45 y0_46 y0_47 y0_48 x0_5 x0_7 x0_8 x0_9 x0_10 x0_11 x0_12 x0_13 x0_14 x0_15 x0_16 x0_17 x0_19 x0_20 x0_27 x0_28 x0_29 x0_30 x0_31 x0_32 x0_35 x0_36 x0_37 x0_44 x0_49 x0_50 a1 a2 a3)) (As := []) (rest := [.int u16_3]) ⟨hx, hb, hml, hown, ht0⟩ (c_X11_dataNow l G h0 h2 h1 h3 y0_3 y0_4 y0_6 y0_18 y0_21 y0_22 y0_23 y0_24 y0_25 y0_26 y0_33 y0_34 y0_38 y0_39 y0_40 y0_41 y0_42 y0_43 y0_45 y0_46 y0_47 y0_48 _ x0_5 x0_7 x0_8 x0_9 x0_10 x0_11 x0_12 x0_13 x0_14 x0_15 x0_16 x0_17 x0_19 x0_20 x0_27 x0_28 x0_29 x0_30 x0_31 x0_32 x0_35 x0_36 x0_37 x0_44 x0_49 x0_50 a2 F _ hc_r_18_7) yk_X11_dataNow wd_1398 ⟨rfl, rfl, by decide, by decide⟩ ⟨Nat.le_refl _, Nat.le_refl _⟩ hX hK hP hD hS hA [0, 2] [1, 3] [2, 0, 3, 1] (va_recv hK hP (ci := 11) (q0 := 0) rfl rfl) rfl rfl (by decide) rfl rfl rfl rfl rfl hl.1 rfl (Nat.le_of_ble_eq_true rfl) dX11_missedOfData_18 (fun H locs hP hD hS => ?_)
          refine lv_icmp_ge (tgt := 83) hx hb dX11_missedOfData_21 (by decide) (fun c9 => ?_) (fun c9 => ?_)
          · have hf := of_pos hf c9
            refine lv_iinc (v := c16_2 + (1 : Int32)) (lv' := [(2, .int (c16_2 + (1 : Int32))), (0, .ref h0), (1, .int u16_1), (3, .int u16_3)]) hx hb dX11_missedOfData_83 hl (k := 2) rfl (by rfl) (by decide) rfl (fun ls hl => ?_)
            refine lv_goto (tgt := 4) hx hb dX11_missedOfData_86 (by decide) ?_
            exact ih4 _ _ hf _ _ hP hD hS _ (lv_sub hl [1, 2, 0] rfl)
          · have hf := of_neg hf c9
            refine lv_iload_n hx hb dX11_missedOfData_24 rfl (lv_at hl 3 rfl) ?_
            refine lv_iconst (v := (1 : Int32)) hx hb dX11_missedOfData_25 (by decide) ?_
            refine lv_iadd hx hb dX11_missedOfData_26 ?_
            refine lv_istore (lv' := [(4, .int (u16_3 + (1 : Int32))), (0, .ref h0), (1, .int u16_1), (2, .int c16_2), (3, .int u16_3)]) hx hb dX11_missedOfData_27 hl (by decide) rfl (fun ls hl => ?_)
            exact kL29 _ _ _ _ hf _ _ hP hD hS _ (lv_sub hl [1, 2, 3, 4, 0] rfl)
      intro u4_1 u4_2 hf H locs hP hD hS ls hl
      have hf : p_X11_missedOfData_L4b F x0_5 a1 a2 a3 (p_X11_missedOfData_L4 F x0_5 a1 a2 a3 n4) u4_1 u4_2 = some r0 := hf
      refine lv_iload_n hx hb dX11_missedOfData_4 rfl (lv_at hl 2 rfl) ?_
      refine lv_aload_n hx hb dX11_missedOfData_5 rfl (lv_at hl 0 rfl) ?_
      obtain ⟨r_6_9, hc_r_6_9, hf⟩ := of_bnd hf
      refine cl_Vi (w2 := (wW_X11_missedOfData G h0 h1 h2 h3 y0_3 y0_4 y0_6 y0_18 y0_21 y0_22 y0_23 y0_24 y0_25 y0_26 y0_33 y0_34 y0_38 y0_39 y0_40 y0_41 y0_42 y0_43 y0_45 y0_46 y0_47 y0_48 x0_5 x0_7 x0_8 x0_9 x0_10 x0_11 x0_12 x0_13 x0_14 x0_15 x0_16 x0_17 x0_19 x0_20 x0_27 x0_28 x0_29 x0_30 x0_31 x0_32 x0_35 x0_36 x0_37 x0_44 x0_49 x0_50 a1 a2 a3)) (As := []) (rest := [.int u4_2]) ⟨hx, hb, hml, hown, ht0⟩ (c_X11_dataNow l G h0 h2 h1 h3 y0_3 y0_4 y0_6 y0_18 y0_21 y0_22 y0_23 y0_24 y0_25 y0_26 y0_33 y0_34 y0_38 y0_39 y0_40 y0_41 y0_42 y0_43 y0_45 y0_46 y0_47 y0_48 _ x0_5 x0_7 x0_8 x0_9 x0_10 x0_11 x0_12 x0_13 x0_14 x0_15 x0_16 x0_17 x0_19 x0_20 x0_27 x0_28 x0_29 x0_30 x0_31 x0_32 x0_35 x0_36 x0_37 x0_44 x0_49 x0_50 a2 F _ hc_r_6_9) yk_X11_dataNow wd_1398 ⟨rfl, rfl, by decide, by decide⟩ ⟨Nat.le_refl _, Nat.le_refl _⟩ hX hK hP hD hS hA [0, 2] [1, 3] [2, 0, 3, 1] (va_recv hK hP (ci := 11) (q0 := 0) rfl rfl) rfl rfl (by decide) rfl rfl rfl rfl rfl hl.1 rfl (Nat.le_of_ble_eq_true rfl) dX11_missedOfData_6 (fun H locs hP hD hS => ?_)
      refine lv_icmp_ge (tgt := 89) hx hb dX11_missedOfData_9 (by decide) (fun c11 => ?_) (fun c11 => ?_)
      · have hf := of_pos hf c11
        refine lv_iload_n hx hb dX11_missedOfData_89 rfl (lv_at hl 1 rfl) ?_
        cases hf
        exact ret_i hx hb hr hlk hK hP hD hS dX11_missedOfData_90
      · have hf := of_neg hf c11
        refine lv_iload_n hx hb dX11_missedOfData_12 rfl (lv_at hl 2 rfl) ?_
        refine lv_iconst (v := (1 : Int32)) hx hb dX11_missedOfData_13 (by decide) ?_
        refine lv_iadd hx hb dX11_missedOfData_14 ?_
        refine lv_istore_n (lv' := [(3, .int (u4_2 + (1 : Int32))), (0, .ref h0), (1, .int u4_1), (2, .int u4_2)]) hx hb dX11_missedOfData_15 rfl hl (by decide) rfl (fun ls hl => ?_)
        exact kL16 _ _ _ _ hf _ _ hP hD hS _ (lv_sub hl [1, 2, 3, 0] rfl)
  refine lv_iconst (v := (0 : Int32)) hx hb dX11_missedOfData_0 (by decide) ?_
  refine lv_istore_n (lv' := [(1, .int (0 : Int32)), (0, .ref h0)]) hx hb dX11_missedOfData_1 rfl hl (by decide) rfl (fun ls hl => ?_)
  refine lv_iconst (v := (0 : Int32)) hx hb dX11_missedOfData_2 (by decide) ?_
  refine lv_istore_n (lv' := [(2, .int (0 : Int32)), (1, .int (0 : Int32)), (0, .ref h0)]) hx hb dX11_missedOfData_3 rfl hl (by decide) rfl (fun ls hl => ?_)
  exact kL4 _ _ _ hf _ _ hP hD hS _ (lv_sub hl [2, 1, 0] rfl)
theorem yk_X11_missedOfData : ykV yX11_missedOfData RX11 cX11_missedOfData 5 (some .int) 0 := ⟨wd_1843, wd_110, wd_142, wd_1844, rfl, by decide +kernel, by decide +kernel, by decide +kernel⟩
theorem dX11_threes_0 : decode cX11_threes 0 = .ok (.aload_n 0, 1) := by decide +kernel
theorem dX11_threes_1 : decode cX11_threes 1 = .ok (.invokevirtual 217, 3) := by decide +kernel
theorem dX11_threes_4 : decode cX11_threes 4 = .ok (.istore_n 2, 1) := by decide +kernel
theorem dX11_threes_5 : decode cX11_threes 5 = .ok (.iload_n 1, 1) := by decide +kernel
theorem dX11_threes_6 : decode cX11_threes 6 = .ok (.ifCond .ne 10, 3) := by decide +kernel
theorem dX11_threes_9 : decode cX11_threes 9 = .ok (.aload_n 0, 1) := by decide +kernel
theorem dX11_threes_10 : decode cX11_threes 10 = .ok (.invokevirtual 414, 3) := by decide +kernel
theorem dX11_threes_13 : decode cX11_threes 13 = .ok (.goto 36, 3) := by decide +kernel
theorem dX11_threes_16 : decode cX11_threes 16 = .ok (.iload_n 1, 1) := by decide +kernel
theorem dX11_threes_17 : decode cX11_threes 17 = .ok (.iconst 1, 1) := by decide +kernel
theorem dX11_threes_18 : decode cX11_threes 18 = .ok (.if_icmp .ne 10, 3) := by decide +kernel
theorem dX11_threes_21 : decode cX11_threes 21 = .ok (.aload_n 0, 1) := by decide +kernel
theorem dX11_threes_22 : decode cX11_threes 22 = .ok (.invokevirtual 417, 3) := by decide +kernel
theorem dX11_threes_25 : decode cX11_threes 25 = .ok (.goto 24, 3) := by decide +kernel
theorem dX11_threes_28 : decode cX11_threes 28 = .ok (.iload_n 1, 1) := by decide +kernel
theorem dX11_threes_29 : decode cX11_threes 29 = .ok (.iconst 2, 1) := by decide +kernel
theorem dX11_threes_30 : decode cX11_threes 30 = .ok (.if_icmp .ne 18, 3) := by decide +kernel
theorem dX11_threes_33 : decode cX11_threes 33 = .ok (.iload_n 2, 1) := by decide +kernel
theorem dX11_threes_34 : decode cX11_threes 34 = .ok (.iload_n 2, 1) := by decide +kernel
theorem dX11_threes_35 : decode cX11_threes 35 = .ok (.iconst 1, 1) := by decide +kernel
theorem dX11_threes_36 : decode cX11_threes 36 = .ok (.isub, 1) := by decide +kernel
theorem dX11_threes_37 : decode cX11_threes 37 = .ok (.imul, 1) := by decide +kernel
theorem dX11_threes_38 : decode cX11_threes 38 = .ok (.iload_n 2, 1) := by decide +kernel
theorem dX11_threes_39 : decode cX11_threes 39 = .ok (.iconst 2, 1) := by decide +kernel
theorem dX11_threes_40 : decode cX11_threes 40 = .ok (.isub, 1) := by decide +kernel
theorem dX11_threes_41 : decode cX11_threes 41 = .ok (.imul, 1) := by decide +kernel
theorem dX11_threes_42 : decode cX11_threes 42 = .ok (.bipush 6, 2) := by decide +kernel
theorem dX11_threes_44 : decode cX11_threes 44 = .ok (.idiv, 1) := by decide +kernel
theorem dX11_threes_45 : decode cX11_threes 45 = .ok (.goto 4, 3) := by decide +kernel
theorem dX11_threes_48 : decode cX11_threes 48 = .ok (.iconst (-1), 1) := by decide +kernel
theorem dX11_threes_49 : decode cX11_threes 49 = .ok (.ireturn, 1) := by decide +kernel
def wW_X11_threes (G : GG) (h0 h1 h2 h3 h4 y0_3 y0_4 y0_6 y0_18 y0_21 y0_22 y0_23 y0_24 y0_25 y0_26 y0_33 y0_38 y0_39 y0_40 y0_41 y0_42 y0_43 y0_45 y0_46 y0_47 y0_48 : Nat) (x0_5 : Int32) (x0_7 : Int32) (x0_8 : Int32) (x0_9 : Int32) (x0_10 : Int32) (x0_11 : Int32) (x0_12 : Int32) (x0_13 : Int32) (x0_14 : Int32) (x0_15 : Int32) (x0_16 : Int32) (x0_17 : Int32) (x0_19 : Int32) (x0_20 : Int32) (x0_27 : Int32) (x0_28 : Int32) (x0_29 : Int32) (x0_30 : Int32) (x0_31 : Int32) (x0_32 : Int32) (x0_35 : Int32) (x0_36 : Int32) (x0_37 : Int32) (x0_44 : Int32) (x0_49 : Int32) (x0_50 : Int32) (a1 : Nat → Int32) (a2 : Nat → Int32) (a3 : Nat → Int32) (a4 : Nat → Int32) : va_W := [(h0, .inr (11, [.ref h1, .ref h2, .ref h3, .ref y0_3, .ref y0_4, .int x0_5, .ref y0_6, .int x0_7, .int x0_8, .int x0_9, .int x0_10, .int x0_11, .int x0_12, .int x0_13, .int x0_14, .int x0_15, .int x0_16, .int x0_17, .ref y0_18, .int x0_19, .int x0_20, .ref y0_21, .ref y0_22, .ref y0_23, .ref y0_24, .ref y0_25, .ref y0_26, .int x0_27, .int x0_28, .int x0_29, .int x0_30, .int x0_31, .int x0_32, .ref y0_33, .ref h4, .int x0_35, .int x0_36, .int x0_37, .ref y0_38, .ref y0_39, .ref y0_40, .ref y0_41, .ref y0_42, .ref y0_43, .int x0_44, .ref y0_45, .ref y0_46, .ref y0_47, .ref y0_48, .int x0_49, .int x0_50])), (h1, .inl (G.2.1, 121, .inl a1)), (h2, .inl (G.2.1, 2, .inl a2)), (h3, .inl (G.2.1, 2, .inl a3)), (h4, .inl (G.2.1, 256, .inl a4))]
set_option maxHeartbeats 4000000 in
set_option maxRecDepth 100000 in
theorem c_X11_threes (l : Launch) (G : GG) (h0 h1 h2 h3 h4 y0_3 y0_4 y0_6 y0_18 y0_21 y0_22 y0_23 y0_24 y0_25 y0_26 y0_33 y0_38 y0_39 y0_40 y0_41 y0_42 y0_43 y0_45 y0_46 y0_47 y0_48 : Nat) (sz : Nat) (x0_5 : Int32) (x0_7 : Int32) (x0_8 : Int32) (x0_9 : Int32) (x0_10 : Int32) (x0_11 : Int32) (x0_12 : Int32) (x0_13 : Int32) (x0_14 : Int32) (x0_15 : Int32) (x0_16 : Int32) (x0_17 : Int32) (x0_19 : Int32) (x0_20 : Int32) (x0_27 : Int32) (x0_28 : Int32) (x0_29 : Int32) (x0_30 : Int32) (x0_31 : Int32) (x0_32 : Int32) (x0_35 : Int32) (x0_36 : Int32) (x0_37 : Int32) (x0_44 : Int32) (x0_49 : Int32) (x0_50 : Int32) (a1 : Nat → Int32) (a2 : Nat → Int32) (a3 : Nat → Int32) (a4 : Nat → Int32) (F : Nat) (b1 : Int32)  (r0 : Int32) (e_a4 : Nat → Int32) (hf : p_X11_threes F x0_5 a1 a2 a3 a4 b1 = some (r0, e_a4)) : Met l yX11_threes (.code yX11_threes cX11_threes 3 (some .int) :: gtbl) ({ frames := 4, cells := 0, slots := 0, locals := 87 } : Room) (PcS G [.ref h0, .int b1] (wW_X11_threes G h0 h1 h2 h3 h4 y0_3 y0_4 y0_6 y0_18 y0_21 y0_22 y0_23 y0_24 y0_25 y0_26 y0_33 y0_38 y0_39 y0_40 y0_41 y0_42 y0_43 y0_45 y0_46 y0_47 y0_48 x0_5 x0_7 x0_8 x0_9 x0_10 x0_11 x0_12 x0_13 x0_14 x0_15 x0_16 x0_17 x0_19 x0_20 x0_27 x0_28 x0_29 x0_30 x0_31 x0_32 x0_35 x0_36 x0_37 x0_44 x0_49 x0_50 a1 a2 a3 a4) sz) (QiS G r0 (va_A (wW_X11_threes G h0 h1 h2 h3 h4 y0_3 y0_4 y0_6 y0_18 y0_21 y0_22 y0_23 y0_24 y0_25 y0_26 y0_33 y0_38 y0_39 y0_40 y0_41 y0_42 y0_43 y0_45 y0_46 y0_47 y0_48 x0_5 x0_7 x0_8 x0_9 x0_10 x0_11 x0_12 x0_13 x0_14 x0_15 x0_16 x0_17 x0_19 x0_20 x0_27 x0_28 x0_29 x0_30 x0_31 x0_32 x0_35 x0_36 x0_37 x0_44 x0_49 x0_50 a1 a2 a3 a4) sz) (wW_X11_threes G h0 h1 h2 h3 h4 y0_3 y0_4 y0_6 y0_18 y0_21 y0_22 y0_23 y0_24 y0_25 y0_26 y0_33 y0_38 y0_39 y0_40 y0_41 y0_42 y0_43 y0_45 y0_46 y0_47 y0_48 x0_5 x0_7 x0_8 x0_9 x0_10 x0_11 x0_12 x0_13 x0_14 x0_15 x0_16 x0_17 x0_19 x0_20 x0_27 x0_28 x0_29 x0_30 x0_31 x0_32 x0_35 x0_36 x0_37 x0_44 x0_49 x0_50 a1 a2 a3 e_a4)) 0 0 (va_A (wW_X11_threes G h0 h1 h2 h3 h4 y0_3 y0_4 y0_6 y0_18 y0_21 y0_22 y0_23 y0_24 y0_25 y0_26 y0_33 y0_38 y0_39 y0_40 y0_41 y0_42 y0_43 y0_45 y0_46 y0_47 y0_48 x0_5 x0_7 x0_8 x0_9 x0_10 x0_11 x0_12 x0_13 x0_14 x0_15 x0_16 x0_17 x0_19 x0_20 x0_27 x0_28 x0_29 x0_30 x0_31 x0_32 x0_35 x0_36 x0_37 x0_44 x0_49 x0_50 a1 a2 a3 a4) sz) := by
  refine met_start (by decide) (Nat.le_of_ble_eq_true rfl) ?_
  intro p e s m below meth c hC hr hlk hnm hK hP hD hA hS hX ls hl
  obtain ⟨hx, hb, hml, hown, ht0⟩ := hC
  have hown : s.vm.findClass RX11 = some m.cls := hown
  generalize va_A (wW_X11_threes G h0 h1 h2 h3 h4 y0_3 y0_4 y0_6 y0_18 y0_21 y0_22 y0_23 y0_24 y0_25 y0_26 y0_33 y0_38 y0_39 y0_40 y0_41 y0_42 y0_43 y0_45 y0_46 y0_47 y0_48 x0_5 x0_7 x0_8 x0_9 x0_10 x0_11 x0_12 x0_13 x0_14 x0_15 x0_16 x0_17 x0_19 x0_20 x0_27 x0_28 x0_29 x0_30 x0_31 x0_32 x0_35 x0_36 x0_37 x0_44 x0_49 x0_50 a1 a2 a3 a4) sz = A at hD hA hS hX ⊢
  have hl : lv_has ls 3 [(0, .ref h0), (1, .int b1)] := hl
  have hf : p_X11_threes F x0_5 a1 a2 a3 a4 b1 = some (r0, e_a4) := hf
  refine lv_aload_n hx hb dX11_threes_0 rfl (lv_at hl 0 rfl) ?_
  obtain ⟨r_1_0, hc_r_1_0, hf⟩ := of_bnd hf
  refine cl_Vi (w2 := (wW_X11_threes G h0 h1 h2 h3 h4 y0_3 y0_4 y0_6 y0_18 y0_21 y0_22 y0_23 y0_24 y0_25 y0_26 y0_33 y0_38 y0_39 y0_40 y0_41 y0_42 y0_43 y0_45 y0_46 y0_47 y0_48 x0_5 x0_7 x0_8 x0_9 x0_10 x0_11 x0_12 x0_13 x0_14 x0_15 x0_16 x0_17 x0_19 x0_20 x0_27 x0_28 x0_29 x0_30 x0_31 x0_32 x0_35 x0_36 x0_37 x0_44 x0_49 x0_50 a1 a2 a3 a4)) (As := []) (rest := []) ⟨hx, hb, hml, hown, ht0⟩ (c_X11_places l G h0 h2 h3 h1 y0_3 y0_4 y0_6 y0_18 y0_21 y0_22 y0_23 y0_24 y0_25 y0_26 y0_33 h4 y0_38 y0_39 y0_40 y0_41 y0_42 y0_43 y0_45 y0_46 y0_47 y0_48 _ x0_5 x0_7 x0_8 x0_9 x0_10 x0_11 x0_12 x0_13 x0_14 x0_15 x0_16 x0_17 x0_19 x0_20 x0_27 x0_28 x0_29 x0_30 x0_31 x0_32 x0_35 x0_36 x0_37 x0_44 x0_49 x0_50 a2 a3 F _ hc_r_1_0) yk_X11_places wd_1572 ⟨rfl, rfl, by decide, by decide⟩ ⟨Nat.le_refl _, Nat.le_refl _⟩ hX hK hP hD hS hA [0, 2, 3] [1, 4] [2, 0, 3, 4, 1] (va_recv hK hP (ci := 11) (q0 := 0) rfl rfl) rfl rfl (by decide) rfl rfl rfl rfl rfl hl.1 rfl (Nat.le_of_ble_eq_true rfl) dX11_threes_1 (fun H locs hP hD hS => ?_)
  refine lv_istore_n (lv' := [(2, .int r_1_0), (0, .ref h0), (1, .int b1)]) hx hb dX11_threes_4 rfl hl (by decide) rfl (fun ls hl => ?_)
  refine lv_iload_n hx hb dX11_threes_5 rfl (lv_at hl 2 rfl) ?_
  refine lv_if_ne (tgt := 16) hx hb dX11_threes_6 (by decide) (fun c2 => ?_) (fun c2 => ?_)
  · have hf := of_neg hf c2
    refine lv_iload_n hx hb dX11_threes_16 rfl (lv_at hl 2 rfl) ?_
    refine lv_iconst (v := (1 : Int32)) hx hb dX11_threes_17 (by decide) ?_
    refine lv_icmp_ne (tgt := 28) hx hb dX11_threes_18 (by decide) (fun c3 => ?_) (fun c3 => ?_)
    · have hf := of_neg hf c3
      refine lv_iload_n hx hb dX11_threes_28 rfl (lv_at hl 2 rfl) ?_
      refine lv_iconst (v := (2 : Int32)) hx hb dX11_threes_29 (by decide) ?_
      refine lv_icmp_ne (tgt := 48) hx hb dX11_threes_30 (by decide) (fun c4 => ?_) (fun c4 => ?_)
      · have hf := of_neg hf c4
        refine lv_iconst (v := (-1 : Int32)) hx hb dX11_threes_48 (by decide) ?_
        cases hf
        exact ret_i hx hb hr hlk hK hP hD hS dX11_threes_49
      · have hf := of_pos hf c4
        refine lv_iload_n hx hb dX11_threes_33 rfl (lv_at hl 0 rfl) ?_
        refine lv_iload_n hx hb dX11_threes_34 rfl (lv_at hl 0 rfl) ?_
        refine lv_iconst (v := (1 : Int32)) hx hb dX11_threes_35 (by decide) ?_
        refine lv_isub hx hb dX11_threes_36 ?_
        refine lv_imul hx hb dX11_threes_37 ?_
        refine lv_iload_n hx hb dX11_threes_38 rfl (lv_at hl 0 rfl) ?_
        refine lv_iconst (v := (2 : Int32)) hx hb dX11_threes_39 (by decide) ?_
        refine lv_isub hx hb dX11_threes_40 ?_
        refine lv_imul hx hb dX11_threes_41 ?_
        refine lv_bipush (v := (6 : Int32)) hx hb dX11_threes_42 (by decide) ?_
        refine lv_idiv hx hb dX11_threes_44 (by decide) ?_
        refine lv_goto (tgt := 49) hx hb dX11_threes_45 (by decide) ?_
        cases hf
        exact ret_i hx hb hr hlk hK hP hD hS dX11_threes_49
    · have hf := of_pos hf c3
      refine lv_aload_n hx hb dX11_threes_21 rfl (lv_at hl 1 rfl) ?_
      obtain ⟨r_22_4, hc_r_22_4, hf⟩ := of_bnd hf
      refine cl_Vi (w2 := (wW_X11_threes G h0 h1 h2 h3 h4 y0_3 y0_4 y0_6 y0_18 y0_21 y0_22 y0_23 y0_24 y0_25 y0_26 y0_33 y0_38 y0_39 y0_40 y0_41 y0_42 y0_43 y0_45 y0_46 y0_47 y0_48 x0_5 x0_7 x0_8 x0_9 x0_10 x0_11 x0_12 x0_13 x0_14 x0_15 x0_16 x0_17 x0_19 x0_20 x0_27 x0_28 x0_29 x0_30 x0_31 x0_32 x0_35 x0_36 x0_37 x0_44 x0_49 x0_50 a1 a2 a3 a4)) (As := []) (rest := []) ⟨hx, hb, hml, hown, ht0⟩ (c_X11_missedOfData l G h0 h1 h2 h3 y0_3 y0_4 y0_6 y0_18 y0_21 y0_22 y0_23 y0_24 y0_25 y0_26 y0_33 h4 y0_38 y0_39 y0_40 y0_41 y0_42 y0_43 y0_45 y0_46 y0_47 y0_48 _ x0_5 x0_7 x0_8 x0_9 x0_10 x0_11 x0_12 x0_13 x0_14 x0_15 x0_16 x0_17 x0_19 x0_20 x0_27 x0_28 x0_29 x0_30 x0_31 x0_32 x0_35 x0_36 x0_37 x0_44 x0_49 x0_50 a1 a2 a3 F _ hc_r_22_4) yk_X11_missedOfData wd_1841 ⟨rfl, rfl, by decide, by decide⟩ ⟨Nat.le_refl _, Nat.le_refl _⟩ hX hK hP hD hS hA [0, 1, 2, 3] [4] [1, 2, 3, 4, 0] (va_recv hK hP (ci := 11) (q0 := 0) rfl rfl) rfl rfl (by decide) rfl rfl rfl rfl rfl hl.1 rfl (Nat.le_of_ble_eq_true rfl) dX11_threes_22 (fun H locs hP hD hS => ?_)
      refine lv_goto (tgt := 49) hx hb dX11_threes_25 (by decide) ?_
      cases hf
      exact ret_i hx hb hr hlk hK hP hD hS dX11_threes_49
  · have hf := of_pos hf c2
    refine lv_aload_n hx hb dX11_threes_9 rfl (lv_at hl 1 rfl) ?_
    obtain ⟨⟨r_10_5, r_10_5_a4⟩, hc_r_10_5, hf⟩ := of_bnd hf
    refine cl_Vi (w2 := (wW_X11_threes G h0 h1 h2 h3 h4 y0_3 y0_4 y0_6 y0_18 y0_21 y0_22 y0_23 y0_24 y0_25 y0_26 y0_33 y0_38 y0_39 y0_40 y0_41 y0_42 y0_43 y0_45 y0_46 y0_47 y0_48 x0_5 x0_7 x0_8 x0_9 x0_10 x0_11 x0_12 x0_13 x0_14 x0_15 x0_16 x0_17 x0_19 x0_20 x0_27 x0_28 x0_29 x0_30 x0_31 x0_32 x0_35 x0_36 x0_37 x0_44 x0_49 x0_50 a1 a2 a3 r_10_5_a4)) (As := []) (rest := []) ⟨hx, hb, hml, hown, ht0⟩ (c_X11_missed l G h0 h1 h2 h3 h4 y0_3 y0_4 y0_6 y0_18 y0_21 y0_22 y0_23 y0_24 y0_25 y0_26 y0_33 y0_38 y0_39 y0_40 y0_41 y0_42 y0_43 y0_45 y0_46 y0_47 y0_48 _ x0_5 x0_7 x0_8 x0_9 x0_10 x0_11 x0_12 x0_13 x0_14 x0_15 x0_16 x0_17 x0_19 x0_20 x0_27 x0_28 x0_29 x0_30 x0_31 x0_32 x0_35 x0_36 x0_37 x0_44 x0_49 x0_50 a1 a2 a3 a4 F _ _ hc_r_10_5) yk_X11_missed wd_1774 ⟨rfl, rfl, by decide, by decide⟩ ⟨Nat.le_refl _, Nat.le_refl _⟩ hX hK hP hD hS hA [0, 1, 2, 3, 4] [] [0, 1, 2, 3, 4] (va_recv hK hP (ci := 11) (q0 := 0) rfl rfl) rfl rfl (by decide) rfl rfl rfl rfl rfl hl.1 rfl (Nat.le_of_ble_eq_true rfl) dX11_threes_10 (fun H locs hP hD hS => ?_)
    refine lv_goto (tgt := 49) hx hb dX11_threes_13 (by decide) ?_
    cases hf
    exact ret_i hx hb hr hlk hK hP hD hS dX11_threes_49
theorem yk_X11_threes : ykV yX11_threes RX11 cX11_threes 3 (some .int) 1 := ⟨wd_1838, wd_1839, wd_142, wd_1840, rfl, by decide +kernel, by decide +kernel, by decide +kernel⟩
theorem dX11_sideBySide_0 : decode cX11_sideBySide 0 = .ok (.aload_n 0, 1) := by decide +kernel
theorem dX11_sideBySide_1 : decode cX11_sideBySide 1 = .ok (.iload_n 1, 1) := by decide +kernel
theorem dX11_sideBySide_2 : decode cX11_sideBySide 2 = .ok (.invokevirtual 269, 3) := by decide +kernel
theorem dX11_sideBySide_5 : decode cX11_sideBySide 5 = .ok (.aload_n 0, 1) := by decide +kernel
theorem dX11_sideBySide_6 : decode cX11_sideBySide 6 = .ok (.iload_n 1, 1) := by decide +kernel
theorem dX11_sideBySide_7 : decode cX11_sideBySide 7 = .ok (.iconst 1, 1) := by decide +kernel
theorem dX11_sideBySide_8 : decode cX11_sideBySide 8 = .ok (.iadd, 1) := by decide +kernel
theorem dX11_sideBySide_9 : decode cX11_sideBySide 9 = .ok (.invokevirtual 269, 3) := by decide +kernel
theorem dX11_sideBySide_12 : decode cX11_sideBySide 12 = .ok (.ixor, 1) := by decide +kernel
theorem dX11_sideBySide_13 : decode cX11_sideBySide 13 = .ok (.ireturn, 1) := by decide +kernel
def wW_X11_sideBySide (G : GG) (h0 h1 y0_1 y0_2 y0_3 y0_4 y0_6 y0_18 y0_21 y0_22 y0_23 y0_24 y0_25 y0_26 y0_33 y0_34 y0_38 y0_39 y0_40 y0_41 y0_42 y0_43 y0_45 y0_46 y0_47 y0_48 : Nat) (x0_5 : Int32) (x0_7 : Int32) (x0_8 : Int32) (x0_9 : Int32) (x0_10 : Int32) (x0_11 : Int32) (x0_12 : Int32) (x0_13 : Int32) (x0_14 : Int32) (x0_15 : Int32) (x0_16 : Int32) (x0_17 : Int32) (x0_19 : Int32) (x0_20 : Int32) (x0_27 : Int32) (x0_28 : Int32) (x0_29 : Int32) (x0_30 : Int32) (x0_31 : Int32) (x0_32 : Int32) (x0_35 : Int32) (x0_36 : Int32) (x0_37 : Int32) (x0_44 : Int32) (x0_49 : Int32) (x0_50 : Int32) (a1 : Nat → Int32) : va_W := [(h0, .inr (11, [.ref h1, .ref y0_1, .ref y0_2, .ref y0_3, .ref y0_4, .int x0_5, .ref y0_6, .int x0_7, .int x0_8, .int x0_9, .int x0_10, .int x0_11, .int x0_12, .int x0_13, .int x0_14, .int x0_15, .int x0_16, .int x0_17, .ref y0_18, .int x0_19, .int x0_20, .ref y0_21, .ref y0_22, .ref y0_23, .ref y0_24, .ref y0_25, .ref y0_26, .int x0_27, .int x0_28, .int x0_29, .int x0_30, .int x0_31, .int x0_32, .ref y0_33, .ref y0_34, .int x0_35, .int x0_36, .int x0_37, .ref y0_38, .ref y0_39, .ref y0_40, .ref y0_41, .ref y0_42, .ref y0_43, .int x0_44, .ref y0_45, .ref y0_46, .ref y0_47, .ref y0_48, .int x0_49, .int x0_50])), (h1, .inl (G.2.1, 121, .inl a1))]
set_option maxHeartbeats 4000000 in
set_option maxRecDepth 100000 in
theorem c_X11_sideBySide (l : Launch) (G : GG) (h0 h1 y0_1 y0_2 y0_3 y0_4 y0_6 y0_18 y0_21 y0_22 y0_23 y0_24 y0_25 y0_26 y0_33 y0_34 y0_38 y0_39 y0_40 y0_41 y0_42 y0_43 y0_45 y0_46 y0_47 y0_48 : Nat) (sz : Nat) (x0_5 : Int32) (x0_7 : Int32) (x0_8 : Int32) (x0_9 : Int32) (x0_10 : Int32) (x0_11 : Int32) (x0_12 : Int32) (x0_13 : Int32) (x0_14 : Int32) (x0_15 : Int32) (x0_16 : Int32) (x0_17 : Int32) (x0_19 : Int32) (x0_20 : Int32) (x0_27 : Int32) (x0_28 : Int32) (x0_29 : Int32) (x0_30 : Int32) (x0_31 : Int32) (x0_32 : Int32) (x0_35 : Int32) (x0_36 : Int32) (x0_37 : Int32) (x0_44 : Int32) (x0_49 : Int32) (x0_50 : Int32) (a1 : Nat → Int32) (F : Nat) (b1 : Int32)  (r0 : Int32) (hf : p_X11_sideBySide F a1 b1 = some r0) : Met l yX11_sideBySide (.code yX11_sideBySide cX11_sideBySide 2 (some .int) :: gtbl) ({ frames := 1, cells := 0, slots := 0, locals := 21 } : Room) (PcS G [.ref h0, .int b1] (wW_X11_sideBySide G h0 h1 y0_1 y0_2 y0_3 y0_4 y0_6 y0_18 y0_21 y0_22 y0_23 y0_24 y0_25 y0_26 y0_33 y0_34 y0_38 y0_39 y0_40 y0_41 y0_42 y0_43 y0_45 y0_46 y0_47 y0_48 x0_5 x0_7 x0_8 x0_9 x0_10 x0_11 x0_12 x0_13 x0_14 x0_15 x0_16 x0_17 x0_19 x0_20 x0_27 x0_28 x0_29 x0_30 x0_31 x0_32 x0_35 x0_36 x0_37 x0_44 x0_49 x0_50 a1) sz) (QiS G r0 (va_A (wW_X11_sideBySide G h0 h1 y0_1 y0_2 y0_3 y0_4 y0_6 y0_18 y0_21 y0_22 y0_23 y0_24 y0_25 y0_26 y0_33 y0_34 y0_38 y0_39 y0_40 y0_41 y0_42 y0_43 y0_45 y0_46 y0_47 y0_48 x0_5 x0_7 x0_8 x0_9 x0_10 x0_11 x0_12 x0_13 x0_14 x0_15 x0_16 x0_17 x0_19 x0_20 x0_27 x0_28 x0_29 x0_30 x0_31 x0_32 x0_35 x0_36 x0_37 x0_44 x0_49 x0_50 a1) sz) (wW_X11_sideBySide G h0 h1 y0_1 y0_2 y0_3 y0_4 y0_6 y0_18 y0_21 y0_22 y0_23 y0_24 y0_25 y0_26 y0_33 y0_34 y0_38 y0_39 y0_40 y0_41 y0_42 y0_43 y0_45 y0_46 y0_47 y0_48 x0_5 x0_7 x0_8 x0_9 x0_10 x0_11 x0_12 x0_13 x0_14 x0_15 x0_16 x0_17 x0_19 x0_20 x0_27 x0_28 x0_29 x0_30 x0_31 x0_32 x0_35 x0_36 x0_37 x0_44 x0_49 x0_50 a1)) 0 0 (va_A (wW_X11_sideBySide G h0 h1 y0_1 y0_2 y0_3 y0_4 y0_6 y0_18 y0_21 y0_22 y0_23 y0_24 y0_25 y0_26 y0_33 y0_34 y0_38 y0_39 y0_40 y0_41 y0_42 y0_43 y0_45 y0_46 y0_47 y0_48 x0_5 x0_7 x0_8 x0_9 x0_10 x0_11 x0_12 x0_13 x0_14 x0_15 x0_16 x0_17 x0_19 x0_20 x0_27 x0_28 x0_29 x0_30 x0_31 x0_32 x0_35 x0_36 x0_37 x0_44 x0_49 x0_50 a1) sz) := by
  refine met_start (by decide) (Nat.le_of_ble_eq_true rfl) ?_
  intro p e s m below meth c hC hr hlk hnm hK hP hD hA hS hX ls hl
  obtain ⟨hx, hb, hml, hown, ht0⟩ := hC
  have hown : s.vm.findClass RX11 = some m.cls := hown
  generalize va_A (wW_X11_sideBySide G h0 h1 y0_1 y0_2 y0_3 y0_4 y0_6 y0_18 y0_21 y0_22 y0_23 y0_24 y0_25 y0_26 y0_33 y0_34 y0_38 y0_39 y0_40 y0_41 y0_42 y0_43 y0_45 y0_46 y0_47 y0_48 x0_5 x0_7 x0_8 x0_9 x0_10 x0_11 x0_12 x0_13 x0_14 x0_15 x0_16 x0_17 x0_19 x0_20 x0_27 x0_28 x0_29 x0_30 x0_31 x0_32 x0_35 x0_36 x0_37 x0_44 x0_49 x0_50 a1) sz = A at hD hA hS hX ⊢
  have hl : lv_has ls 2 [(0, .ref h0), (1, .int b1)] := hl
  have hf : p_X11_sideBySide F a1 b1 = some r0 := hf
  refine lv_aload_n hx hb dX11_sideBySide_0 rfl (lv_at hl 0 rfl) ?_
  refine lv_iload_n hx hb dX11_sideBySide_1 rfl (lv_at hl 1 rfl) ?_
  obtain ⟨r_2_0, hc_r_2_0, hf⟩ := of_bnd hf
  refine cl_Vi (w2 := (wW_X11_sideBySide G h0 h1 y0_1 y0_2 y0_3 y0_4 y0_6 y0_18 y0_21 y0_22 y0_23 y0_24 y0_25 y0_26 y0_33 y0_34 y0_38 y0_39 y0_40 y0_41 y0_42 y0_43 y0_45 y0_46 y0_47 y0_48 x0_5 x0_7 x0_8 x0_9 x0_10 x0_11 x0_12 x0_13 x0_14 x0_15 x0_16 x0_17 x0_19 x0_20 x0_27 x0_28 x0_29 x0_30 x0_31 x0_32 x0_35 x0_36 x0_37 x0_44 x0_49 x0_50 a1)) (As := [.int b1]) (rest := []) ⟨hx, hb, hml, hown, ht0⟩ (c_X11_columnAt l G h0 h1 y0_1 y0_2 y0_3 y0_4 y0_6 y0_18 y0_21 y0_22 y0_23 y0_24 y0_25 y0_26 y0_33 y0_34 y0_38 y0_39 y0_40 y0_41 y0_42 y0_43 y0_45 y0_46 y0_47 y0_48 _ x0_5 x0_7 x0_8 x0_9 x0_10 x0_11 x0_12 x0_13 x0_14 x0_15 x0_16 x0_17 x0_19 x0_20 x0_27 x0_28 x0_29 x0_30 x0_31 x0_32 x0_35 x0_36 x0_37 x0_44 x0_49 x0_50 a1 F b1 _ hc_r_2_0) yk_X11_columnAt wd_1402 ⟨rfl, rfl, by decide, by decide⟩ ⟨Nat.le_refl _, Nat.le_refl _⟩ hX hK hP hD hS hA [0, 1] [] [0, 1] (va_recv hK hP (ci := 11) (q0 := 0) rfl rfl) rfl rfl (by decide) rfl rfl rfl rfl rfl hl.1 rfl (Nat.le_of_ble_eq_true rfl) dX11_sideBySide_2 (fun H locs hP hD hS => ?_)
  refine lv_aload_n hx hb dX11_sideBySide_5 rfl (lv_at hl 0 rfl) ?_
  refine lv_iload_n hx hb dX11_sideBySide_6 rfl (lv_at hl 1 rfl) ?_
  refine lv_iconst (v := (1 : Int32)) hx hb dX11_sideBySide_7 (by decide) ?_
  refine lv_iadd hx hb dX11_sideBySide_8 ?_
  obtain ⟨r_9_1, hc_r_9_1, hf⟩ := of_bnd hf
  refine cl_Vi (w2 := (wW_X11_sideBySide G h0 h1 y0_1 y0_2 y0_3 y0_4 y0_6 y0_18 y0_21 y0_22 y0_23 y0_24 y0_25 y0_26 y0_33 y0_34 y0_38 y0_39 y0_40 y0_41 y0_42 y0_43 y0_45 y0_46 y0_47 y0_48 x0_5 x0_7 x0_8 x0_9 x0_10 x0_11 x0_12 x0_13 x0_14 x0_15 x0_16 x0_17 x0_19 x0_20 x0_27 x0_28 x0_29 x0_30 x0_31 x0_32 x0_35 x0_36 x0_37 x0_44 x0_49 x0_50 a1)) (As := [.int (b1 + (1 : Int32))]) (rest := [.int r_2_0]) ⟨hx, hb, hml, hown, ht0⟩ (c_X11_columnAt l G h0 h1 y0_1 y0_2 y0_3 y0_4 y0_6 y0_18 y0_21 y0_22 y0_23 y0_24 y0_25 y0_26 y0_33 y0_34 y0_38 y0_39 y0_40 y0_41 y0_42 y0_43 y0_45 y0_46 y0_47 y0_48 _ x0_5 x0_7 x0_8 x0_9 x0_10 x0_11 x0_12 x0_13 x0_14 x0_15 x0_16 x0_17 x0_19 x0_20 x0_27 x0_28 x0_29 x0_30 x0_31 x0_32 x0_35 x0_36 x0_37 x0_44 x0_49 x0_50 a1 F (b1 + (1 : Int32)) _ hc_r_9_1) yk_X11_columnAt wd_1402 ⟨rfl, rfl, by decide, by decide⟩ ⟨Nat.le_refl _, Nat.le_refl _⟩ hX hK hP hD hS hA [0, 1] [] [0, 1] (va_recv hK hP (ci := 11) (q0 := 0) rfl rfl) rfl rfl (by decide) rfl rfl rfl rfl rfl hl.1 rfl (Nat.le_of_ble_eq_true rfl) dX11_sideBySide_9 (fun H locs hP hD hS => ?_)
  refine lv_ixor hx hb dX11_sideBySide_12 ?_
  cases hf
  exact ret_i hx hb hr hlk hK hP hD hS dX11_sideBySide_13
theorem yk_X11_sideBySide : ykV yX11_sideBySide RX11 cX11_sideBySide 2 (some .int) 1 := ⟨wd_1859, wd_113, wd_142, wd_1860, rfl, by decide +kernel, by decide +kernel, by decide +kernel⟩
theorem dX11_aloneMany_0 : decode cX11_aloneMany 0 = .ok (.iconst 0, 1) := by decide +kernel
theorem dX11_aloneMany_1 : decode cX11_aloneMany 1 = .ok (.istore_n 1, 1) := by decide +kernel
theorem dX11_aloneMany_2 : decode cX11_aloneMany 2 = .ok (.iconst 0, 1) := by decide +kernel
theorem dX11_aloneMany_3 : decode cX11_aloneMany 3 = .ok (.istore_n 2, 1) := by decide +kernel
theorem dX11_aloneMany_4 : decode cX11_aloneMany 4 = .ok (.iload_n 2, 1) := by decide +kernel
theorem dX11_aloneMany_5 : decode cX11_aloneMany 5 = .ok (.iconst 1, 1) := by decide +kernel
theorem dX11_aloneMany_6 : decode cX11_aloneMany 6 = .ok (.iadd, 1) := by decide +kernel
theorem dX11_aloneMany_7 : decode cX11_aloneMany 7 = .ok (.aload_n 0, 1) := by decide +kernel
theorem dX11_aloneMany_8 : decode cX11_aloneMany 8 = .ok (.invokevirtual 217, 3) := by decide +kernel
theorem dX11_aloneMany_11 : decode cX11_aloneMany 11 = .ok (.if_icmp .ge 66, 3) := by decide +kernel
theorem dX11_aloneMany_14 : decode cX11_aloneMany 14 = .ok (.iconst 0, 1) := by decide +kernel
theorem dX11_aloneMany_15 : decode cX11_aloneMany 15 = .ok (.istore_n 3, 1) := by decide +kernel
theorem dX11_aloneMany_16 : decode cX11_aloneMany 16 = .ok (.iconst 0, 1) := by decide +kernel
theorem dX11_aloneMany_17 : decode cX11_aloneMany 17 = .ok (.istore 4, 2) := by decide +kernel
theorem dX11_aloneMany_19 : decode cX11_aloneMany 19 = .ok (.iload 4, 2) := by decide +kernel
theorem dX11_aloneMany_21 : decode cX11_aloneMany 21 = .ok (.iconst 1, 1) := by decide +kernel
theorem dX11_aloneMany_22 : decode cX11_aloneMany 22 = .ok (.iadd, 1) := by decide +kernel
theorem dX11_aloneMany_23 : decode cX11_aloneMany 23 = .ok (.aload_n 0, 1) := by decide +kernel
theorem dX11_aloneMany_24 : decode cX11_aloneMany 24 = .ok (.invokevirtual 217, 3) := by decide +kernel
theorem dX11_aloneMany_27 : decode cX11_aloneMany 27 = .ok (.if_icmp .ge 31, 3) := by decide +kernel
theorem dX11_aloneMany_30 : decode cX11_aloneMany 30 = .ok (.iload_n 3, 1) := by decide +kernel
theorem dX11_aloneMany_31 : decode cX11_aloneMany 31 = .ok (.aload_n 0, 1) := by decide +kernel
theorem dX11_aloneMany_32 : decode cX11_aloneMany 32 = .ok (.iload 4, 2) := by decide +kernel
theorem dX11_aloneMany_34 : decode cX11_aloneMany 34 = .ok (.invokevirtual 420, 3) := by decide +kernel
theorem dX11_aloneMany_37 : decode cX11_aloneMany 37 = .ok (.aload_n 0, 1) := by decide +kernel
theorem dX11_aloneMany_38 : decode cX11_aloneMany 38 = .ok (.iload_n 2, 1) := by decide +kernel
theorem dX11_aloneMany_39 : decode cX11_aloneMany 39 = .ok (.invokevirtual 420, 3) := by decide +kernel
theorem dX11_aloneMany_42 : decode cX11_aloneMany 42 = .ok (.if_icmp .ne 7, 3) := by decide +kernel
theorem dX11_aloneMany_45 : decode cX11_aloneMany 45 = .ok (.iconst 1, 1) := by decide +kernel
theorem dX11_aloneMany_46 : decode cX11_aloneMany 46 = .ok (.goto 4, 3) := by decide +kernel
theorem dX11_aloneMany_49 : decode cX11_aloneMany 49 = .ok (.iconst 0, 1) := by decide +kernel
theorem dX11_aloneMany_50 : decode cX11_aloneMany 50 = .ok (.iadd, 1) := by decide +kernel
theorem dX11_aloneMany_51 : decode cX11_aloneMany 51 = .ok (.istore_n 3, 1) := by decide +kernel
theorem dX11_aloneMany_52 : decode cX11_aloneMany 52 = .ok (.iinc 4 1, 3) := by decide +kernel
theorem dX11_aloneMany_55 : decode cX11_aloneMany 55 = .ok (.goto (-36), 3) := by decide +kernel
theorem dX11_aloneMany_58 : decode cX11_aloneMany 58 = .ok (.iload_n 1, 1) := by decide +kernel
theorem dX11_aloneMany_59 : decode cX11_aloneMany 59 = .ok (.iload_n 3, 1) := by decide +kernel
theorem dX11_aloneMany_60 : decode cX11_aloneMany 60 = .ok (.iconst 1, 1) := by decide +kernel
theorem dX11_aloneMany_61 : decode cX11_aloneMany 61 = .ok (.if_icmp .ne 7, 3) := by decide +kernel
theorem dX11_aloneMany_64 : decode cX11_aloneMany 64 = .ok (.iconst 1, 1) := by decide +kernel
theorem dX11_aloneMany_65 : decode cX11_aloneMany 65 = .ok (.goto 4, 3) := by decide +kernel
theorem dX11_aloneMany_68 : decode cX11_aloneMany 68 = .ok (.iconst 0, 1) := by decide +kernel
theorem dX11_aloneMany_69 : decode cX11_aloneMany 69 = .ok (.iadd, 1) := by decide +kernel
theorem dX11_aloneMany_70 : decode cX11_aloneMany 70 = .ok (.istore_n 1, 1) := by decide +kernel
theorem dX11_aloneMany_71 : decode cX11_aloneMany 71 = .ok (.iinc 2 1, 3) := by decide +kernel
theorem dX11_aloneMany_74 : decode cX11_aloneMany 74 = .ok (.goto (-70), 3) := by decide +kernel
theorem dX11_aloneMany_77 : decode cX11_aloneMany 77 = .ok (.iload_n 1, 1) := by decide +kernel
theorem dX11_aloneMany_78 : decode cX11_aloneMany 78 = .ok (.ireturn, 1) := by decide +kernel
def wW_X11_aloneMany (G : GG) (h0 h1 h2 h3 y0_3 y0_4 y0_6 y0_18 y0_21 y0_22 y0_23 y0_24 y0_25 y0_26 y0_33 y0_34 y0_38 y0_39 y0_40 y0_41 y0_42 y0_43 y0_45 y0_46 y0_47 y0_48 : Nat) (x0_5 : Int32) (x0_7 : Int32) (x0_8 : Int32) (x0_9 : Int32) (x0_10 : Int32) (x0_11 : Int32) (x0_12 : Int32) (x0_13 : Int32) (x0_14 : Int32) (x0_15 : Int32) (x0_16 : Int32) (x0_17 : Int32) (x0_19 : Int32) (x0_20 : Int32) (x0_27 : Int32) (x0_28 : Int32) (x0_29 : Int32) (x0_30 : Int32) (x0_31 : Int32) (x0_32 : Int32) (x0_35 : Int32) (x0_36 : Int32) (x0_37 : Int32) (x0_44 : Int32) (x0_49 : Int32) (x0_50 : Int32) (a1 : Nat → Int32) (a2 : Nat → Int32) (a3 : Nat → Int32) : va_W := [(h0, .inr (11, [.ref h1, .ref h2, .ref h3, .ref y0_3, .ref y0_4, .int x0_5, .ref y0_6, .int x0_7, .int x0_8, .int x0_9, .int x0_10, .int x0_11, .int x0_12, .int x0_13, .int x0_14, .int x0_15, .int x0_16, .int x0_17, .ref y0_18, .int x0_19, .int x0_20, .ref y0_21, .ref y0_22, .ref y0_23, .ref y0_24, .ref y0_25, .ref y0_26, .int x0_27, .int x0_28, .int x0_29, .int x0_30, .int x0_31, .int x0_32, .ref y0_33, .ref y0_34, .int x0_35, .int x0_36, .int x0_37, .ref y0_38, .ref y0_39, .ref y0_40, .ref y0_41, .ref y0_42, .ref y0_43, .int x0_44, .ref y0_45, .ref y0_46, .ref y0_47, .ref y0_48, .int x0_49, .int x0_50])), (h1, .inl (G.2.1, 121, .inl a1)), (h2, .inl (G.2.1, 2, .inl a2)), (h3, .inl (G.2.1, 2, .inl a3))]
set_option maxHeartbeats 4000000 in
set_option maxRecDepth 100000 in
theorem c_X11_aloneMany (l : Launch) (G : GG) (h0 h1 h2 h3 y0_3 y0_4 y0_6 y0_18 y0_21 y0_22 y0_23 y0_24 y0_25 y0_26 y0_33 y0_34 y0_38 y0_39 y0_40 y0_41 y0_42 y0_43 y0_45 y0_46 y0_47 y0_48 : Nat) (sz : Nat) (x0_5 : Int32) (x0_7 : Int32) (x0_8 : Int32) (x0_9 : Int32) (x0_10 : Int32) (x0_11 : Int32) (x0_12 : Int32) (x0_13 : Int32) (x0_14 : Int32) (x0_15 : Int32) (x0_16 : Int32) (x0_17 : Int32) (x0_19 : Int32) (x0_20 : Int32) (x0_27 : Int32) (x0_28 : Int32) (x0_29 : Int32) (x0_30 : Int32) (x0_31 : Int32) (x0_32 : Int32) (x0_35 : Int32) (x0_36 : Int32) (x0_37 : Int32) (x0_44 : Int32) (x0_49 : Int32) (x0_50 : Int32) (a1 : Nat → Int32) (a2 : Nat → Int32) (a3 : Nat → Int32) (F : Nat)   (r0 : Int32) (hf : p_X11_aloneMany F x0_5 a1 a2 a3  = some r0) : Met l yX11_aloneMany (.code yX11_aloneMany cX11_aloneMany 5 (some .int) :: gtbl) ({ frames := 2, cells := 0, slots := 0, locals := 42 } : Room) (PcS G [.ref h0] (wW_X11_aloneMany G h0 h1 h2 h3 y0_3 y0_4 y0_6 y0_18 y0_21 y0_22 y0_23 y0_24 y0_25 y0_26 y0_33 y0_34 y0_38 y0_39 y0_40 y0_41 y0_42 y0_43 y0_45 y0_46 y0_47 y0_48 x0_5 x0_7 x0_8 x0_9 x0_10 x0_11 x0_12 x0_13 x0_14 x0_15 x0_16 x0_17 x0_19 x0_20 x0_27 x0_28 x0_29 x0_30 x0_31 x0_32 x0_35 x0_36 x0_37 x0_44 x0_49 x0_50 a1 a2 a3) sz) (QiS G r0 (va_A (wW_X11_aloneMany G h0 h1 h2 h3 y0_3 y0_4 y0_6 y0_18 y0_21 y0_22 y0_23 y0_24 y0_25 y0_26 y0_33 y0_34 y0_38 y0_39 y0_40 y0_41 y0_42 y0_43 y0_45 y0_46 y0_47 y0_48 x0_5 x0_7 x0_8 x0_9 x0_10 x0_11 x0_12 x0_13 x0_14 x0_15 x0_16 x0_17 x0_19 x0_20 x0_27 x0_28 x0_29 x0_30 x0_31 x0_32 x0_35 x0_36 x0_37 x0_44 x0_49 x0_50 a1 a2 a3) sz) (wW_X11_aloneMany G h0 h1 h2 h3 y0_3 y0_4 y0_6 y0_18 y0_21 y0_22 y0_23 y0_24 y0_25 y0_26 y0_33 y0_34 y0_38 y0_39 y0_40 y0_41 y0_42 y0_43 y0_45 y0_46 y0_47 y0_48 x0_5 x0_7 x0_8 x0_9 x0_10 x0_11 x0_12 x0_13 x0_14 x0_15 x0_16 x0_17 x0_19 x0_20 x0_27 x0_28 x0_29 x0_30 x0_31 x0_32 x0_35 x0_36 x0_37 x0_44 x0_49 x0_50 a1 a2 a3)) 0 0 (va_A (wW_X11_aloneMany G h0 h1 h2 h3 y0_3 y0_4 y0_6 y0_18 y0_21 y0_22 y0_23 y0_24 y0_25 y0_26 y0_33 y0_34 y0_38 y0_39 y0_40 y0_41 y0_42 y0_43 y0_45 y0_46 y0_47 y0_48 x0_5 x0_7 x0_8 x0_9 x0_10 x0_11 x0_12 x0_13 x0_14 x0_15 x0_16 x0_17 x0_19 x0_20 x0_27 x0_28 x0_29 x0_30 x0_31 x0_32 x0_35 x0_36 x0_37 x0_44 x0_49 x0_50 a1 a2 a3) sz) := by
  refine met_start (by decide) (Nat.le_of_ble_eq_true rfl) ?_
  intro p e s m below meth c hC hr hlk hnm hK hP hD hA hS hX ls hl
  obtain ⟨hx, hb, hml, hown, ht0⟩ := hC
  have hown : s.vm.findClass RX11 = some m.cls := hown
  generalize va_A (wW_X11_aloneMany G h0 h1 h2 h3 y0_3 y0_4 y0_6 y0_18 y0_21 y0_22 y0_23 y0_24 y0_25 y0_26 y0_33 y0_34 y0_38 y0_39 y0_40 y0_41 y0_42 y0_43 y0_45 y0_46 y0_47 y0_48 x0_5 x0_7 x0_8 x0_9 x0_10 x0_11 x0_12 x0_13 x0_14 x0_15 x0_16 x0_17 x0_19 x0_20 x0_27 x0_28 x0_29 x0_30 x0_31 x0_32 x0_35 x0_36 x0_37 x0_44 x0_49 x0_50 a1 a2 a3) sz = A at hD hA hS hX ⊢
  have hl : lv_has ls 5 [(0, .ref h0)] := hl
  have hf : p_X11_aloneMany F x0_5 a1 a2 a3  = some r0 := hf
  have kL4 : ∀ (n4 : Nat) (u4_1 : Int32) (u4_2 : Int32), p_X11_aloneMany_L4 F x0_5 a1 a2 a3 n4 u4_1 u4_2 = some r0 → ∀ (H : Heap) (locs : List Loc), va_P G.1 vwCl (wW_X11_aloneMany G h0 h1 h2 h3 y0_3 y0_4 y0_6 y0_18 y0_21 y0_22 y0_23 y0_24 y0_25 y0_26 y0_33 y0_34 y0_38 y0_39 y0_40 y0_41 y0_42 y0_43 y0_45 y0_46 y0_47 y0_48 x0_5 x0_7 x0_8 x0_9 x0_10 x0_11 x0_12 x0_13 x0_14 x0_15 x0_16 x0_17 x0_19 x0_20 x0_27 x0_28 x0_29 x0_30 x0_31 x0_32 x0_35 x0_36 x0_37 x0_44 x0_49 x0_50 a1 a2 a3) H → va_D A (wW_X11_aloneMany G h0 h1 h2 h3 y0_3 y0_4 y0_6 y0_18 y0_21 y0_22 y0_23 y0_24 y0_25 y0_26 y0_33 y0_34 y0_38 y0_39 y0_40 y0_41 y0_42 y0_43 y0_45 y0_46 y0_47 y0_48 x0_5 x0_7 x0_8 x0_9 x0_10 x0_11 x0_12 x0_13 x0_14 x0_15 x0_16 x0_17 x0_19 x0_20 x0_27 x0_28 x0_29 x0_30 x0_31 x0_32 x0_35 x0_36 x0_37 x0_44 x0_49 x0_50 a1 a2 a3) → va_S A s.heap H locs → ∀ ls : Array Slot, lv_has ls 5 [(0, .ref h0), (1, .int u4_1), (2, .int u4_2)] → W p l e ({ frames := 2, cells := 0, slots := 0, locals := 42 } : Room) s m (List.toArray [.ref h0]) below meth c H locs 0 0 (MQ below (QiS G r0 A (wW_X11_aloneMany G h0 h1 h2 h3 y0_3 y0_4 y0_6 y0_18 y0_21 y0_22 y0_23 y0_24 y0_25 y0_26 y0_33 y0_34 y0_38 y0_39 y0_40 y0_41 y0_42 y0_43 y0_45 y0_46 y0_47 y0_48 x0_5 x0_7 x0_8 x0_9 x0_10 x0_11 x0_12 x0_13 x0_14 x0_15 x0_16 x0_17 x0_19 x0_20 x0_27 x0_28 x0_29 x0_30 x0_31 x0_32 x0_35 x0_36 x0_37 x0_44 x0_49 x0_50 a1 a2 a3)) (List.toArray [.ref h0]) s 0 0 A) (F0 m 4 ls []) := by
    intro n4
    induction n4 with
    | zero =>
      intro u4_1 u4_2 hf
      cases hf
    | succ n4 ih4 =>
      have kJ69 : ∀ (u69_2 : Int32) (s69_0 : Int32) (s69_1 : Int32), p_X11_aloneMany_J69 F x0_5 a1 a2 a3 (p_X11_aloneMany_L4 F x0_5 a1 a2 a3 n4) u69_2 s69_0 s69_1 = some r0 → ∀ (H : Heap) (locs : List Loc), va_P G.1 vwCl (wW_X11_aloneMany G h0 h1 h2 h3 y0_3 y0_4 y0_6 y0_18 y0_21 y0_22 y0_23 y0_24 y0_25 y0_26 y0_33 y0_34 y0_38 y0_39 y0_40 y0_41 y0_42 y0_43 y0_45 y0_46 y0_47 y0_48 x0_5 x0_7 x0_8 x0_9 x0_10 x0_11 x0_12 x0_13 x0_14 x0_15 x0_16 x0_17 x0_19 x0_20 x0_27 x0_28 x0_29 x0_30 x0_31 x0_32 x0_35 x0_36 x0_37 x0_44 x0_49 x0_50 a1 a2 a3) H → va_D A (wW_X11_aloneMany G h0 h1 h2 h3 y0_3 y0_4 y0_6 y0_18 y0_21 y0_22 y0_23 y0_24 y0_25 y0_26 y0_33 y0_34 y0_38 y0_39 y0_40 y0_41 y0_42 y0_43 y0_45 y0_46 y0_47 y0_48 x0_5 x0_7 x0_8 x0_9 x0_10 x0_11 x0_12 x0_13 x0_14 x0_15 x0_16 x0_17 x0_19 x0_20 x0_27 x0_28 x0_29 x0_30 x0_31 x0_32 x0_35 x0_36 x0_37 x0_44 x0_49 x0_50 a1 a2 a3) → va_S A s.heap H locs → ∀ ls : Array Slot, lv_has ls 5 [(0, .ref h0), (2, .int u69_2)] → W p l e ({ frames := 2, cells := 0, slots := 0, locals := 42 } : Room) s m (List.toArray [.ref h0]) below meth c H locs 0 0 (MQ below (QiS G r0 A (wW_X11_aloneMany G h0 h1 h2 h3 y0_3 y0_4 y0_6 y0_18 y0_21 y0_22 y0_23 y0_24 y0_25 y0_26 y0_33 y0_34 y0_38 y0_39 y0_40 y0_41 y0_42 y0_43 y0_45 y0_46 y0_47 y0_48 x0_5 x0_7 x0_8 x0_9 x0_10 x0_11 x0_12 x0_13 x0_14 x0_15 x0_16 x0_17 x0_19 x0_20 x0_27 x0_28 x0_29 x0_30 x0_31 x0_32 x0_35 x0_36 x0_37 x0_44 x0_49 x0_50 a1 a2 a3)) (List.toArray [.ref h0]) s 0 0 A) (F0 m 69 ls [.int s69_1, .int s69_0]) := by
        intro u69_2 s69_0 s69_1 hf H locs hP hD hS ls hl
        refine lv_iadd hx hb dX11_aloneMany_69 ?_
        refine lv_istore_n (lv' := [(1, .int (s69_0 + s69_1)), (0, .ref h0), (2, .int u69_2)]) hx hb dX11_aloneMany_70 rfl hl (by decide) rfl (fun ls hl => ?_)
        refine lv_iinc (v := u69_2 + (1 : Int32)) (lv' := [(2, .int (u69_2 + (1 : Int32))), (1, .int (s69_0 + s69_1)), (0, .ref h0)]) hx hb dX11_aloneMany_71 hl (k := 2) rfl (by rfl) (by decide) rfl (fun ls hl => ?_)
        refine lv_goto (tgt := 4) hx hb dX11_aloneMany_74 (by decide) ?_
        exact ih4 _ _ hf _ _ hP hD hS _ (lv_sub hl [2, 1, 0] rfl)
      have kL19 : ∀ (c19_1 : Int32) (c19_2 : Int32) (n19 : Nat) (u19_3 : Int32) (u19_4 : Int32), p_X11_aloneMany_L19 F x0_5 a1 a2 a3 c19_1 c19_2 (p_X11_aloneMany_L4 F x0_5 a1 a2 a3 n4) n19 u19_3 u19_4 = some r0 → ∀ (H : Heap) (locs : List Loc), va_P G.1 vwCl (wW_X11_aloneMany G h0 h1 h2 h3 y0_3 y0_4 y0_6 y0_18 y0_21 y0_22 y0_23 y0_24 y0_25 y0_26 y0_33 y0_34 y0_38 y0_39 y0_40 y0_41 y0_42 y0_43 y0_45 y0_46 y0_47 y0_48 x0_5 x0_7 x0_8 x0_9 x0_10 x0_11 x0_12 x0_13 x0_14 x0_15 x0_16 x0_17 x0_19 x0_20 x0_27 x0_28 x0_29 x0_30 x0_31 x0_32 x0_35 x0_36 x0_37 x0_44 x0_49 x0_50 a1 a2 a3) H → va_D A (wW_X11_aloneMany G h0 h1 h2 h3 y0_3 y0_4 y0_6 y0_18 y0_21 y0_22 y0_23 y0_24 y0_25 y0_26 y0_33 y0_34 y0_38 y0_39 y0_40 y0_41 y0_42 y0_43 y0_45 y0_46 y0_47 y0_48 x0_5 x0_7 x0_8 x0_9 x0_10 x0_11 x0_12 x0_13 x0_14 x0_15 x0_16 x0_17 x0_19 x0_20 x0_27 x0_28 x0_29 x0_30 x0_31 x0_32 x0_35 x0_36 x0_37 x0_44 x0_49 x0_50 a1 a2 a3) → va_S A s.heap H locs → ∀ ls : Array Slot, lv_has ls 5 [(0, .ref h0), (1, .int c19_1), (2, .int c19_2), (3, .int u19_3), (4, .int u19_4)] → W p l e ({ frames := 2, cells := 0, slots := 0, locals := 42 } : Room) s m (List.toArray [.ref h0]) below meth c H locs 0 0 (MQ below (QiS G r0 A (wW_X11_aloneMany G h0 h1 h2 h3 y0_3 y0_4 y0_6 y0_18 y0_21 y0_22 y0_23 y0_24 y0_25 y0_26 y0_33 y0_34 y0_38 y0_39 y0_40 y0_41 y0_42 y0_43 y0_45 y0_46 y0_47 y0_48 x0_5 x0_7 x0_8 x0_9 x0_10 x0_11 x0_12 x0_13 x0_14 x0_15 x0_16 x0_17 x0_19 x0_20 x0_27 x0_28 x0_29 x0_30 x0_31 x0_32 x0_35 x0_36 x0_37 x0_44 x0_49 x0_50 a1 a2 a3)) (List.toArray [.ref h0]) s 0 0 A) (F0 m 19 ls []) := by
        intro c19_1 c19_2 n19
        induction n19 with
        | zero =>
          intro u19_3 u19_4 hf
          cases hf
        | succ n19 ih19 =>
          have kJ50 : ∀ (u50_4 : Int32) (s50_0 : Int32) (s50_1 : Int32), p_X11_aloneMany_J50 F x0_5 a1 a2 a3 c19_1 c19_2 (p_X11_aloneMany_L4 F x0_5 a1 a2 a3 n4) (p_X11_aloneMany_L19 F x0_5 a1 a2 a3 c19_1 c19_2 (p_X11_aloneMany_L4 F x0_5 a1 a2 a3 n4) n19) u50_4 s50_0 s50_1 = some r0 → ∀ (H : Heap) (locs : List Loc), va_P G.1 vwCl (wW_X11_aloneMany G h0 h1 h2 h3 y0_3 y0_4 y0_6 y0_18 y0_21 y0_22 y0_23 y0_24 y0_25 y0_26 y0_33 y0_34 y0_38 y0_39 y0_40 y0_41 y0_42 y0_43 y0_45 y0_46 y0_47 y0_48 x0_5 x0_7 x0_8 x0_9 x0_10 x0_11 x0_12 x0_13 x0_14 x0_15 x0_16 x0_17 x0_19 x0_20 x0_27 x0_28 x0_29 x0_30 x0_31 x0_32 x0_35 x0_36 x0_37 x0_44 x0_49 x0_50 a1 a2 a3) H → va_D A (wW_X11_aloneMany G h0 h1 h2 h3 y0_3 y0_4 y0_6 y0_18 y0_21 y0_22 y0_23 y0_24 y0_25 y0_26 y0_33 y0_34 y0_38 y0_39 y0_40 y0_41 y0_42 y0_43 y0_45 y0_46 y0_47 y0_48 x0_5 x0_7 x0_8 x0_9 x0_10 x0_11 x0_12 x0_13 x0_14 x0_15 x0_16 x0_17 x0_19 x0_20 x0_27 x0_28 x0_29 x0_30 x0_31 x0_32 x0_35 x0_36 x0_37 x0_44 x0_49 x0_50 a1 a2 a3) → va_S A s.heap H locs → ∀ ls : Array Slot, lv_has ls 5 [(0, .ref h0), (1, .int c19_1), (2, .int c19_2), (4, .int u50_4)] → W p l e ({ frames := 2, cells := 0, slots := 0, locals := 42 } : Room) s m (List.toArray [.ref h0]) below meth c H locs 0 0 (MQ below (QiS G r0 A (wW_X11_aloneMany G h0 h1 h2 h3 y0_3 y0_4 y0_6 y0_18 y0_21 y0_22 y0_23 y0_24 y0_25 y0_26 y0_33 y0_34 y0_38 y0_39 y0_40 y0_41 y0_42 y0_43 y0_45 y0_46 y0_47 y0_48 x0_5 x0_7 x0_8 x0_9 x0_10 x0_11 x0_12 x0_13 x0_14 x0_15 x0_16 x0_17 x0_19 x0_20 x0_27 x0_28 x0_29 x0_30 x0_31 x0_32 x0_35 x0_36 x0_37 x0_44 x0_49 x0_50 a1 a2 a3)) (List.toArray [.ref h0]) s 0 0 A) (F0 m 50 ls [.int s50_1, .int s50_0]) := by
            intro u50_4 s50_0 s50_1 hf H locs hP hD hS ls hl
            refine lv_iadd hx hb dX11_aloneMany_50 ?_
            refine lv_istore_n (lv' := [(3, .int (s50_0 + s50_1)), (0, .ref h0), (1, .int c19_1), (2, .int c19_2), (4, .int u50_4)]) hx hb dX11_aloneMany_51 rfl hl (by decide) rfl (fun ls hl => ?_)
            refine lv_iinc (v := u50_4 + (1 : Int32)) (lv' := [(4, .int (u50_4 + (1 : Int32))), (3, .int (s50_0 + s50_1)), (0, .ref h0), (1, .int c19_1), (2, .int c19_2)]) hx hb dX11_aloneMany_52 hl (k := 4) rfl (by rfl) (by decide) rfl (fun ls hl => ?_)
            refine lv_goto (tgt := 19) hx hb dX11_aloneMany_55 (by decide) ?_
            exact ih19 _ _ hf _ _ hP hD hS _ (lv_sub hl [2, 3, 4, 1, 0] rfl)
          intro u19_3 u19_4 hf H locs hP hD hS ls hl
          have hf : p_X11_aloneMany_L19b F x0_5 a1 a2 a3 c19_1 c19_2 (p_X11_aloneMany_L4 F x0_5 a1 a2 a3 n4) (p_X11_aloneMany_L19 F x0_5 a1 a2 a3 c19_1 c19_2 (p_X11_aloneMany_L4 F x0_5 a1 a2 a3 n4) n19) u19_3 u19_4 = some r0 := hf
          refine lv_iload hx hb dX11_aloneMany_19 (lv_at hl 4 rfl) ?_
          refine lv_iconst (v := (1 : Int32)) hx hb dX11_aloneMany_21 (by decide) ?_
          refine lv_iadd hx hb dX11_aloneMany_22 ?_
          refine lv_aload_n hx hb dX11_aloneMany_23 rfl (lv_at hl 0 rfl) ?_
          obtain ⟨r_24_0, hc_r_24_0, hf⟩ := of_bnd hf
          refine cl_Vi (w2 := (wW_X11_aloneMany G h0 h1 h2 h3 y0_3 y0_4 y0_6 y0_18 y0_21 y0_22 y0_23 y0_24 y0_25 y0_26 y0_33 y0_34 y0_38 y0_39 y0_40 y0_41 y0_42 y0_43 y0_45 y0_46 y0_47 y0_48 x0_5 x0_7 x0_8 x0_9 x0_10 x0_11 x0_12 x0_13 x0_14 x0_15 x0_16 x0_17 x0_19 x0_20 x0_27 x0_28 x0_29 x0_30 x0_31 x0_32 x0_35 x0_36 x0_37 x0_44 x0_49 x0_50 a1 a2 a3)) (As := []) (rest := [.int (u19_4 + (1 : Int32))]) ⟨hx, hb, hml, hown, ht0⟩ (c_X11_places l G h0 h2 h3 h1 y0_3 y0_4 y0_6 y0_18 y0_21 y0_22 y0_23 y0_24 y0_25 y0_26 y0_33 y0_34 y0_38 y0_39 y0_40 y0_41 y0_42 y0_43 y0_45 y0_46 y0_47 y0_48 _ x0_5 x0_7 x0_8 x0_9 x0_10 x0_11 x0_12 x0_13 x0_14 x0_15 x0_16 x0_17 x0_19 x0_20 x0_27 x0_28 x0_29 x0_30 x0_31 x0_32 x0_35 x0_36 x0_37 x0_44 x0_49 x0_50 a2 a3 F _ hc_r_24_0) yk_X11_places wd_1572 ⟨rfl, rfl, by decide, by decide⟩ ⟨Nat.le_refl _, Nat.le_refl _⟩ hX hK hP hD hS hA [0, 2, 3] [1] [1, 0, 2, 3] (va_recv hK hP (ci := 11) (q0 := 0) rfl rfl) rfl rfl (by decide) rfl rfl rfl rfl rfl hl.1 rfl (Nat.le_of_ble_eq_true rfl) dX11_aloneMany_24 (fun H locs hP hD hS => ?_)
          refine lv_icmp_ge (tgt := 58) hx hb dX11_aloneMany_27 (by decide) (fun c2 => ?_) (fun c2 => ?_)
          · have hf := of_pos hf c2
            refine lv_iload_n hx hb dX11_aloneMany_58 rfl (lv_at hl 1 rfl) ?_
            refine lv_iload_n hx hb dX11_aloneMany_59 rfl (lv_at hl 3 rfl) ?_
            refine lv_iconst (v := (1 : Int32)) hx hb dX11_aloneMany_60 (by decide) ?_
            refine lv_icmp_ne (tgt := 68) hx hb dX11_aloneMany_61 (by decide) (fun c3 => ?_) (fun c3 => ?_)
            · have hf := of_neg hf c3
              refine lv_iconst (v := (0 : Int32)) hx hb dX11_aloneMany_68 (by decide) ?_
              exact kJ69 _ _ _ hf _ _ hP hD hS _ (lv_sub hl [0, 2] rfl)
            · have hf := of_pos hf c3
              refine lv_iconst (v := (1 : Int32)) hx hb dX11_aloneMany_64 (by decide) ?_
              refine lv_goto (tgt := 69) hx hb dX11_aloneMany_65 (by decide) ?_
              exact kJ69 _ _ _ hf _ _ hP hD hS _ (lv_sub hl [0, 2] rfl)
          · have hf := of_neg hf c2
            refine lv_iload_n hx hb dX11_aloneMany_30 rfl (lv_at hl 3 rfl) ?_
            refine lv_aload_n hx hb dX11_aloneMany_31 rfl (lv_at hl 0 rfl) ?_
            refine lv_iload hx hb dX11_aloneMany_32 (lv_at hl 4 rfl) ?_
            obtain ⟨r_34_3, hc_r_34_3, hf⟩ := of_bnd hf
            refine cl_Vi (w2 := (wW_X11_aloneMany G h0 h1 h2 h3 y0_3 y0_4 y0_6 y0_18 y0_21 y0_22 y0_23 y0_24 y0_25 y0_26 y0_33 y0_34 y0_38 y0_39 y0_40 y0_41 y0_42 y0_43 y0_45 y0_46 y0_47 y0_48 x0_5 x0_7 x0_8 x0_9 x0_10 x0_11 x0_12 x0_13 x0_14 x0_15 x0_16 x0_17 x0_19 x0_20 x0_27 x0_28 x0_29 x0_30 x0_31 x0_32 x0_35 x0_36 x0_37 x0_44 x0_49 x0_50 a1 a2 a3)) (As := [.int u19_4]) (rest := [.int u19_3]) ⟨hx, hb, hml, hown, ht0⟩ (c_X11_sideBySide l G h0 h1 h2 h3 y0_3 y0_4 y0_6 y0_18 y0_21 y0_22 y0_23 y0_24 y0_25 y0_26 y0_33 y0_34 y0_38 y0_39 y0_40 y0_41 y0_42 y0_43 y0_45 y0_46 y0_47 y0_48 _ x0_5 x0_7 x0_8 x0_9 x0_10 x0_11 x0_12 x0_13 x0_14 x0_15 x0_16 x0_17 x0_19 x0_20 x0_27 x0_28 x0_29 x0_30 x0_31 x0_32 x0_35 x0_36 x0_37 x0_44 x0_49 x0_50 a1 F u19_4 _ hc_r_34_3) yk_X11_sideBySide wd_1857 ⟨rfl, rfl, by decide, by decide⟩ ⟨Nat.le_refl _, Nat.le_refl _⟩ hX hK hP hD hS hA [0, 1] [2, 3] [2, 3, 0, 1] (va_recv hK hP (ci := 11) (q0 := 0) rfl rfl) rfl rfl (by decide) rfl rfl rfl rfl rfl hl.1 rfl (Nat.le_of_ble_eq_true rfl) dX11_aloneMany_34 (fun H locs hP hD hS => ?_)
            refine lv_aload_n hx hb dX11_aloneMany_37 rfl (lv_at hl 0 rfl) ?_
            refine lv_iload_n hx hb dX11_aloneMany_38 rfl (lv_at hl 2 rfl) ?_
            obtain ⟨r_39_4, hc_r_39_4, hf⟩ := of_bnd hf
            refine cl_Vi (w2 := (wW_X11_aloneMany G h0 h1 h2 h3 y0_3 y0_4 y0_6 y0_18 y0_21 y0_22 y0_23 y0_24 y0_25 y0_26 y0_33 y0_34 y0_38 y0_39 y0_40 y0_41 y0_42 y0_43 y0_45 y0_46 y0_47 y0_48 x0_5 x0_7 x0_8 x0_9 x0_10 x0_11 x0_12 x0_13 x0_14 x0_15 x0_16 x0_17 x0_19 x0_20 x0_27 x0_28 x0_29 x0_30 x0_31 x0_32 x0_35 x0_36 x0_37 x0_44 x0_49 x0_50 a1 a2 a3)) (As := [.int c19_2]) (rest := [.int r_34_3, .int u19_3]) ⟨hx, hb, hml, hown, ht0⟩ (c_X11_sideBySide l G h0 h1 h2 h3 y0_3 y0_4 y0_6 y0_18 y0_21 y0_22 y0_23 y0_24 y0_25 y0_26 y0_33 y0_34 y0_38 y0_39 y0_40 y0_41 y0_42 y0_43 y0_45 y0_46 y0_47 y0_48 _ x0_5 x0_7 x0_8 x0_9 x0_10 x0_11 x0_12 x0_13 x0_14 x0_15 x0_16 x0_17 x0_19 x0_20 x0_27 x0_28 x0_29 x0_30 x0_31 x0_32 x0_35 x0_36 x0_37 x0_44 x0_49 x0_50 a1 F c19_2 _ hc_r_39_4) yk_X11_sideBySide wd_1857 ⟨rfl, rfl, by decide, by decide⟩ ⟨Nat.le_refl _, Nat.le_refl _⟩ hX hK hP hD hS hA [0, 1] [2, 3] [2, 3, 0, 1] (va_recv hK hP (ci := 11) (q0 := 0) rfl rfl) rfl rfl (by decide) rfl rfl rfl rfl rfl hl.1 rfl (Nat.le_of_ble_eq_true rfl) dX11_aloneMany_39 (fun H locs hP hD hS => ?_)
            refine lv_icmp_ne (tgt := 49) hx hb dX11_aloneMany_42 (by decide) (fun c6 => ?_) (fun c6 => ?_)
            · have hf := of_neg hf c6
              refine lv_iconst (v := (0 : Int32)) hx hb dX11_aloneMany_49 (by decide) ?_
              exact kJ50 _ _ _ hf _ _ hP hD hS _ (lv_sub hl [0, 1, 2, 4] rfl)
            · have hf := of_pos hf c6
              refine lv_iconst (v := (1 : Int32)) hx hb dX11_aloneMany_45 (by decide) ?_
              refine lv_goto (tgt := 50) hx hb dX11_aloneMany_46 (by decide) ?_
              exact kJ50 _ _ _ hf _ _ hP hD hS _ (lv_sub hl [0, 1, 2, 4] rfl)
      intro u4_1 u4_2 hf H locs hP hD hS ls hl
      have hf : p_X11_aloneMany_L4b F x0_5 a1 a2 a3 (p_X11_aloneMany_L4 F x0_5 a1 a2 a3 n4) u4_1 u4_2 = some r0 := hf
      refine lv_iload_n hx hb dX11_aloneMany_4 rfl (lv_at hl 2 rfl) ?_
      refine lv_iconst (v := (1 : Int32)) hx hb dX11_aloneMany_5 (by decide) ?_
      refine lv_iadd hx hb dX11_aloneMany_6 ?_
      refine lv_aload_n hx hb dX11_aloneMany_7 rfl (lv_at hl 0 rfl) ?_
      obtain ⟨r_8_6, hc_r_8_6, hf⟩ := of_bnd hf
      refine cl_Vi (w2 := (wW_X11_aloneMany G h0 h1 h2 h3 y0_3 y0_4 y0_6 y0_18 y0_21 y0_22 y0_23 y0_24 y0_25 y0_26 y0_33 y0_34 y0_38 y0_39 y0_40 y0_41 y0_42 y0_43 y0_45 y0_46 y0_47 y0_48 x0_5 x0_7 x0_8 x0_9 x0_10 x0_11 x0_12 x0_13 x0_14 x0_15 x0_16 x0_17 x0_19 x0_20 x0_27 x0_28 x0_29 x0_30 x0_31 x0_32 x0_35 x0_36 x0_37 x0_44 x0_49 x0_50 a1 a2 a3)) (As := []) (rest := [.int (u4_2 + (1 : Int32))]) ⟨hx, hb, hml, hown, ht0⟩ (c_X11_places l G h0 h2 h3 h1 y0_3 y0_4 y0_6 y0_18 y0_21 y0_22 y0_23 y0_24 y0_25 y0_26 y0_33 y0_34 y0_38 y0_39 y0_40 y0_41 y0_42 y0_43 y0_45 y0_46 y0_47 y0_48 _ x0_5 x0_7 x0_8 x0_9 x0_10 x0_11 x0_12 x0_13 x0_14 x0_15 x0_16 x0_17 x0_19 x0_20 x0_27 x0_28 x0_29 x0_30 x0_31 x0_32 x0_35 x0_36 x0_37 x0_44 x0_49 x0_50 a2 a3 F _ hc_r_8_6) yk_X11_places wd_1572 ⟨rfl, rfl, by decide, by decide⟩ ⟨Nat.le_refl _, Nat.le_refl _⟩ hX hK hP hD hS hA [0, 2, 3] [1] [1, 0, 2, 3] (va_recv hK hP (ci := 11) (q0 := 0) rfl rfl) rfl rfl (by decide) rfl rfl rfl rfl rfl hl.1 rfl (Nat.le_of_ble_eq_true rfl) dX11_aloneMany_8 (fun H locs hP hD hS => ?_)
      refine lv_icmp_ge (tgt := 77) hx hb dX11_aloneMany_11 (by decide) (fun c8 => ?_) (fun c8 => ?_)
      · have hf := of_pos hf c8
        refine lv_iload_n hx hb dX11_aloneMany_77 rfl (lv_at hl 1 rfl) ?_
        cases hf
        exact ret_i hx hb hr hlk hK hP hD hS dX11_aloneMany_78
      · have hf := of_neg hf c8
        refine lv_iconst (v := (0 : Int32)) hx hb dX11_aloneMany_14 (by decide) ?_
        refine lv_istore_n (lv' := [(3, .int (0 : Int32)), (0, .ref h0), (1, .int u4_1), (2, .int u4_2)]) hx hb dX11_aloneMany_15 rfl hl (by decide) rfl (fun ls hl => ?_)
        refine lv_iconst (v := (0 : Int32)) hx hb dX11_aloneMany_16 (by decide) ?_
        refine lv_istore (lv' := [(4, .int (0 : Int32)), (3, .int (0 : Int32)), (0, .ref h0), (1, .int u4_1), (2, .int u4_2)]) hx hb dX11_aloneMany_17 hl (by decide) rfl (fun ls hl => ?_)
        exact kL19 _ _ _ _ _ hf _ _ hP hD hS _ (lv_sub hl [2, 3, 4, 1, 0] rfl)
  refine lv_iconst (v := (0 : Int32)) hx hb dX11_aloneMany_0 (by decide) ?_
  refine lv_istore_n (lv' := [(1, .int (0 : Int32)), (0, .ref h0)]) hx hb dX11_aloneMany_1 rfl hl (by decide) rfl (fun ls hl => ?_)
  refine lv_iconst (v := (0 : Int32)) hx hb dX11_aloneMany_2 (by decide) ?_
  refine lv_istore_n (lv' := [(2, .int (0 : Int32)), (1, .int (0 : Int32)), (0, .ref h0)]) hx hb dX11_aloneMany_3 rfl hl (by decide) rfl (fun ls hl => ?_)
  exact kL4 _ _ _ hf _ _ hP hD hS _ (lv_sub hl [2, 1, 0] rfl)
theorem yk_X11_aloneMany : ykV yX11_aloneMany RX11 cX11_aloneMany 5 (some .int) 0 := ⟨wd_1855, wd_112, wd_142, wd_1856, rfl, by decide +kernel, by decide +kernel, by decide +kernel⟩
theorem dX11_mistaken_0 : decode cX11_mistaken 0 = .ok (.iconst 0, 1) := by decide +kernel
theorem dX11_mistaken_1 : decode cX11_mistaken 1 = .ok (.istore_n 1, 1) := by decide +kernel
theorem dX11_mistaken_2 : decode cX11_mistaken 2 = .ok (.iconst 0, 1) := by decide +kernel
theorem dX11_mistaken_3 : decode cX11_mistaken 3 = .ok (.istore_n 2, 1) := by decide +kernel
theorem dX11_mistaken_4 : decode cX11_mistaken 4 = .ok (.iload_n 2, 1) := by decide +kernel
theorem dX11_mistaken_5 : decode cX11_mistaken 5 = .ok (.aload_n 0, 1) := by decide +kernel
theorem dX11_mistaken_6 : decode cX11_mistaken 6 = .ok (.invokevirtual 217, 3) := by decide +kernel
theorem dX11_mistaken_9 : decode cX11_mistaken 9 = .ok (.if_icmp .ge 53, 3) := by decide +kernel
theorem dX11_mistaken_12 : decode cX11_mistaken 12 = .ok (.iload_n 2, 1) := by decide +kernel
theorem dX11_mistaken_13 : decode cX11_mistaken 13 = .ok (.iconst 2, 1) := by decide +kernel
theorem dX11_mistaken_14 : decode cX11_mistaken 14 = .ok (.iadd, 1) := by decide +kernel
theorem dX11_mistaken_15 : decode cX11_mistaken 15 = .ok (.istore_n 3, 1) := by decide +kernel
theorem dX11_mistaken_16 : decode cX11_mistaken 16 = .ok (.iload_n 3, 1) := by decide +kernel
theorem dX11_mistaken_17 : decode cX11_mistaken 17 = .ok (.aload_n 0, 1) := by decide +kernel
theorem dX11_mistaken_18 : decode cX11_mistaken 18 = .ok (.invokevirtual 217, 3) := by decide +kernel
theorem dX11_mistaken_21 : decode cX11_mistaken 21 = .ok (.if_icmp .ge 35, 3) := by decide +kernel
theorem dX11_mistaken_24 : decode cX11_mistaken 24 = .ok (.iload_n 1, 1) := by decide +kernel
theorem dX11_mistaken_25 : decode cX11_mistaken 25 = .ok (.aload_n 0, 1) := by decide +kernel
theorem dX11_mistaken_26 : decode cX11_mistaken 26 = .ok (.aload_n 0, 1) := by decide +kernel
theorem dX11_mistaken_27 : decode cX11_mistaken 27 = .ok (.iload_n 2, 1) := by decide +kernel
theorem dX11_mistaken_28 : decode cX11_mistaken 28 = .ok (.invokevirtual 269, 3) := by decide +kernel
theorem dX11_mistaken_31 : decode cX11_mistaken 31 = .ok (.aload_n 0, 1) := by decide +kernel
theorem dX11_mistaken_32 : decode cX11_mistaken 32 = .ok (.iload_n 3, 1) := by decide +kernel
theorem dX11_mistaken_33 : decode cX11_mistaken 33 = .ok (.invokevirtual 269, 3) := by decide +kernel
theorem dX11_mistaken_36 : decode cX11_mistaken 36 = .ok (.ixor, 1) := by decide +kernel
theorem dX11_mistaken_37 : decode cX11_mistaken 37 = .ok (.invokevirtual 317, 3) := by decide +kernel
theorem dX11_mistaken_40 : decode cX11_mistaken 40 = .ok (.ifCond .lt 7, 3) := by decide +kernel
theorem dX11_mistaken_43 : decode cX11_mistaken 43 = .ok (.iconst 1, 1) := by decide +kernel
theorem dX11_mistaken_44 : decode cX11_mistaken 44 = .ok (.goto 4, 3) := by decide +kernel
theorem dX11_mistaken_47 : decode cX11_mistaken 47 = .ok (.iconst 0, 1) := by decide +kernel
theorem dX11_mistaken_48 : decode cX11_mistaken 48 = .ok (.iadd, 1) := by decide +kernel
theorem dX11_mistaken_49 : decode cX11_mistaken 49 = .ok (.istore_n 1, 1) := by decide +kernel
theorem dX11_mistaken_50 : decode cX11_mistaken 50 = .ok (.iinc 3 1, 3) := by decide +kernel
theorem dX11_mistaken_53 : decode cX11_mistaken 53 = .ok (.goto (-37), 3) := by decide +kernel
theorem dX11_mistaken_56 : decode cX11_mistaken 56 = .ok (.iinc 2 1, 3) := by decide +kernel
theorem dX11_mistaken_59 : decode cX11_mistaken 59 = .ok (.goto (-55), 3) := by decide +kernel
theorem dX11_mistaken_62 : decode cX11_mistaken 62 = .ok (.aload_n 0, 1) := by decide +kernel
theorem dX11_mistaken_63 : decode cX11_mistaken 63 = .ok (.getfield 7, 3) := by decide +kernel
theorem dX11_mistaken_66 : decode cX11_mistaken 66 = .ok (.bipush 32, 2) := by decide +kernel
theorem dX11_mistaken_68 : decode cX11_mistaken 68 = .ok (.iaload, 1) := by decide +kernel
theorem dX11_mistaken_69 : decode cX11_mistaken 69 = .ok (.iconst 1, 1) := by decide +kernel
theorem dX11_mistaken_70 : decode cX11_mistaken 70 = .ok (.if_icmp .ne 7, 3) := by decide +kernel
theorem dX11_mistaken_73 : decode cX11_mistaken 73 = .ok (.iload_n 1, 1) := by decide +kernel
theorem dX11_mistaken_74 : decode cX11_mistaken 74 = .ok (.goto 4, 3) := by decide +kernel
theorem dX11_mistaken_77 : decode cX11_mistaken 77 = .ok (.iconst 0, 1) := by decide +kernel
theorem dX11_mistaken_78 : decode cX11_mistaken 78 = .ok (.ireturn, 1) := by decide +kernel
def wW_X11_mistaken (G : GG) (h0 h1 h2 h3 y0_3 y0_4 y0_6 y0_18 y0_21 y0_22 y0_23 y0_24 y0_25 y0_26 y0_33 y0_34 y0_38 y0_39 y0_40 y0_41 y0_42 y0_43 y0_45 y0_46 y0_47 y0_48 : Nat) (x0_5 : Int32) (x0_7 : Int32) (x0_8 : Int32) (x0_9 : Int32) (x0_10 : Int32) (x0_11 : Int32) (x0_12 : Int32) (x0_13 : Int32) (x0_14 : Int32) (x0_15 : Int32) (x0_16 : Int32) (x0_17 : Int32) (x0_19 : Int32) (x0_20 : Int32) (x0_27 : Int32) (x0_28 : Int32) (x0_29 : Int32) (x0_30 : Int32) (x0_31 : Int32) (x0_32 : Int32) (x0_35 : Int32) (x0_36 : Int32) (x0_37 : Int32) (x0_44 : Int32) (x0_49 : Int32) (x0_50 : Int32) (a1 : Nat → Int32) (a2 : Nat → Int32) (a3 : Nat → Int32) : va_W := [(h0, .inr (11, [.ref h1, .ref h2, .ref h3, .ref y0_3, .ref y0_4, .int x0_5, .ref y0_6, .int x0_7, .int x0_8, .int x0_9, .int x0_10, .int x0_11, .int x0_12, .int x0_13, .int x0_14, .int x0_15, .int x0_16, .int x0_17, .ref y0_18, .int x0_19, .int x0_20, .ref y0_21, .ref y0_22, .ref y0_23, .ref y0_24, .ref y0_25, .ref y0_26, .int x0_27, .int x0_28, .int x0_29, .int x0_30, .int x0_31, .int x0_32, .ref y0_33, .ref y0_34, .int x0_35, .int x0_36, .int x0_37, .ref y0_38, .ref y0_39, .ref y0_40, .ref y0_41, .ref y0_42, .ref y0_43, .int x0_44, .ref y0_45, .ref y0_46, .ref y0_47, .ref y0_48, .int x0_49, .int x0_50])), (h1, .inl (G.2.1, 121, .inl a1)), (h2, .inl (G.2.1, 2, .inl a2)), (h3, .inl (G.2.1, 2, .inl a3))]
set_option maxHeartbeats 4000000 in
set_option maxRecDepth 100000 in
theorem c_X11_mistaken (l : Launch) (G : GG) (h0 h1 h2 h3 y0_3 y0_4 y0_6 y0_18 y0_21 y0_22 y0_23 y0_24 y0_25 y0_26 y0_33 y0_34 y0_38 y0_39 y0_40 y0_41 y0_42 y0_43 y0_45 y0_46 y0_47 y0_48 : Nat) (sz : Nat) (x0_5 : Int32) (x0_7 : Int32) (x0_8 : Int32) (x0_9 : Int32) (x0_10 : Int32) (x0_11 : Int32) (x0_12 : Int32) (x0_13 : Int32) (x0_14 : Int32) (x0_15 : Int32) (x0_16 : Int32) (x0_17 : Int32) (x0_19 : Int32) (x0_20 : Int32) (x0_27 : Int32) (x0_28 : Int32) (x0_29 : Int32) (x0_30 : Int32) (x0_31 : Int32) (x0_32 : Int32) (x0_35 : Int32) (x0_36 : Int32) (x0_37 : Int32) (x0_44 : Int32) (x0_49 : Int32) (x0_50 : Int32) (a1 : Nat → Int32) (a2 : Nat → Int32) (a3 : Nat → Int32) (F : Nat)   (r0 : Int32) (hf : p_X11_mistaken F x0_5 a1 a2 a3  = some r0) : Met l yX11_mistaken (.code yX11_mistaken cX11_mistaken 4 (some .int) :: gtbl) ({ frames := 3, cells := 0, slots := 0, locals := 62 } : Room) (PcS G [.ref h0] (wW_X11_mistaken G h0 h1 h2 h3 y0_3 y0_4 y0_6 y0_18 y0_21 y0_22 y0_23 y0_24 y0_25 y0_26 y0_33 y0_34 y0_38 y0_39 y0_40 y0_41 y0_42 y0_43 y0_45 y0_46 y0_47 y0_48 x0_5 x0_7 x0_8 x0_9 x0_10 x0_11 x0_12 x0_13 x0_14 x0_15 x0_16 x0_17 x0_19 x0_20 x0_27 x0_28 x0_29 x0_30 x0_31 x0_32 x0_35 x0_36 x0_37 x0_44 x0_49 x0_50 a1 a2 a3) sz) (QiS G r0 (va_A (wW_X11_mistaken G h0 h1 h2 h3 y0_3 y0_4 y0_6 y0_18 y0_21 y0_22 y0_23 y0_24 y0_25 y0_26 y0_33 y0_34 y0_38 y0_39 y0_40 y0_41 y0_42 y0_43 y0_45 y0_46 y0_47 y0_48 x0_5 x0_7 x0_8 x0_9 x0_10 x0_11 x0_12 x0_13 x0_14 x0_15 x0_16 x0_17 x0_19 x0_20 x0_27 x0_28 x0_29 x0_30 x0_31 x0_32 x0_35 x0_36 x0_37 x0_44 x0_49 x0_50 a1 a2 a3) sz) (wW_X11_mistaken G h0 h1 h2 h3 y0_3 y0_4 y0_6 y0_18 y0_21 y0_22 y0_23 y0_24 y0_25 y0_26 y0_33 y0_34 y0_38 y0_39 y0_40 y0_41 y0_42 y0_43 y0_45 y0_46 y0_47 y0_48 x0_5 x0_7 x0_8 x0_9 x0_10 x0_11 x0_12 x0_13 x0_14 x0_15 x0_16 x0_17 x0_19 x0_20 x0_27 x0_28 x0_29 x0_30 x0_31 x0_32 x0_35 x0_36 x0_37 x0_44 x0_49 x0_50 a1 a2 a3)) 0 0 (va_A (wW_X11_mistaken G h0 h1 h2 h3 y0_3 y0_4 y0_6 y0_18 y0_21 y0_22 y0_23 y0_24 y0_25 y0_26 y0_33 y0_34 y0_38 y0_39 y0_40 y0_41 y0_42 y0_43 y0_45 y0_46 y0_47 y0_48 x0_5 x0_7 x0_8 x0_9 x0_10 x0_11 x0_12 x0_13 x0_14 x0_15 x0_16 x0_17 x0_19 x0_20 x0_27 x0_28 x0_29 x0_30 x0_31 x0_32 x0_35 x0_36 x0_37 x0_44 x0_49 x0_50 a1 a2 a3) sz) := by
  refine met_start (by decide) (Nat.le_of_ble_eq_true rfl) ?_
  intro p e s m below meth c hC hr hlk hnm hK hP hD hA hS hX ls hl
  obtain ⟨hx, hb, hml, hown, ht0⟩ := hC
  have hown : s.vm.findClass RX11 = some m.cls := hown
  generalize va_A (wW_X11_mistaken G h0 h1 h2 h3 y0_3 y0_4 y0_6 y0_18 y0_21 y0_22 y0_23 y0_24 y0_25 y0_26 y0_33 y0_34 y0_38 y0_39 y0_40 y0_41 y0_42 y0_43 y0_45 y0_46 y0_47 y0_48 x0_5 x0_7 x0_8 x0_9 x0_10 x0_11 x0_12 x0_13 x0_14 x0_15 x0_16 x0_17 x0_19 x0_20 x0_27 x0_28 x0_29 x0_30 x0_31 x0_32 x0_35 x0_36 x0_37 x0_44 x0_49 x0_50 a1 a2 a3) sz = A at hD hA hS hX ⊢
  have hl : lv_has ls 4 [(0, .ref h0)] := hl
  have hf : p_X11_mistaken F x0_5 a1 a2 a3  = some r0 := hf
  have kL4 : ∀ (n4 : Nat) (u4_1 : Int32) (u4_2 : Int32), p_X11_mistaken_L4 F x0_5 a1 a2 a3 n4 u4_1 u4_2 = some r0 → ∀ (H : Heap) (locs : List Loc), va_P G.1 vwCl (wW_X11_mistaken G h0 h1 h2 h3 y0_3 y0_4 y0_6 y0_18 y0_21 y0_22 y0_23 y0_24 y0_25 y0_26 y0_33 y0_34 y0_38 y0_39 y0_40 y0_41 y0_42 y0_43 y0_45 y0_46 y0_47 y0_48 x0_5 x0_7 x0_8 x0_9 x0_10 x0_11 x0_12 x0_13 x0_14 x0_15 x0_16 x0_17 x0_19 x0_20 x0_27 x0_28 x0_29 x0_30 x0_31 x0_32 x0_35 x0_36 x0_37 x0_44 x0_49 x0_50 a1 a2 a3) H → va_D A (wW_X11_mistaken G h0 h1 h2 h3 y0_3 y0_4 y0_6 y0_18 y0_21 y0_22 y0_23 y0_24 y0_25 y0_26 y0_33 y0_34 y0_38 y0_39 y0_40 y0_41 y0_42 y0_43 y0_45 y0_46 y0_47 y0_48 x0_5 x0_7 x0_8 x0_9 x0_10 x0_11 x0_12 x0_13 x0_14 x0_15 x0_16 x0_17 x0_19 x0_20 x0_27 x0_28 x0_29 x0_30 x0_31 x0_32 x0_35 x0_36 x0_37 x0_44 x0_49 x0_50 a1 a2 a3) → va_S A s.heap H locs → ∀ ls : Array Slot, lv_has ls 4 [(0, .ref h0), (1, .int u4_1), (2, .int u4_2)] → W p l e ({ frames := 3, cells := 0, slots := 0, locals := 62 } : Room) s m (List.toArray [.ref h0]) below meth c H locs 0 0 (MQ below (QiS G r0 A (wW_X11_mistaken G h0 h1 h2 h3 y0_3 y0_4 y0_6 y0_18 y0_21 y0_22 y0_23 y0_24 y0_25 y0_26 y0_33 y0_34 y0_38 y0_39 y0_40 y0_41 y0_42 y0_43 y0_45 y0_46 y0_47 y0_48 x0_5 x0_7 x0_8 x0_9 x0_10 x0_11 x0_12 x0_13 x0_14 x0_15 x0_16 x0_17 x0_19 x0_20 x0_27 x0_28 x0_29 x0_30 x0_31 x0_32 x0_35 x0_36 x0_37 x0_44 x0_49 x0_50 a1 a2 a3)) (List.toArray [.ref h0]) s 0 0 A) (F0 m 4 ls []) := by
    intro n4
    induction n4 with
    | zero =>
      intro u4_1 u4_2 hf
      cases hf
    | succ n4 ih4 =>
      have kL16 : ∀ (c16_2 : Int32) (n16 : Nat) (u16_1 : Int32) (u16_3 : Int32), p_X11_mistaken_L16 F x0_5 a1 a2 a3 c16_2 (p_X11_mistaken_L4 F x0_5 a1 a2 a3 n4) n16 u16_1 u16_3 = some r0 → ∀ (H : Heap) (locs : List Loc), va_P G.1 vwCl (wW_X11_mistaken G h0 h1 h2 h3 y0_3 y0_4 y0_6 y0_18 y0_21 y0_22 y0_23 y0_24 y0_25 y0_26 y0_33 y0_34 y0_38 y0_39 y0_40 y0_41 y0_42 y0_43 y0_45 y0_46 y0_47 y0_48 x0_5 x0_7 x0_8 x0_9 x0_10 x0_11 x0_12 x0_13 x0_14 x0_15 x0_16 x0_17 x0_19 x0_20 x0_27 x0_28 x0_29 x0_30 x0_31 x0_32 x0_35 x0_36 x0_37 x0_44 x0_49 x0_50 a1 a2 a3) H → va_D A (wW_X11_mistaken G h0 h1 h2 h3 y0_3 y0_4 y0_6 y0_18 y0_21 y0_22 y0_23 y0_24 y0_25 y0_26 y0_33 y0_34 y0_38 y0_39 y0_40 y0_41 y0_42 y0_43 y0_45 y0_46 y0_47 y0_48 x0_5 x0_7 x0_8 x0_9 x0_10 x0_11 x0_12 x0_13 x0_14 x0_15 x0_16 x0_17 x0_19 x0_20 x0_27 x0_28 x0_29 x0_30 x0_31 x0_32 x0_35 x0_36 x0_37 x0_44 x0_49 x0_50 a1 a2 a3) → va_S A s.heap H locs → ∀ ls : Array Slot, lv_has ls 4 [(0, .ref h0), (1, .int u16_1), (2, .int c16_2), (3, .int u16_3)] → W p l e ({ frames := 3, cells := 0, slots := 0, locals := 62 } : Room) s m (List.toArray [.ref h0]) below meth c H locs 0 0 (MQ below (QiS G r0 A (wW_X11_mistaken G h0 h1 h2 h3 y0_3 y0_4 y0_6 y0_18 y0_21 y0_22 y0_23 y0_24 y0_25 y0_26 y0_33 y0_34 y0_38 y0_39 y0_40 y0_41 y0_42 y0_43 y0_45 y0_46 y0_47 y0_48 x0_5 x0_7 x0_8 x0_9 x0_10 x0_11 x0_12 x0_13 x0_14 x0_15 x0_16 x0_17 x0_19 x0_20 x0_27 x0_28 x0_29 x0_30 x0_31 x0_32 x0_35 x0_36 x0_37 x0_44 x0_49 x0_50 a1 a2 a3)) (List.toArray [.ref h0]) s 0 0 A) (F0 m 16 ls []) := by
        intro c16_2 n16
        induction n16 with
        | zero =>
          intro u16_1 u16_3 hf
          cases hf
        | succ n16 ih16 =>
          have kJ48 : ∀ (u48_3 : Int32) (s48_0 : Int32) (s48_1 : Int32), p_X11_mistaken_J48 F x0_5 a1 a2 a3 c16_2 (p_X11_mistaken_L4 F x0_5 a1 a2 a3 n4) (p_X11_mistaken_L16 F x0_5 a1 a2 a3 c16_2 (p_X11_mistaken_L4 F x0_5 a1 a2 a3 n4) n16) u48_3 s48_0 s48_1 = some r0 → ∀ (H : Heap) (locs : List Loc), va_P G.1 vwCl (wW_X11_mistaken G h0 h1 h2 h3 y0_3 y0_4 y0_6 y0_18 y0_21 y0_22 y0_23 y0_24 y0_25 y0_26 y0_33 y0_34 y0_38 y0_39 y0_40 y0_41 y0_42 y0_43 y0_45 y0_46 y0_47 y0_48 x0_5 x0_7 x0_8 x0_9 x0_10 x0_11 x0_12 x0_13 x0_14 x0_15 x0_16 x0_17 x0_19 x0_20 x0_27 x0_28 x0_29 x0_30 x0_31 x0_32 x0_35 x0_36 x0_37 x0_44 x0_49 x0_50 a1 a2 a3) H → va_D A (wW_X11_mistaken G h0 h1 h2 h3 y0_3 y0_4 y0_6 y0_18 y0_21 y0_22 y0_23 y0_24 y0_25 y0_26 y0_33 y0_34 y0_38 y0_39 y0_40 y0_41 y0_42 y0_43 y0_45 y0_46 y0_47 y0_48 x0_5 x0_7 x0_8 x0_9 x0_10 x0_11 x0_12 x0_13 x0_14 x0_15 x0_16 x0_17 x0_19 x0_20 x0_27 x0_28 x0_29 x0_30 x0_31 x0_32 x0_35 x0_36 x0_37 x0_44 x0_49 x0_50 a1 a2 a3) → va_S A s.heap H locs → ∀ ls : Array Slot, lv_has ls 4 [(0, .ref h0), (2, .int c16_2), (3, .int u48_3)] → W p l e ({ frames := 3, cells := 0, slots := 0, locals := 62 } : Room) s m (List.toArray [.ref h0]) below meth c H locs 0 0 (MQ below (QiS G r0 A (wW_X11_mistaken G h0 h1 h2 h3 y0_3 y0_4 y0_6 y0_18 y0_21 y0_22 y0_23 y0_24 y0_25 y0_26 y0_33 y0_34 y0_38 y0_39 y0_40 y0_41 y0_42 y0_43 y0_45 y0_46 y0_47 y0_48 x0_5 x0_7 x0_8 x0_9 x0_10 x0_11 x0_12 x0_13 x0_14 x0_15 x0_16 x0_17 x0_19 x0_20 x0_27 x0_28 x0_29 x0_30 x0_31 x0_32 x0_35 x0_36 x0_37 x0_44 x0_49 x0_50 a1 a2 a3)) (List.toArray [.ref h0]) s 0 0 A) (F0 m 48 ls [.int s48_1, .int s48_0]) := by
            intro u48_3 s48_0 s48_1 hf H locs hP hD hS ls hl
            refine lv_iadd hx hb dX11_mistaken_48 ?_
            refine lv_istore_n (lv' := [(1, .int (s48_0 + s48_1)), (0, .ref h0), (2, .int c16_2), (3, .int u48_3)]) hx hb dX11_mistaken_49 rfl hl (by decide) rfl (fun ls hl => ?_)
            refine lv_iinc (v := u48_3 + (1 : Int32)) (lv' := [(3, .int (u48_3 + (1 : Int32))), (1, .int (s48_0 + s48_1)), (0, .ref h0), (2, .int c16_2)]) hx hb dX11_mistaken_50 hl (k := 3) rfl (by rfl) (by decide) rfl (fun ls hl => ?_)
            refine lv_goto (tgt := 16) hx hb dX11_mistaken_53 (by decide) ?_
            exact ih16 _ _ hf _ _ hP hD hS _ (lv_sub hl [2, 1, 3, 0] rfl)
          intro u16_1 u16_3 hf H locs hP hD hS ls hl
          have hf : p_X11_mistaken_L16b F x0_5 a1 a2 a3 c16_2 (p_X11_mistaken_L4 F x0_5 a1 a2 a3 n4) (p_X11_mistaken_L16 F x0_5 a1 a2 a3 c16_2 (p_X11_mistaken_L4 F x0_5 a1 a2 a3 n4) n16) u16_1 u16_3 = some r0 := hf
          refine lv_iload_n hx hb dX11_mistaken_16 rfl (lv_at hl 3 rfl) ?_
          refine lv_aload_n hx hb dX11_mistaken_17 rfl (lv_at hl 0 rfl) ?_
          obtain ⟨r_18_0, hc_r_18_0, hf⟩ := of_bnd hf
          refine cl_Vi (w2 := (wW_X11_mistaken G h0 h1 h2 h3 y0_3 y0_4 y0_6 y0_18 y0_21 y0_22 y0_23 y0_24 y0_25 y0_26 y0_33 y0_34 y0_38 y0_39 y0_40 y0_41 y0_42 y0_43 y0_45 y0_46 y0_47 y0_48 x0_5 x0_7 x0_8 x0_9 x0_10 x0_11 x0_12 x0_13 x0_14 x0_15 x0_16 x0_17 x0_19 x0_20 x0_27 x0_28 x0_29 x0_30 x0_31 x0_32 x0_35 x0_36 x0_37 x0_44 x0_49 x0_50 a1 a2 a3)) (As := []) (rest := [.int u16_3]) ⟨hx, hb, hml, hown, ht0⟩ (c_X11_places l G h0 h2 h3 h1 y0_3 y0_4 y0_6 y0_18 y0_21 y0_22 y0_23 y0_24 y0_25 y0_26 y0_33 y0_34 y0_38 y0_39 y0_40 y0_41 y0_42 y0_43 y0_45 y0_46 y0_47 y0_48 _ x0_5 x0_7 x0_8 x0_9 x0_10 x0_11 x0_12 x0_13 x0_14 x0_15 x0_16 x0_17 x0_19 x0_20 x0_27 x0_28 x0_29 x0_30 x0_31 x0_32 x0_35 x0_36 x0_37 x0_44 x0_49 x0_50 a2 a3 F _ hc_r_18_0) yk_X11_places wd_1572 ⟨rfl, rfl, by decide, by decide⟩ ⟨Nat.le_refl _, Nat.le_refl _⟩ hX hK hP hD hS hA [0, 2, 3] [1] [1, 0, 2, 3] (va_recv hK hP (ci := 11) (q0 := 0) rfl rfl) rfl rfl (by decide) rfl rfl rfl rfl rfl hl.1 rfl (Nat.le_of_ble_eq_true rfl) dX11_mistaken_18 (fun H locs hP hD hS => ?_)
          refine lv_icmp_ge (tgt := 56) hx hb dX11_mistaken_21 (by decide) (fun c2 => ?_) (fun c2 => ?_)
          · have hf := of_pos hf c2
            refine lv_iinc (v := c16_2 + (1 : Int32)) (lv' := [(2, .int (c16_2 + (1 : Int32))), (0, .ref h0), (1, .int u16_1), (3, .int u16_3)]) hx hb dX11_mistaken_56 hl (k := 2) rfl (by rfl) (by decide) rfl (fun ls hl => ?_)
            refine lv_goto (tgt := 4) hx hb dX11_mistaken_59 (by decide) ?_
            exact ih4 _ _ hf _ _ hP hD hS _ (lv_sub hl [1, 2, 0] rfl)
          · have hf := of_neg hf c2
            refine lv_iload_n hx hb dX11_mistaken_24 rfl (lv_at hl 1 rfl) ?_
            refine lv_aload_n hx hb dX11_mistaken_25 rfl (lv_at hl 0 rfl) ?_
            refine lv_aload_n hx hb dX11_mistaken_26 rfl (lv_at hl 0 rfl) ?_
            refine lv_iload_n hx hb dX11_mistaken_27 rfl (lv_at hl 2 rfl) ?_
            obtain ⟨r_28_2, hc_r_28_2, hf⟩ := of_bnd hf
            refine cl_Vi (w2 := (wW_X11_mistaken G h0 h1 h2 h3 y0_3 y0_4 y0_6 y0_18 y0_21 y0_22 y0_23 y0_24 y0_25 y0_26 y0_33 y0_34 y0_38 y0_39 y0_40 y0_41 y0_42 y0_43 y0_45 y0_46 y0_47 y0_48 x0_5 x0_7 x0_8 x0_9 x0_10 x0_11 x0_12 x0_13 x0_14 x0_15 x0_16 x0_17 x0_19 x0_20 x0_27 x0_28 x0_29 x0_30 x0_31 x0_32 x0_35 x0_36 x0_37 x0_44 x0_49 x0_50 a1 a2 a3)) (As := [.int c16_2]) (rest := [.ref h0, .int u16_1]) ⟨hx, hb, hml, hown, ht0⟩ (c_X11_columnAt l G h0 h1 h2 h3 y0_3 y0_4 y0_6 y0_18 y0_21 y0_22 y0_23 y0_24 y0_25 y0_26 y0_33 y0_34 y0_38 y0_39 y0_40 y0_41 y0_42 y0_43 y0_45 y0_46 y0_47 y0_48 _ x0_5 x0_7 x0_8 x0_9 x0_10 x0_11 x0_12 x0_13 x0_14 x0_15 x0_16 x0_17 x0_19 x0_20 x0_27 x0_28 x0_29 x0_30 x0_31 x0_32 x0_35 x0_36 x0_37 x0_44 x0_49 x0_50 a1 F c16_2 _ hc_r_28_2) yk_X11_columnAt wd_1402 ⟨rfl, rfl, by decide, by decide⟩ ⟨Nat.le_refl _, Nat.le_refl _⟩ hX hK hP hD hS hA [0, 1] [2, 3] [2, 3, 0, 1] (va_recv hK hP (ci := 11) (q0 := 0) rfl rfl) rfl rfl (by decide) rfl rfl rfl rfl rfl hl.1 rfl (Nat.le_of_ble_eq_true rfl) dX11_mistaken_28 (fun H locs hP hD hS => ?_)
            refine lv_aload_n hx hb dX11_mistaken_31 rfl (lv_at hl 0 rfl) ?_
            refine lv_iload_n hx hb dX11_mistaken_32 rfl (lv_at hl 3 rfl) ?_
            obtain ⟨r_33_3, hc_r_33_3, hf⟩ := of_bnd hf
            refine cl_Vi (w2 := (wW_X11_mistaken G h0 h1 h2 h3 y0_3 y0_4 y0_6 y0_18 y0_21 y0_22 y0_23 y0_24 y0_25 y0_26 y0_33 y0_34 y0_38 y0_39 y0_40 y0_41 y0_42 y0_43 y0_45 y0_46 y0_47 y0_48 x0_5 x0_7 x0_8 x0_9 x0_10 x0_11 x0_12 x0_13 x0_14 x0_15 x0_16 x0_17 x0_19 x0_20 x0_27 x0_28 x0_29 x0_30 x0_31 x0_32 x0_35 x0_36 x0_37 x0_44 x0_49 x0_50 a1 a2 a3)) (As := [.int u16_3]) (rest := [.int r_28_2, .ref h0, .int u16_1]) ⟨hx, hb, hml, hown, ht0⟩ (c_X11_columnAt l G h0 h1 h2 h3 y0_3 y0_4 y0_6 y0_18 y0_21 y0_22 y0_23 y0_24 y0_25 y0_26 y0_33 y0_34 y0_38 y0_39 y0_40 y0_41 y0_42 y0_43 y0_45 y0_46 y0_47 y0_48 _ x0_5 x0_7 x0_8 x0_9 x0_10 x0_11 x0_12 x0_13 x0_14 x0_15 x0_16 x0_17 x0_19 x0_20 x0_27 x0_28 x0_29 x0_30 x0_31 x0_32 x0_35 x0_36 x0_37 x0_44 x0_49 x0_50 a1 F u16_3 _ hc_r_33_3) yk_X11_columnAt wd_1402 ⟨rfl, rfl, by decide, by decide⟩ ⟨Nat.le_refl _, Nat.le_refl _⟩ hX hK hP hD hS hA [0, 1] [2, 3] [2, 3, 0, 1] (va_recv hK hP (ci := 11) (q0 := 0) rfl rfl) rfl rfl (by decide) rfl rfl rfl rfl rfl hl.1 rfl (Nat.le_of_ble_eq_true rfl) dX11_mistaken_33 (fun H locs hP hD hS => ?_)
            refine lv_ixor hx hb dX11_mistaken_36 ?_
            obtain ⟨r_37_4, hc_r_37_4, hf⟩ := of_bnd hf
            refine cl_Vi (w2 := (wW_X11_mistaken G h0 h1 h2 h3 y0_3 y0_4 y0_6 y0_18 y0_21 y0_22 y0_23 y0_24 y0_25 y0_26 y0_33 y0_34 y0_38 y0_39 y0_40 y0_41 y0_42 y0_43 y0_45 y0_46 y0_47 y0_48 x0_5 x0_7 x0_8 x0_9 x0_10 x0_11 x0_12 x0_13 x0_14 x0_15 x0_16 x0_17 x0_19 x0_20 x0_27 x0_28 x0_29 x0_30 x0_31 x0_32 x0_35 x0_36 x0_37 x0_44 x0_49 x0_50 a1 a2 a3)) (As := [.int (r_28_2 ^^^ r_33_3)]) (rest := [.int u16_1]) ⟨hx, hb, hml, hown, ht0⟩ (c_X11_pairOf l G h0 h1 h2 h3 y0_3 y0_4 y0_6 y0_18 y0_21 y0_22 y0_23 y0_24 y0_25 y0_26 y0_33 y0_34 y0_38 y0_39 y0_40 y0_41 y0_42 y0_43 y0_45 y0_46 y0_47 y0_48 _ x0_5 x0_7 x0_8 x0_9 x0_10 x0_11 x0_12 x0_13 x0_14 x0_15 x0_16 x0_17 x0_19 x0_20 x0_27 x0_28 x0_29 x0_30 x0_31 x0_32 x0_35 x0_36 x0_37 x0_44 x0_49 x0_50 a1 a2 a3 F (r_28_2 ^^^ r_33_3) _ hc_r_37_4) yk_X11_pairOf wd_1655 ⟨rfl, rfl, by decide, by decide⟩ ⟨Nat.le_refl _, Nat.le_refl _⟩ hX hK hP hD hS hA [0, 1, 2, 3] [] [0, 1, 2, 3] (va_recv hK hP (ci := 11) (q0 := 0) rfl rfl) rfl rfl (by decide) rfl rfl rfl rfl rfl hl.1 rfl (Nat.le_of_ble_eq_true rfl) dX11_mistaken_37 (fun H locs hP hD hS => ?_)
            refine lv_if_lt (tgt := 47) hx hb dX11_mistaken_40 (by decide) (fun c6 => ?_) (fun c6 => ?_)
            · have hf := of_pos hf c6
              refine lv_iconst (v := (0 : Int32)) hx hb dX11_mistaken_47 (by decide) ?_
              exact kJ48 _ _ _ hf _ _ hP hD hS _ (lv_sub hl [0, 2, 3] rfl)
            · have hf := of_neg hf c6
              refine lv_iconst (v := (1 : Int32)) hx hb dX11_mistaken_43 (by decide) ?_
              refine lv_goto (tgt := 48) hx hb dX11_mistaken_44 (by decide) ?_
              exact kJ48 _ _ _ hf _ _ hP hD hS _ (lv_sub hl [0, 2, 3] rfl)
      intro u4_1 u4_2 hf H locs hP hD hS ls hl
      have hf : p_X11_mistaken_L4b F x0_5 a1 a2 a3 (p_X11_mistaken_L4 F x0_5 a1 a2 a3 n4) u4_1 u4_2 = some r0 := hf
      refine lv_iload_n hx hb dX11_mistaken_4 rfl (lv_at hl 2 rfl) ?_
      refine lv_aload_n hx hb dX11_mistaken_5 rfl (lv_at hl 0 rfl) ?_
      obtain ⟨r_6_6, hc_r_6_6, hf⟩ := of_bnd hf
      refine cl_Vi (w2 := (wW_X11_mistaken G h0 h1 h2 h3 y0_3 y0_4 y0_6 y0_18 y0_21 y0_22 y0_23 y0_24 y0_25 y0_26 y0_33 y0_34 y0_38 y0_39 y0_40 y0_41 y0_42 y0_43 y0_45 y0_46 y0_47 y0_48 x0_5 x0_7 x0_8 x0_9 x0_10 x0_11 x0_12 x0_13 x0_14 x0_15 x0_16 x0_17 x0_19 x0_20 x0_27 x0_28 x0_29 x0_30 x0_31 x0_32 x0_35 x0_36 x0_37 x0_44 x0_49 x0_50 a1 a2 a3)) (As := []) (rest := [.int u4_2]) ⟨hx, hb, hml, hown, ht0⟩ (c_X11_places l G h0 h2 h3 h1 y0_3 y0_4 y0_6 y0_18 y0_21 y0_22 y0_23 y0_24 y0_25 y0_26 y0_33 y0_34 y0_38 y0_39 y0_40 y0_41 y0_42 y0_43 y0_45 y0_46 y0_47 y0_48 _ x0_5 x0_7 x0_8 x0_9 x0_10 x0_11 x0_12 x0_13 x0_14 x0_15 x0_16 x0_17 x0_19 x0_20 x0_27 x0_28 x0_29 x0_30 x0_31 x0_32 x0_35 x0_36 x0_37 x0_44 x0_49 x0_50 a2 a3 F _ hc_r_6_6) yk_X11_places wd_1572 ⟨rfl, rfl, by decide, by decide⟩ ⟨Nat.le_refl _, Nat.le_refl _⟩ hX hK hP hD hS hA [0, 2, 3] [1] [1, 0, 2, 3] (va_recv hK hP (ci := 11) (q0 := 0) rfl rfl) rfl rfl (by decide) rfl rfl rfl rfl rfl hl.1 rfl (Nat.le_of_ble_eq_true rfl) dX11_mistaken_6 (fun H locs hP hD hS => ?_)
      refine lv_icmp_ge (tgt := 62) hx hb dX11_mistaken_9 (by decide) (fun c8 => ?_) (fun c8 => ?_)
      · have hf := of_pos hf c8
        refine lv_aload_n hx hb dX11_mistaken_62 rfl (lv_at hl 0 rfl) ?_
        refine va_get (ci := 11) (v := .ref h1) (C := RX11) (T := TX11) (N := 51) hx hb ht0 iX11 hown hK hP 0 rfl rfl 0 (by decide) (ht0 _ wd_1406) (fun _ h9 => h9) rfl dX11_mistaken_63 ?_
        refine lv_bipush (v := (32 : Int32)) hx hb dX11_mistaken_66 (by decide) ?_
        refine va_iald hx hb hK hP 1 0 rfl rfl (show ¬ ixBad (32 : Int32) 121 by decide) dX11_mistaken_68 ?_
        refine lv_iconst (v := (1 : Int32)) hx hb dX11_mistaken_69 (by decide) ?_
        refine lv_icmp_ne (tgt := 77) hx hb dX11_mistaken_70 (by decide) (fun c9 => ?_) (fun c9 => ?_)
        · have hf := of_neg hf c9
          refine lv_iconst (v := (0 : Int32)) hx hb dX11_mistaken_77 (by decide) ?_
          cases hf
          exact ret_i hx hb hr hlk hK hP hD hS dX11_mistaken_78
        · have hf := of_pos hf c9
          refine lv_iload_n hx hb dX11_mistaken_73 rfl (lv_at hl 1 rfl) ?_
          refine lv_goto (tgt := 78) hx hb dX11_mistaken_74 (by decide) ?_
          cases hf
          exact ret_i hx hb hr hlk hK hP hD hS dX11_mistaken_78
      · have hf := of_neg hf c8
        refine lv_iload_n hx hb dX11_mistaken_12 rfl (lv_at hl 2 rfl) ?_
        refine lv_iconst (v := (2 : Int32)) hx hb dX11_mistaken_13 (by decide) ?_
        refine lv_iadd hx hb dX11_mistaken_14 ?_
        refine lv_istore_n (lv' := [(3, .int (u4_2 + (2 : Int32))), (0, .ref h0), (1, .int u4_1), (2, .int u4_2)]) hx hb dX11_mistaken_15 rfl hl (by decide) rfl (fun ls hl => ?_)
        exact kL16 _ _ _ _ hf _ _ hP hD hS _ (lv_sub hl [1, 2, 3, 0] rfl)
  refine lv_iconst (v := (0 : Int32)) hx hb dX11_mistaken_0 (by decide) ?_
  refine lv_istore_n (lv' := [(1, .int (0 : Int32)), (0, .ref h0)]) hx hb dX11_mistaken_1 rfl hl (by decide) rfl (fun ls hl => ?_)
  refine lv_iconst (v := (0 : Int32)) hx hb dX11_mistaken_2 (by decide) ?_
  refine lv_istore_n (lv' := [(2, .int (0 : Int32)), (1, .int (0 : Int32)), (0, .ref h0)]) hx hb dX11_mistaken_3 rfl hl (by decide) rfl (fun ls hl => ?_)
  exact kL4 _ _ _ hf _ _ hP hD hS _ (lv_sub hl [2, 1, 0] rfl)
theorem yk_X11_mistaken : ykV yX11_mistaken RX11 cX11_mistaken 4 (some .int) 0 := ⟨wd_1851, wd_111, wd_142, wd_1852, rfl, by decide +kernel, by decide +kernel, by decide +kernel⟩
theorem dX11_twos_0 : decode cX11_twos 0 = .ok (.iload_n 1, 1) := by decide +kernel
theorem dX11_twos_1 : decode cX11_twos 1 = .ok (.ifCond .ne 10, 3) := by decide +kernel
theorem dX11_twos_4 : decode cX11_twos 4 = .ok (.aload_n 0, 1) := by decide +kernel
theorem dX11_twos_5 : decode cX11_twos 5 = .ok (.invokevirtual 423, 3) := by decide +kernel
theorem dX11_twos_8 : decode cX11_twos 8 = .ok (.goto 42, 3) := by decide +kernel
theorem dX11_twos_11 : decode cX11_twos 11 = .ok (.iload_n 1, 1) := by decide +kernel
theorem dX11_twos_12 : decode cX11_twos 12 = .ok (.iconst 1, 1) := by decide +kernel
theorem dX11_twos_13 : decode cX11_twos 13 = .ok (.if_icmp .ne 10, 3) := by decide +kernel
theorem dX11_twos_16 : decode cX11_twos 16 = .ok (.aload_n 0, 1) := by decide +kernel
theorem dX11_twos_17 : decode cX11_twos 17 = .ok (.invokevirtual 426, 3) := by decide +kernel
theorem dX11_twos_20 : decode cX11_twos 20 = .ok (.goto 30, 3) := by decide +kernel
theorem dX11_twos_23 : decode cX11_twos 23 = .ok (.iload_n 1, 1) := by decide +kernel
theorem dX11_twos_24 : decode cX11_twos 24 = .ok (.iconst 2, 1) := by decide +kernel
theorem dX11_twos_25 : decode cX11_twos 25 = .ok (.if_icmp .ne 24, 3) := by decide +kernel
theorem dX11_twos_28 : decode cX11_twos 28 = .ok (.aload_n 0, 1) := by decide +kernel
theorem dX11_twos_29 : decode cX11_twos 29 = .ok (.invokevirtual 426, 3) := by decide +kernel
theorem dX11_twos_32 : decode cX11_twos 32 = .ok (.aload_n 0, 1) := by decide +kernel
theorem dX11_twos_33 : decode cX11_twos 33 = .ok (.invokevirtual 217, 3) := by decide +kernel
theorem dX11_twos_36 : decode cX11_twos 36 = .ok (.iconst 1, 1) := by decide +kernel
theorem dX11_twos_37 : decode cX11_twos 37 = .ok (.isub, 1) := by decide +kernel
theorem dX11_twos_38 : decode cX11_twos 38 = .ok (.if_icmp .ne 7, 3) := by decide +kernel
theorem dX11_twos_41 : decode cX11_twos 41 = .ok (.iconst 1, 1) := by decide +kernel
theorem dX11_twos_42 : decode cX11_twos 42 = .ok (.goto 8, 3) := by decide +kernel
theorem dX11_twos_45 : decode cX11_twos 45 = .ok (.iconst 0, 1) := by decide +kernel
theorem dX11_twos_46 : decode cX11_twos 46 = .ok (.goto 4, 3) := by decide +kernel
theorem dX11_twos_49 : decode cX11_twos 49 = .ok (.iconst (-1), 1) := by decide +kernel
theorem dX11_twos_50 : decode cX11_twos 50 = .ok (.ireturn, 1) := by decide +kernel
def wW_X11_twos (G : GG) (h0 h1 h2 h3 y0_3 y0_4 y0_6 y0_18 y0_21 y0_22 y0_23 y0_24 y0_25 y0_26 y0_33 y0_34 y0_38 y0_39 y0_40 y0_41 y0_42 y0_43 y0_45 y0_46 y0_47 y0_48 : Nat) (x0_5 : Int32) (x0_7 : Int32) (x0_8 : Int32) (x0_9 : Int32) (x0_10 : Int32) (x0_11 : Int32) (x0_12 : Int32) (x0_13 : Int32) (x0_14 : Int32) (x0_15 : Int32) (x0_16 : Int32) (x0_17 : Int32) (x0_19 : Int32) (x0_20 : Int32) (x0_27 : Int32) (x0_28 : Int32) (x0_29 : Int32) (x0_30 : Int32) (x0_31 : Int32) (x0_32 : Int32) (x0_35 : Int32) (x0_36 : Int32) (x0_37 : Int32) (x0_44 : Int32) (x0_49 : Int32) (x0_50 : Int32) (a1 : Nat → Int32) (a2 : Nat → Int32) (a3 : Nat → Int32) : va_W := [(h0, .inr (11, [.ref h1, .ref h2, .ref h3, .ref y0_3, .ref y0_4, .int x0_5, .ref y0_6, .int x0_7, .int x0_8, .int x0_9, .int x0_10, .int x0_11, .int x0_12, .int x0_13, .int x0_14, .int x0_15, .int x0_16, .int x0_17, .ref y0_18, .int x0_19, .int x0_20, .ref y0_21, .ref y0_22, .ref y0_23, .ref y0_24, .ref y0_25, .ref y0_26, .int x0_27, .int x0_28, .int x0_29, .int x0_30, .int x0_31, .int x0_32, .ref y0_33, .ref y0_34, .int x0_35, .int x0_36, .int x0_37, .ref y0_38, .ref y0_39, .ref y0_40, .ref y0_41, .ref y0_42, .ref y0_43, .int x0_44, .ref y0_45, .ref y0_46, .ref y0_47, .ref y0_48, .int x0_49, .int x0_50])), (h1, .inl (G.2.1, 121, .inl a1)), (h2, .inl (G.2.1, 2, .inl a2)), (h3, .inl (G.2.1, 2, .inl a3))]
set_option maxHeartbeats 4000000 in
set_option maxRecDepth 100000 in
theorem c_X11_twos (l : Launch) (G : GG) (h0 h1 h2 h3 y0_3 y0_4 y0_6 y0_18 y0_21 y0_22 y0_23 y0_24 y0_25 y0_26 y0_33 y0_34 y0_38 y0_39 y0_40 y0_41 y0_42 y0_43 y0_45 y0_46 y0_47 y0_48 : Nat) (sz : Nat) (x0_5 : Int32) (x0_7 : Int32) (x0_8 : Int32) (x0_9 : Int32) (x0_10 : Int32) (x0_11 : Int32) (x0_12 : Int32) (x0_13 : Int32) (x0_14 : Int32) (x0_15 : Int32) (x0_16 : Int32) (x0_17 : Int32) (x0_19 : Int32) (x0_20 : Int32) (x0_27 : Int32) (x0_28 : Int32) (x0_29 : Int32) (x0_30 : Int32) (x0_31 : Int32) (x0_32 : Int32) (x0_35 : Int32) (x0_36 : Int32) (x0_37 : Int32) (x0_44 : Int32) (x0_49 : Int32) (x0_50 : Int32) (a1 : Nat → Int32) (a2 : Nat → Int32) (a3 : Nat → Int32) (F : Nat) (b1 : Int32)  (r0 : Int32) (hf : p_X11_twos F x0_5 a1 a2 a3 b1 = some r0) : Met l yX11_twos (.code yX11_twos cX11_twos 2 (some .int) :: gtbl) ({ frames := 4, cells := 0, slots := 0, locals := 85 } : Room) (PcS G [.ref h0, .int b1] (wW_X11_twos G h0 h1 h2 h3 y0_3 y0_4 y0_6 y0_18 y0_21 y0_22 y0_23 y0_24 y0_25 y0_26 y0_33 y0_34 y0_38 y0_39 y0_40 y0_41 y0_42 y0_43 y0_45 y0_46 y0_47 y0_48 x0_5 x0_7 x0_8 x0_9 x0_10 x0_11 x0_12 x0_13 x0_14 x0_15 x0_16 x0_17 x0_19 x0_20 x0_27 x0_28 x0_29 x0_30 x0_31 x0_32 x0_35 x0_36 x0_37 x0_44 x0_49 x0_50 a1 a2 a3) sz) (QiS G r0 (va_A (wW_X11_twos G h0 h1 h2 h3 y0_3 y0_4 y0_6 y0_18 y0_21 y0_22 y0_23 y0_24 y0_25 y0_26 y0_33 y0_34 y0_38 y0_39 y0_40 y0_41 y0_42 y0_43 y0_45 y0_46 y0_47 y0_48 x0_5 x0_7 x0_8 x0_9 x0_10 x0_11 x0_12 x0_13 x0_14 x0_15 x0_16 x0_17 x0_19 x0_20 x0_27 x0_28 x0_29 x0_30 x0_31 x0_32 x0_35 x0_36 x0_37 x0_44 x0_49 x0_50 a1 a2 a3) sz) (wW_X11_twos G h0 h1 h2 h3 y0_3 y0_4 y0_6 y0_18 y0_21 y0_22 y0_23 y0_24 y0_25 y0_26 y0_33 y0_34 y0_38 y0_39 y0_40 y0_41 y0_42 y0_43 y0_45 y0_46 y0_47 y0_48 x0_5 x0_7 x0_8 x0_9 x0_10 x0_11 x0_12 x0_13 x0_14 x0_15 x0_16 x0_17 x0_19 x0_20 x0_27 x0_28 x0_29 x0_30 x0_31 x0_32 x0_35 x0_36 x0_37 x0_44 x0_49 x0_50 a1 a2 a3)) 0 0 (va_A (wW_X11_twos G h0 h1 h2 h3 y0_3 y0_4 y0_6 y0_18 y0_21 y0_22 y0_23 y0_24 y0_25 y0_26 y0_33 y0_34 y0_38 y0_39 y0_40 y0_41 y0_42 y0_43 y0_45 y0_46 y0_47 y0_48 x0_5 x0_7 x0_8 x0_9 x0_10 x0_11 x0_12 x0_13 x0_14 x0_15 x0_16 x0_17 x0_19 x0_20 x0_27 x0_28 x0_29 x0_30 x0_31 x0_32 x0_35 x0_36 x0_37 x0_44 x0_49 x0_50 a1 a2 a3) sz) := by
  refine met_start (by decide) (Nat.le_of_ble_eq_true rfl) ?_
  intro p e s m below meth c hC hr hlk hnm hK hP hD hA hS hX ls hl
  obtain ⟨hx, hb, hml, hown, ht0⟩ := hC
  have hown : s.vm.findClass RX11 = some m.cls := hown
  generalize va_A (wW_X11_twos G h0 h1 h2 h3 y0_3 y0_4 y0_6 y0_18 y0_21 y0_22 y0_23 y0_24 y0_25 y0_26 y0_33 y0_34 y0_38 y0_39 y0_40 y0_41 y0_42 y0_43 y0_45 y0_46 y0_47 y0_48 x0_5 x0_7 x0_8 x0_9 x0_10 x0_11 x0_12 x0_13 x0_14 x0_15 x0_16 x0_17 x0_19 x0_20 x0_27 x0_28 x0_29 x0_30 x0_31 x0_32 x0_35 x0_36 x0_37 x0_44 x0_49 x0_50 a1 a2 a3) sz = A at hD hA hS hX ⊢
  have hl : lv_has ls 2 [(0, .ref h0), (1, .int b1)] := hl
  have hf : p_X11_twos F x0_5 a1 a2 a3 b1 = some r0 := hf
  refine lv_iload_n hx hb dX11_twos_0 rfl (lv_at hl 1 rfl) ?_
  refine lv_if_ne (tgt := 11) hx hb dX11_twos_1 (by decide) (fun c1 => ?_) (fun c1 => ?_)
  · have hf := of_neg hf c1
    refine lv_iload_n hx hb dX11_twos_11 rfl (lv_at hl 1 rfl) ?_
    refine lv_iconst (v := (1 : Int32)) hx hb dX11_twos_12 (by decide) ?_
    refine lv_icmp_ne (tgt := 23) hx hb dX11_twos_13 (by decide) (fun c2 => ?_) (fun c2 => ?_)
    · have hf := of_neg hf c2
      refine lv_iload_n hx hb dX11_twos_23 rfl (lv_at hl 1 rfl) ?_
      refine lv_iconst (v := (2 : Int32)) hx hb dX11_twos_24 (by decide) ?_
      refine lv_icmp_ne (tgt := 49) hx hb dX11_twos_25 (by decide) (fun c3 => ?_) (fun c3 => ?_)
      · have hf := of_neg hf c3
        refine lv_iconst (v := (-1 : Int32)) hx hb dX11_twos_49 (by decide) ?_
        cases hf
        exact ret_i hx hb hr hlk hK hP hD hS dX11_twos_50
      · have hf := of_pos hf c3
        refine lv_aload_n hx hb dX11_twos_28 rfl (lv_at hl 0 rfl) ?_
        obtain ⟨r_29_3, hc_r_29_3, hf⟩ := of_bnd hf
        refine cl_Vi (w2 := (wW_X11_twos G h0 h1 h2 h3 y0_3 y0_4 y0_6 y0_18 y0_21 y0_22 y0_23 y0_24 y0_25 y0_26 y0_33 y0_34 y0_38 y0_39 y0_40 y0_41 y0_42 y0_43 y0_45 y0_46 y0_47 y0_48 x0_5 x0_7 x0_8 x0_9 x0_10 x0_11 x0_12 x0_13 x0_14 x0_15 x0_16 x0_17 x0_19 x0_20 x0_27 x0_28 x0_29 x0_30 x0_31 x0_32 x0_35 x0_36 x0_37 x0_44 x0_49 x0_50 a1 a2 a3)) (As := []) (rest := []) ⟨hx, hb, hml, hown, ht0⟩ (c_X11_aloneMany l G h0 h1 h2 h3 y0_3 y0_4 y0_6 y0_18 y0_21 y0_22 y0_23 y0_24 y0_25 y0_26 y0_33 y0_34 y0_38 y0_39 y0_40 y0_41 y0_42 y0_43 y0_45 y0_46 y0_47 y0_48 _ x0_5 x0_7 x0_8 x0_9 x0_10 x0_11 x0_12 x0_13 x0_14 x0_15 x0_16 x0_17 x0_19 x0_20 x0_27 x0_28 x0_29 x0_30 x0_31 x0_32 x0_35 x0_36 x0_37 x0_44 x0_49 x0_50 a1 a2 a3 F _ hc_r_29_3) yk_X11_aloneMany wd_1853 ⟨rfl, rfl, by decide, by decide⟩ ⟨Nat.le_refl _, Nat.le_refl _⟩ hX hK hP hD hS hA [0, 1, 2, 3] [] [0, 1, 2, 3] (va_recv hK hP (ci := 11) (q0 := 0) rfl rfl) rfl rfl (by decide) rfl rfl rfl rfl rfl hl.1 rfl (Nat.le_of_ble_eq_true rfl) dX11_twos_29 (fun H locs hP hD hS => ?_)
        refine lv_aload_n hx hb dX11_twos_32 rfl (lv_at hl 0 rfl) ?_
        obtain ⟨r_33_4, hc_r_33_4, hf⟩ := of_bnd hf
        refine cl_Vi (w2 := (wW_X11_twos G h0 h1 h2 h3 y0_3 y0_4 y0_6 y0_18 y0_21 y0_22 y0_23 y0_24 y0_25 y0_26 y0_33 y0_34 y0_38 y0_39 y0_40 y0_41 y0_42 y0_43 y0_45 y0_46 y0_47 y0_48 x0_5 x0_7 x0_8 x0_9 x0_10 x0_11 x0_12 x0_13 x0_14 x0_15 x0_16 x0_17 x0_19 x0_20 x0_27 x0_28 x0_29 x0_30 x0_31 x0_32 x0_35 x0_36 x0_37 x0_44 x0_49 x0_50 a1 a2 a3)) (As := []) (rest := [.int r_29_3]) ⟨hx, hb, hml, hown, ht0⟩ (c_X11_places l G h0 h2 h3 h1 y0_3 y0_4 y0_6 y0_18 y0_21 y0_22 y0_23 y0_24 y0_25 y0_26 y0_33 y0_34 y0_38 y0_39 y0_40 y0_41 y0_42 y0_43 y0_45 y0_46 y0_47 y0_48 _ x0_5 x0_7 x0_8 x0_9 x0_10 x0_11 x0_12 x0_13 x0_14 x0_15 x0_16 x0_17 x0_19 x0_20 x0_27 x0_28 x0_29 x0_30 x0_31 x0_32 x0_35 x0_36 x0_37 x0_44 x0_49 x0_50 a2 a3 F _ hc_r_33_4) yk_X11_places wd_1572 ⟨rfl, rfl, by decide, by decide⟩ ⟨Nat.le_refl _, Nat.le_refl _⟩ hX hK hP hD hS hA [0, 2, 3] [1] [1, 0, 2, 3] (va_recv hK hP (ci := 11) (q0 := 0) rfl rfl) rfl rfl (by decide) rfl rfl rfl rfl rfl hl.1 rfl (Nat.le_of_ble_eq_true rfl) dX11_twos_33 (fun H locs hP hD hS => ?_)
        refine lv_iconst (v := (1 : Int32)) hx hb dX11_twos_36 (by decide) ?_
        refine lv_isub hx hb dX11_twos_37 ?_
        refine lv_icmp_ne (tgt := 45) hx hb dX11_twos_38 (by decide) (fun c6 => ?_) (fun c6 => ?_)
        · have hf := of_neg hf c6
          refine lv_iconst (v := (0 : Int32)) hx hb dX11_twos_45 (by decide) ?_
          refine lv_goto (tgt := 50) hx hb dX11_twos_46 (by decide) ?_
          cases hf
          exact ret_i hx hb hr hlk hK hP hD hS dX11_twos_50
        · have hf := of_pos hf c6
          refine lv_iconst (v := (1 : Int32)) hx hb dX11_twos_41 (by decide) ?_
          refine lv_goto (tgt := 50) hx hb dX11_twos_42 (by decide) ?_
          cases hf
          exact ret_i hx hb hr hlk hK hP hD hS dX11_twos_50
    · have hf := of_pos hf c2
      refine lv_aload_n hx hb dX11_twos_16 rfl (lv_at hl 0 rfl) ?_
      obtain ⟨r_17_6, hc_r_17_6, hf⟩ := of_bnd hf
      refine cl_Vi (w2 := (wW_X11_twos G h0 h1 h2 h3 y0_3 y0_4 y0_6 y0_18 y0_21 y0_22 y0_23 y0_24 y0_25 y0_26 y0_33 y0_34 y0_38 y0_39 y0_40 y0_41 y0_42 y0_43 y0_45 y0_46 y0_47 y0_48 x0_5 x0_7 x0_8 x0_9 x0_10 x0_11 x0_12 x0_13 x0_14 x0_15 x0_16 x0_17 x0_19 x0_20 x0_27 x0_28 x0_29 x0_30 x0_31 x0_32 x0_35 x0_36 x0_37 x0_44 x0_49 x0_50 a1 a2 a3)) (As := []) (rest := []) ⟨hx, hb, hml, hown, ht0⟩ (c_X11_aloneMany l G h0 h1 h2 h3 y0_3 y0_4 y0_6 y0_18 y0_21 y0_22 y0_23 y0_24 y0_25 y0_26 y0_33 y0_34 y0_38 y0_39 y0_40 y0_41 y0_42 y0_43 y0_45 y0_46 y0_47 y0_48 _ x0_5 x0_7 x0_8 x0_9 x0_10 x0_11 x0_12 x0_13 x0_14 x0_15 x0_16 x0_17 x0_19 x0_20 x0_27 x0_28 x0_29 x0_30 x0_31 x0_32 x0_35 x0_36 x0_37 x0_44 x0_49 x0_50 a1 a2 a3 F _ hc_r_17_6) yk_X11_aloneMany wd_1853 ⟨rfl, rfl, by decide, by decide⟩ ⟨Nat.le_refl _, Nat.le_refl _⟩ hX hK hP hD hS hA [0, 1, 2, 3] [] [0, 1, 2, 3] (va_recv hK hP (ci := 11) (q0 := 0) rfl rfl) rfl rfl (by decide) rfl rfl rfl rfl rfl hl.1 rfl (Nat.le_of_ble_eq_true rfl) dX11_twos_17 (fun H locs hP hD hS => ?_)
      refine lv_goto (tgt := 50) hx hb dX11_twos_20 (by decide) ?_
      cases hf
      exact ret_i hx hb hr hlk hK hP hD hS dX11_twos_50
  · have hf := of_pos hf c1
    refine lv_aload_n hx hb dX11_twos_4 rfl (lv_at hl 0 rfl) ?_
    obtain ⟨r_5_7, hc_r_5_7, hf⟩ := of_bnd hf
    refine cl_Vi (w2 := (wW_X11_twos G h0 h1 h2 h3 y0_3 y0_4 y0_6 y0_18 y0_21 y0_22 y0_23 y0_24 y0_25 y0_26 y0_33 y0_34 y0_38 y0_39 y0_40 y0_41 y0_42 y0_43 y0_45 y0_46 y0_47 y0_48 x0_5 x0_7 x0_8 x0_9 x0_10 x0_11 x0_12 x0_13 x0_14 x0_15 x0_16 x0_17 x0_19 x0_20 x0_27 x0_28 x0_29 x0_30 x0_31 x0_32 x0_35 x0_36 x0_37 x0_44 x0_49 x0_50 a1 a2 a3)) (As := []) (rest := []) ⟨hx, hb, hml, hown, ht0⟩ (c_X11_mistaken l G h0 h1 h2 h3 y0_3 y0_4 y0_6 y0_18 y0_21 y0_22 y0_23 y0_24 y0_25 y0_26 y0_33 y0_34 y0_38 y0_39 y0_40 y0_41 y0_42 y0_43 y0_45 y0_46 y0_47 y0_48 _ x0_5 x0_7 x0_8 x0_9 x0_10 x0_11 x0_12 x0_13 x0_14 x0_15 x0_16 x0_17 x0_19 x0_20 x0_27 x0_28 x0_29 x0_30 x0_31 x0_32 x0_35 x0_36 x0_37 x0_44 x0_49 x0_50 a1 a2 a3 F _ hc_r_5_7) yk_X11_mistaken wd_1849 ⟨rfl, rfl, by decide, by decide⟩ ⟨Nat.le_refl _, Nat.le_refl _⟩ hX hK hP hD hS hA [0, 1, 2, 3] [] [0, 1, 2, 3] (va_recv hK hP (ci := 11) (q0 := 0) rfl rfl) rfl rfl (by decide) rfl rfl rfl rfl rfl hl.1 rfl (Nat.le_of_ble_eq_true rfl) dX11_twos_5 (fun H locs hP hD hS => ?_)
    refine lv_goto (tgt := 50) hx hb dX11_twos_8 (by decide) ?_
    cases hf
    exact ret_i hx hb hr hlk hK hP hD hS dX11_twos_50
theorem yk_X11_twos : ykV yX11_twos RX11 cX11_twos 2 (some .int) 1 := ⟨wd_1846, wd_1847, wd_142, wd_1848, rfl, by decide +kernel, by decide +kernel, by decide +kernel⟩
