theorem dX11_mend_0 : decode cX11_mend 0 = .ok (.iload_n 1, 1) := by decide +kernel
theorem dX11_mend_1 : decode cX11_mend 1 = .ok (.invokestatic 350, 3) := by decide +kernel
theorem dX11_mend_4 : decode cX11_mend 4 = .ok (.ifCond .ne 5, 3) := by decide +kernel
theorem dX11_mend_7 : decode cX11_mend 7 = .ok (.iconst (-1), 1) := by decide +kernel
theorem dX11_mend_8 : decode cX11_mend 8 = .ok (.ireturn, 1) := by decide +kernel
theorem dX11_mend_9 : decode cX11_mend 9 = .ok (.aload_n 0, 1) := by decide +kernel
theorem dX11_mend_10 : decode cX11_mend 10 = .ok (.invokevirtual 356, 3) := by decide +kernel
theorem dX11_mend_13 : decode cX11_mend 13 = .ok (.aload_n 0, 1) := by decide +kernel
theorem dX11_mend_14 : decode cX11_mend 14 = .ok (.iload_n 1, 1) := by decide +kernel
theorem dX11_mend_15 : decode cX11_mend 15 = .ok (.invokevirtual 335, 3) := by decide +kernel
theorem dX11_mend_18 : decode cX11_mend 18 = .ok (.ireturn, 1) := by decide +kernel
def wW_X11_mend (G : GG) (h0 h1 h2 h3 h4 y0_3 y0_4 y0_6 y0_18 y0_21 y0_22 y0_23 y0_24 y0_25 y0_26 y0_33 y0_34 y0_38 y0_39 y0_40 y0_41 y0_42 y0_43 y0_45 y0_47 y0_48 : Nat) (x0_5 : Int32) (x0_7 : Int32) (x0_8 : Int32) (x0_9 : Int32) (x0_10 : Int32) (x0_11 : Int32) (x0_12 : Int32) (x0_13 : Int32) (x0_14 : Int32) (x0_15 : Int32) (x0_16 : Int32) (x0_17 : Int32) (x0_19 : Int32) (x0_20 : Int32) (x0_27 : Int32) (x0_28 : Int32) (x0_29 : Int32) (x0_30 : Int32) (x0_31 : Int32) (x0_32 : Int32) (x0_35 : Int32) (x0_36 : Int32) (x0_37 : Int32) (x0_44 : Int32) (x0_49 : Int32) (x0_50 : Int32) (a1 : Nat → Int32) (a2 : Nat → Int32) (a3 : Nat → Int32) (a4 : Nat → Int32) : va_W := [(h0, .inr (11, [.ref h1, .ref h2, .ref h3, .ref y0_3, .ref y0_4, .int x0_5, .ref y0_6, .int x0_7, .int x0_8, .int x0_9, .int x0_10, .int x0_11, .int x0_12, .int x0_13, .int x0_14, .int x0_15, .int x0_16, .int x0_17, .ref y0_18, .int x0_19, .int x0_20, .ref y0_21, .ref y0_22, .ref y0_23, .ref y0_24, .ref y0_25, .ref y0_26, .int x0_27, .int x0_28, .int x0_29, .int x0_30, .int x0_31, .int x0_32, .ref y0_33, .ref y0_34, .int x0_35, .int x0_36, .int x0_37, .ref y0_38, .ref y0_39, .ref y0_40, .ref y0_41, .ref y0_42, .ref y0_43, .int x0_44, .ref y0_45, .ref h4, .ref y0_47, .ref y0_48, .int x0_49, .int x0_50])), (h1, .inl (G.2.1, 121, .inl a1)), (h2, .inl (G.2.1, 2, .inl a2)), (h3, .inl (G.2.1, 2, .inl a3)), (h4, .inl (G.2.1, 1573, .inl a4))]
set_option maxHeartbeats 4000000 in
set_option maxRecDepth 100000 in
theorem c_X11_mend (l : Launch) (G : GG) (h0 h1 h2 h3 h4 y0_3 y0_4 y0_6 y0_18 y0_21 y0_22 y0_23 y0_24 y0_25 y0_26 y0_33 y0_34 y0_38 y0_39 y0_40 y0_41 y0_42 y0_43 y0_45 y0_47 y0_48 : Nat) (sz : Nat) (x0_5 : Int32) (x0_7 : Int32) (x0_8 : Int32) (x0_9 : Int32) (x0_10 : Int32) (x0_11 : Int32) (x0_12 : Int32) (x0_13 : Int32) (x0_14 : Int32) (x0_15 : Int32) (x0_16 : Int32) (x0_17 : Int32) (x0_19 : Int32) (x0_20 : Int32) (x0_27 : Int32) (x0_28 : Int32) (x0_29 : Int32) (x0_30 : Int32) (x0_31 : Int32) (x0_32 : Int32) (x0_35 : Int32) (x0_36 : Int32) (x0_37 : Int32) (x0_44 : Int32) (x0_49 : Int32) (x0_50 : Int32) (a1 : Nat → Int32) (a2 : Nat → Int32) (a3 : Nat → Int32) (a4 : Nat → Int32) (F : Nat) (b1 : Int32)  (r0 : Int32) (e_x0_29 : Int32) (e_x0_30 : Int32) (e_x0_31 : Int32) (e_x0_32 : Int32) (e_x0_49 : Int32) (e_x0_50 : Int32) (e_a1 : Nat → Int32) (e_a4 : Nat → Int32) (hf : p_X11_mend F x0_5 x0_29 x0_30 x0_31 x0_32 x0_49 x0_50 a1 a2 a3 a4 b1 = some (r0, e_x0_29, e_x0_30, e_x0_31, e_x0_32, e_x0_49, e_x0_50, e_a1, e_a4)) : Met l yX11_mend (.code yX11_mend cX11_mend 2 (some .int) :: gtbl) ({ frames := 8, cells := 0, slots := 0, locals := 185 } : Room) (PcS G [.ref h0, .int b1] (wW_X11_mend G h0 h1 h2 h3 h4 y0_3 y0_4 y0_6 y0_18 y0_21 y0_22 y0_23 y0_24 y0_25 y0_26 y0_33 y0_34 y0_38 y0_39 y0_40 y0_41 y0_42 y0_43 y0_45 y0_47 y0_48 x0_5 x0_7 x0_8 x0_9 x0_10 x0_11 x0_12 x0_13 x0_14 x0_15 x0_16 x0_17 x0_19 x0_20 x0_27 x0_28 x0_29 x0_30 x0_31 x0_32 x0_35 x0_36 x0_37 x0_44 x0_49 x0_50 a1 a2 a3 a4) sz) (QiS G r0 (va_A (wW_X11_mend G h0 h1 h2 h3 h4 y0_3 y0_4 y0_6 y0_18 y0_21 y0_22 y0_23 y0_24 y0_25 y0_26 y0_33 y0_34 y0_38 y0_39 y0_40 y0_41 y0_42 y0_43 y0_45 y0_47 y0_48 x0_5 x0_7 x0_8 x0_9 x0_10 x0_11 x0_12 x0_13 x0_14 x0_15 x0_16 x0_17 x0_19 x0_20 x0_27 x0_28 x0_29 x0_30 x0_31 x0_32 x0_35 x0_36 x0_37 x0_44 x0_49 x0_50 a1 a2 a3 a4) sz) (wW_X11_mend G h0 h1 h2 h3 h4 y0_3 y0_4 y0_6 y0_18 y0_21 y0_22 y0_23 y0_24 y0_25 y0_26 y0_33 y0_34 y0_38 y0_39 y0_40 y0_41 y0_42 y0_43 y0_45 y0_47 y0_48 x0_5 x0_7 x0_8 x0_9 x0_10 x0_11 x0_12 x0_13 x0_14 x0_15 x0_16 x0_17 x0_19 x0_20 x0_27 x0_28 e_x0_29 e_x0_30 e_x0_31 e_x0_32 x0_35 x0_36 x0_37 x0_44 e_x0_49 e_x0_50 e_a1 a2 a3 e_a4)) 0 0 (va_A (wW_X11_mend G h0 h1 h2 h3 h4 y0_3 y0_4 y0_6 y0_18 y0_21 y0_22 y0_23 y0_24 y0_25 y0_26 y0_33 y0_34 y0_38 y0_39 y0_40 y0_41 y0_42 y0_43 y0_45 y0_47 y0_48 x0_5 x0_7 x0_8 x0_9 x0_10 x0_11 x0_12 x0_13 x0_14 x0_15 x0_16 x0_17 x0_19 x0_20 x0_27 x0_28 x0_29 x0_30 x0_31 x0_32 x0_35 x0_36 x0_37 x0_44 x0_49 x0_50 a1 a2 a3 a4) sz) := by
  refine met_start (by decide) (Nat.le_of_ble_eq_true rfl) ?_
  intro p e s m below meth c hC hr hlk hnm hK hP hD hA hS hX ls hl
  obtain ⟨hx, hb, hml, hown, ht0⟩ := hC
  have hown : s.vm.findClass RX11 = some m.cls := hown
  generalize va_A (wW_X11_mend G h0 h1 h2 h3 h4 y0_3 y0_4 y0_6 y0_18 y0_21 y0_22 y0_23 y0_24 y0_25 y0_26 y0_33 y0_34 y0_38 y0_39 y0_40 y0_41 y0_42 y0_43 y0_45 y0_47 y0_48 x0_5 x0_7 x0_8 x0_9 x0_10 x0_11 x0_12 x0_13 x0_14 x0_15 x0_16 x0_17 x0_19 x0_20 x0_27 x0_28 x0_29 x0_30 x0_31 x0_32 x0_35 x0_36 x0_37 x0_44 x0_49 x0_50 a1 a2 a3 a4) sz = A at hD hA hS hX ⊢
  have hl : lv_has ls 2 [(0, .ref h0), (1, .int b1)] := hl
  have hf : p_X11_mend F x0_5 x0_29 x0_30 x0_31 x0_32 x0_49 x0_50 a1 a2 a3 a4 b1 = some (r0, e_x0_29, e_x0_30, e_x0_31, e_x0_32, e_x0_49, e_x0_50, e_a1, e_a4) := hf
  refine lv_iload_n hx hb dX11_mend_0 rfl (lv_at hl 1 rfl) ?_
  obtain ⟨r_1_0, hc_r_1_0, hf⟩ := of_bnd hf
  refine cl_Si (w2 := (wW_X11_mend G h0 h1 h2 h3 h4 y0_3 y0_4 y0_6 y0_18 y0_21 y0_22 y0_23 y0_24 y0_25 y0_26 y0_33 y0_34 y0_38 y0_39 y0_40 y0_41 y0_42 y0_43 y0_45 y0_47 y0_48 x0_5 x0_7 x0_8 x0_9 x0_10 x0_11 x0_12 x0_13 x0_14 x0_15 x0_16 x0_17 x0_19 x0_20 x0_27 x0_28 x0_29 x0_30 x0_31 x0_32 x0_35 x0_36 x0_37 x0_44 x0_49 x0_50 a1 a2 a3 a4)) (As := [.int b1]) (rest := []) ⟨hx, hb, hml, hown, ht0⟩ (c_X11_isWordAt l G _ F b1 _ hc_r_1_0) yk_X11_isWordAt wd_1588 ⟨rfl, rfl, by decide, by decide⟩ ⟨Nat.le_refl _, Nat.le_refl _⟩ hX hK hP hD hS hA [] [0, 1, 2, 3, 4] [0, 1, 2, 3, 4] rfl rfl (by decide) rfl rfl rfl rfl rfl hl.1 rfl (Nat.le_of_ble_eq_true rfl) dX11_mend_1 (fun H locs hP hD hS => ?_)
  refine lv_if_ne (tgt := 9) hx hb dX11_mend_4 (by decide) (fun c2 => ?_) (fun c2 => ?_)
  · have hf := of_neg hf c2
    refine lv_aload_n hx hb dX11_mend_9 rfl (lv_at hl 0 rfl) ?_
    obtain ⟨⟨r_10_2_x0_49, r_10_2_x0_50, r_10_2_a2⟩, hc_r_10_2, hf⟩ := of_bnd hf
    refine cl_Vv (w2 := (wW_X11_mend G h0 h1 h2 h3 h4 y0_3 y0_4 y0_6 y0_18 y0_21 y0_22 y0_23 y0_24 y0_25 y0_26 y0_33 y0_34 y0_38 y0_39 y0_40 y0_41 y0_42 y0_43 y0_45 y0_47 y0_48 x0_5 x0_7 x0_8 x0_9 x0_10 x0_11 x0_12 x0_13 x0_14 x0_15 x0_16 x0_17 x0_19 x0_20 x0_27 x0_28 x0_29 x0_30 x0_31 x0_32 x0_35 x0_36 x0_37 x0_44 r_10_2_x0_49 r_10_2_x0_50 a1 a2 a3 r_10_2_a2)) (As := []) (rest := []) ⟨hx, hb, hml, hown, ht0⟩ (c_X11_keepAct l G h0 h1 h4 h2 h3 y0_3 y0_4 y0_6 y0_18 y0_21 y0_22 y0_23 y0_24 y0_25 y0_26 y0_33 y0_34 y0_38 y0_39 y0_40 y0_41 y0_42 y0_43 y0_45 y0_47 y0_48 _ x0_5 x0_7 x0_8 x0_9 x0_10 x0_11 x0_12 x0_13 x0_14 x0_15 x0_16 x0_17 x0_19 x0_20 x0_27 x0_28 x0_29 x0_30 x0_31 x0_32 x0_35 x0_36 x0_37 x0_44 x0_49 x0_50 a1 a4 F _ _ _ hc_r_10_2) yk_X11_keepAct wd_1595 ⟨rfl, rfl, by decide, by decide⟩ ⟨Nat.le_refl _, Nat.le_refl _⟩ hX hK hP hD hS hA [0, 1, 4] [2, 3] [2, 3, 0, 1, 4] (va_recv hK hP (ci := 11) (q0 := 0) rfl rfl) rfl rfl (by decide) rfl rfl rfl rfl rfl hl.1 rfl (Nat.le_of_ble_eq_true rfl) dX11_mend_10 (fun H locs hP hD hS => ?_)
    refine lv_aload_n hx hb dX11_mend_13 rfl (lv_at hl 0 rfl) ?_
    refine lv_iload_n hx hb dX11_mend_14 rfl (lv_at hl 1 rfl) ?_
    obtain ⟨⟨r_15_3, r_15_3_x0_29, r_15_3_x0_30, r_15_3_x0_31, r_15_3_x0_32, r_15_3_a1⟩, hc_r_15_3, hf⟩ := of_bnd hf
    refine cl_Vi (w2 := (wW_X11_mend G h0 h1 h2 h3 h4 y0_3 y0_4 y0_6 y0_18 y0_21 y0_22 y0_23 y0_24 y0_25 y0_26 y0_33 y0_34 y0_38 y0_39 y0_40 y0_41 y0_42 y0_43 y0_45 y0_47 y0_48 x0_5 x0_7 x0_8 x0_9 x0_10 x0_11 x0_12 x0_13 x0_14 x0_15 x0_16 x0_17 x0_19 x0_20 x0_27 x0_28 r_15_3_x0_29 r_15_3_x0_30 r_15_3_x0_31 r_15_3_x0_32 x0_35 x0_36 x0_37 x0_44 r_10_2_x0_49 r_10_2_x0_50 r_15_3_a1 a2 a3 r_10_2_a2)) (As := [.int b1]) (rest := []) ⟨hx, hb, hml, hown, ht0⟩ (c_X11_mendNow l G h0 h1 h2 h3 y0_3 y0_4 y0_6 y0_18 y0_21 y0_22 y0_23 y0_24 y0_25 y0_26 y0_33 y0_34 y0_38 y0_39 y0_40 y0_41 y0_42 y0_43 y0_45 h4 y0_47 y0_48 _ x0_5 x0_7 x0_8 x0_9 x0_10 x0_11 x0_12 x0_13 x0_14 x0_15 x0_16 x0_17 x0_19 x0_20 x0_27 x0_28 x0_29 x0_30 x0_31 x0_32 x0_35 x0_36 x0_37 x0_44 r_10_2_x0_49 r_10_2_x0_50 a1 a2 a3 F b1 _ _ _ _ _ _ hc_r_15_3) yk_X11_mendNow wd_1675 ⟨rfl, rfl, by decide, by decide⟩ ⟨Nat.le_refl _, Nat.le_refl _⟩ hX hK hP hD hS hA [0, 1, 2, 3] [4] [1, 2, 3, 4, 0] (va_recv hK hP (ci := 11) (q0 := 0) rfl rfl) rfl rfl (by decide) rfl rfl rfl rfl rfl hl.1 rfl (Nat.le_of_ble_eq_true rfl) dX11_mend_15 (fun H locs hP hD hS => ?_)
    cases hf
    exact ret_i hx hb hr hlk hK hP hD hS dX11_mend_18
  · have hf := of_pos hf c2
    refine lv_iconst (v := (-1 : Int32)) hx hb dX11_mend_7 (by decide) ?_
    cases hf
    exact ret_i hx hb hr hlk hK hP hD hS dX11_mend_8
theorem yk_X11_mend : ykV yX11_mend RX11 cX11_mend 2 (some .int) 1 := ⟨wd_1672, wd_1673, wd_142, wd_1674, rfl, by decide +kernel, by decide +kernel, by decide +kernel⟩
theorem dX11_scrub_0 : decode cX11_scrub 0 = .ok (.aload_n 0, 1) := by decide +kernel
theorem dX11_scrub_1 : decode cX11_scrub 1 = .ok (.invokevirtual 356, 3) := by decide +kernel
theorem dX11_scrub_4 : decode cX11_scrub 4 = .ok (.aload_n 0, 1) := by decide +kernel
theorem dX11_scrub_5 : decode cX11_scrub 5 = .ok (.invokevirtual 344, 3) := by decide +kernel
theorem dX11_scrub_8 : decode cX11_scrub 8 = .ok (.ireturn, 1) := by decide +kernel
def wW_X11_scrub (G : GG) (h0 h1 h2 h3 h4 y0_3 y0_4 y0_6 y0_18 y0_21 y0_22 y0_23 y0_24 y0_25 y0_26 y0_33 y0_34 y0_38 y0_39 y0_40 y0_41 y0_42 y0_43 y0_45 y0_47 y0_48 : Nat) (x0_5 : Int32) (x0_7 : Int32) (x0_8 : Int32) (x0_9 : Int32) (x0_10 : Int32) (x0_11 : Int32) (x0_12 : Int32) (x0_13 : Int32) (x0_14 : Int32) (x0_15 : Int32) (x0_16 : Int32) (x0_17 : Int32) (x0_19 : Int32) (x0_20 : Int32) (x0_27 : Int32) (x0_28 : Int32) (x0_29 : Int32) (x0_30 : Int32) (x0_31 : Int32) (x0_32 : Int32) (x0_35 : Int32) (x0_36 : Int32) (x0_37 : Int32) (x0_44 : Int32) (x0_49 : Int32) (x0_50 : Int32) (a1 : Nat → Int32) (a2 : Nat → Int32) (a3 : Nat → Int32) (a4 : Nat → Int32) : va_W := [(h0, .inr (11, [.ref h1, .ref h2, .ref h3, .ref y0_3, .ref y0_4, .int x0_5, .ref y0_6, .int x0_7, .int x0_8, .int x0_9, .int x0_10, .int x0_11, .int x0_12, .int x0_13, .int x0_14, .int x0_15, .int x0_16, .int x0_17, .ref y0_18, .int x0_19, .int x0_20, .ref y0_21, .ref y0_22, .ref y0_23, .ref y0_24, .ref y0_25, .ref y0_26, .int x0_27, .int x0_28, .int x0_29, .int x0_30, .int x0_31, .int x0_32, .ref y0_33, .ref y0_34, .int x0_35, .int x0_36, .int x0_37, .ref y0_38, .ref y0_39, .ref y0_40, .ref y0_41, .ref y0_42, .ref y0_43, .int x0_44, .ref y0_45, .ref h4, .ref y0_47, .ref y0_48, .int x0_49, .int x0_50])), (h1, .inl (G.2.1, 121, .inl a1)), (h2, .inl (G.2.1, 2, .inl a2)), (h3, .inl (G.2.1, 2, .inl a3)), (h4, .inl (G.2.1, 1573, .inl a4))]
set_option maxHeartbeats 4000000 in
set_option maxRecDepth 100000 in
theorem c_X11_scrub (l : Launch) (G : GG) (h0 h1 h2 h3 h4 y0_3 y0_4 y0_6 y0_18 y0_21 y0_22 y0_23 y0_24 y0_25 y0_26 y0_33 y0_34 y0_38 y0_39 y0_40 y0_41 y0_42 y0_43 y0_45 y0_47 y0_48 : Nat) (sz : Nat) (x0_5 : Int32) (x0_7 : Int32) (x0_8 : Int32) (x0_9 : Int32) (x0_10 : Int32) (x0_11 : Int32) (x0_12 : Int32) (x0_13 : Int32) (x0_14 : Int32) (x0_15 : Int32) (x0_16 : Int32) (x0_17 : Int32) (x0_19 : Int32) (x0_20 : Int32) (x0_27 : Int32) (x0_28 : Int32) (x0_29 : Int32) (x0_30 : Int32) (x0_31 : Int32) (x0_32 : Int32) (x0_35 : Int32) (x0_36 : Int32) (x0_37 : Int32) (x0_44 : Int32) (x0_49 : Int32) (x0_50 : Int32) (a1 : Nat → Int32) (a2 : Nat → Int32) (a3 : Nat → Int32) (a4 : Nat → Int32) (F : Nat)   (r0 : Int32) (e_x0_29 : Int32) (e_x0_30 : Int32) (e_x0_31 : Int32) (e_x0_32 : Int32) (e_x0_49 : Int32) (e_x0_50 : Int32) (e_a1 : Nat → Int32) (e_a4 : Nat → Int32) (hf : p_X11_scrub F x0_5 x0_29 x0_30 x0_31 x0_32 x0_49 x0_50 a1 a2 a3 a4  = some (r0, e_x0_29, e_x0_30, e_x0_31, e_x0_32, e_x0_49, e_x0_50, e_a1, e_a4)) : Met l yX11_scrub (.code yX11_scrub cX11_scrub 1 (some .int) :: gtbl) ({ frames := 9, cells := 0, slots := 0, locals := 208 } : Room) (PcS G [.ref h0] (wW_X11_scrub G h0 h1 h2 h3 h4 y0_3 y0_4 y0_6 y0_18 y0_21 y0_22 y0_23 y0_24 y0_25 y0_26 y0_33 y0_34 y0_38 y0_39 y0_40 y0_41 y0_42 y0_43 y0_45 y0_47 y0_48 x0_5 x0_7 x0_8 x0_9 x0_10 x0_11 x0_12 x0_13 x0_14 x0_15 x0_16 x0_17 x0_19 x0_20 x0_27 x0_28 x0_29 x0_30 x0_31 x0_32 x0_35 x0_36 x0_37 x0_44 x0_49 x0_50 a1 a2 a3 a4) sz) (QiS G r0 (va_A (wW_X11_scrub G h0 h1 h2 h3 h4 y0_3 y0_4 y0_6 y0_18 y0_21 y0_22 y0_23 y0_24 y0_25 y0_26 y0_33 y0_34 y0_38 y0_39 y0_40 y0_41 y0_42 y0_43 y0_45 y0_47 y0_48 x0_5 x0_7 x0_8 x0_9 x0_10 x0_11 x0_12 x0_13 x0_14 x0_15 x0_16 x0_17 x0_19 x0_20 x0_27 x0_28 x0_29 x0_30 x0_31 x0_32 x0_35 x0_36 x0_37 x0_44 x0_49 x0_50 a1 a2 a3 a4) sz) (wW_X11_scrub G h0 h1 h2 h3 h4 y0_3 y0_4 y0_6 y0_18 y0_21 y0_22 y0_23 y0_24 y0_25 y0_26 y0_33 y0_34 y0_38 y0_39 y0_40 y0_41 y0_42 y0_43 y0_45 y0_47 y0_48 x0_5 x0_7 x0_8 x0_9 x0_10 x0_11 x0_12 x0_13 x0_14 x0_15 x0_16 x0_17 x0_19 x0_20 x0_27 x0_28 e_x0_29 e_x0_30 e_x0_31 e_x0_32 x0_35 x0_36 x0_37 x0_44 e_x0_49 e_x0_50 e_a1 a2 a3 e_a4)) 0 0 (va_A (wW_X11_scrub G h0 h1 h2 h3 h4 y0_3 y0_4 y0_6 y0_18 y0_21 y0_22 y0_23 y0_24 y0_25 y0_26 y0_33 y0_34 y0_38 y0_39 y0_40 y0_41 y0_42 y0_43 y0_45 y0_47 y0_48 x0_5 x0_7 x0_8 x0_9 x0_10 x0_11 x0_12 x0_13 x0_14 x0_15 x0_16 x0_17 x0_19 x0_20 x0_27 x0_28 x0_29 x0_30 x0_31 x0_32 x0_35 x0_36 x0_37 x0_44 x0_49 x0_50 a1 a2 a3 a4) sz) := by
  refine met_start (by decide) (Nat.le_of_ble_eq_true rfl) ?_
  intro p e s m below meth c hC hr hlk hnm hK hP hD hA hS hX ls hl
  obtain ⟨hx, hb, hml, hown, ht0⟩ := hC
  have hown : s.vm.findClass RX11 = some m.cls := hown
  generalize va_A (wW_X11_scrub G h0 h1 h2 h3 h4 y0_3 y0_4 y0_6 y0_18 y0_21 y0_22 y0_23 y0_24 y0_25 y0_26 y0_33 y0_34 y0_38 y0_39 y0_40 y0_41 y0_42 y0_43 y0_45 y0_47 y0_48 x0_5 x0_7 x0_8 x0_9 x0_10 x0_11 x0_12 x0_13 x0_14 x0_15 x0_16 x0_17 x0_19 x0_20 x0_27 x0_28 x0_29 x0_30 x0_31 x0_32 x0_35 x0_36 x0_37 x0_44 x0_49 x0_50 a1 a2 a3 a4) sz = A at hD hA hS hX ⊢
  have hl : lv_has ls 1 [(0, .ref h0)] := hl
  have hf : p_X11_scrub F x0_5 x0_29 x0_30 x0_31 x0_32 x0_49 x0_50 a1 a2 a3 a4  = some (r0, e_x0_29, e_x0_30, e_x0_31, e_x0_32, e_x0_49, e_x0_50, e_a1, e_a4) := hf
  refine lv_aload_n hx hb dX11_scrub_0 rfl (lv_at hl 0 rfl) ?_
  obtain ⟨⟨r_1_0_x0_49, r_1_0_x0_50, r_1_0_a2⟩, hc_r_1_0, hf⟩ := of_bnd hf
  refine cl_Vv (w2 := (wW_X11_scrub G h0 h1 h2 h3 h4 y0_3 y0_4 y0_6 y0_18 y0_21 y0_22 y0_23 y0_24 y0_25 y0_26 y0_33 y0_34 y0_38 y0_39 y0_40 y0_41 y0_42 y0_43 y0_45 y0_47 y0_48 x0_5 x0_7 x0_8 x0_9 x0_10 x0_11 x0_12 x0_13 x0_14 x0_15 x0_16 x0_17 x0_19 x0_20 x0_27 x0_28 x0_29 x0_30 x0_31 x0_32 x0_35 x0_36 x0_37 x0_44 r_1_0_x0_49 r_1_0_x0_50 a1 a2 a3 r_1_0_a2)) (As := []) (rest := []) ⟨hx, hb, hml, hown, ht0⟩ (c_X11_keepAct l G h0 h1 h4 h2 h3 y0_3 y0_4 y0_6 y0_18 y0_21 y0_22 y0_23 y0_24 y0_25 y0_26 y0_33 y0_34 y0_38 y0_39 y0_40 y0_41 y0_42 y0_43 y0_45 y0_47 y0_48 _ x0_5 x0_7 x0_8 x0_9 x0_10 x0_11 x0_12 x0_13 x0_14 x0_15 x0_16 x0_17 x0_19 x0_20 x0_27 x0_28 x0_29 x0_30 x0_31 x0_32 x0_35 x0_36 x0_37 x0_44 x0_49 x0_50 a1 a4 F _ _ _ hc_r_1_0) yk_X11_keepAct wd_1595 ⟨rfl, rfl, by decide, by decide⟩ ⟨Nat.le_refl _, Nat.le_refl _⟩ hX hK hP hD hS hA [0, 1, 4] [2, 3] [2, 3, 0, 1, 4] (va_recv hK hP (ci := 11) (q0 := 0) rfl rfl) rfl rfl (by decide) rfl rfl rfl rfl rfl hl.1 rfl (Nat.le_of_ble_eq_true rfl) dX11_scrub_1 (fun H locs hP hD hS => ?_)
  refine lv_aload_n hx hb dX11_scrub_4 rfl (lv_at hl 0 rfl) ?_
  obtain ⟨⟨r_5_1, r_5_1_x0_29, r_5_1_x0_30, r_5_1_x0_31, r_5_1_x0_32, r_5_1_a1⟩, hc_r_5_1, hf⟩ := of_bnd hf
  refine cl_Vi (w2 := (wW_X11_scrub G h0 h1 h2 h3 h4 y0_3 y0_4 y0_6 y0_18 y0_21 y0_22 y0_23 y0_24 y0_25 y0_26 y0_33 y0_34 y0_38 y0_39 y0_40 y0_41 y0_42 y0_43 y0_45 y0_47 y0_48 x0_5 x0_7 x0_8 x0_9 x0_10 x0_11 x0_12 x0_13 x0_14 x0_15 x0_16 x0_17 x0_19 x0_20 x0_27 x0_28 r_5_1_x0_29 r_5_1_x0_30 r_5_1_x0_31 r_5_1_x0_32 x0_35 x0_36 x0_37 x0_44 r_1_0_x0_49 r_1_0_x0_50 r_5_1_a1 a2 a3 r_1_0_a2)) (As := []) (rest := []) ⟨hx, hb, hml, hown, ht0⟩ (c_X11_scrubNow l G h0 h1 h2 h3 y0_3 y0_4 y0_6 y0_18 y0_21 y0_22 y0_23 y0_24 y0_25 y0_26 y0_33 y0_34 y0_38 y0_39 y0_40 y0_41 y0_42 y0_43 y0_45 h4 y0_47 y0_48 _ x0_5 x0_7 x0_8 x0_9 x0_10 x0_11 x0_12 x0_13 x0_14 x0_15 x0_16 x0_17 x0_19 x0_20 x0_27 x0_28 x0_29 x0_30 x0_31 x0_32 x0_35 x0_36 x0_37 x0_44 r_1_0_x0_49 r_1_0_x0_50 a1 a2 a3 F _ _ _ _ _ _ hc_r_5_1) yk_X11_scrubNow wd_1683 ⟨rfl, rfl, by decide, by decide⟩ ⟨Nat.le_refl _, Nat.le_refl _⟩ hX hK hP hD hS hA [0, 1, 2, 3] [4] [1, 2, 3, 4, 0] (va_recv hK hP (ci := 11) (q0 := 0) rfl rfl) rfl rfl (by decide) rfl rfl rfl rfl rfl hl.1 rfl (Nat.le_of_ble_eq_true rfl) dX11_scrub_5 (fun H locs hP hD hS => ?_)
  cases hf
  exact ret_i hx hb hr hlk hK hP hD hS dX11_scrub_8
theorem yk_X11_scrub : ykV yX11_scrub RX11 cX11_scrub 1 (some .int) 0 := ⟨wd_1680, wd_1681, wd_142, wd_1682, rfl, by decide +kernel, by decide +kernel, by decide +kernel⟩
theorem dX11_slip_0 : decode cX11_slip 0 = .ok (.iload_n 1, 1) := by decide +kernel
theorem dX11_slip_1 : decode cX11_slip 1 = .ok (.invokestatic 350, 3) := by decide +kernel
theorem dX11_slip_4 : decode cX11_slip 4 = .ok (.ifCond .eq 11, 3) := by decide +kernel
theorem dX11_slip_7 : decode cX11_slip 7 = .ok (.aload_n 0, 1) := by decide +kernel
theorem dX11_slip_8 : decode cX11_slip 8 = .ok (.iload_n 2, 1) := by decide +kernel
theorem dX11_slip_9 : decode cX11_slip 9 = .ok (.invokevirtual 359, 3) := by decide +kernel
theorem dX11_slip_12 : decode cX11_slip 12 = .ok (.ifCond .ne 5, 3) := by decide +kernel
theorem dX11_slip_15 : decode cX11_slip 15 = .ok (.iconst (-1), 1) := by decide +kernel
theorem dX11_slip_16 : decode cX11_slip 16 = .ok (.ireturn, 1) := by decide +kernel
theorem dX11_slip_17 : decode cX11_slip 17 = .ok (.aload_n 0, 1) := by decide +kernel
theorem dX11_slip_18 : decode cX11_slip 18 = .ok (.invokevirtual 356, 3) := by decide +kernel
theorem dX11_slip_21 : decode cX11_slip 21 = .ok (.aload_n 0, 1) := by decide +kernel
theorem dX11_slip_22 : decode cX11_slip 22 = .ok (.iload_n 1, 1) := by decide +kernel
theorem dX11_slip_23 : decode cX11_slip 23 = .ok (.iload_n 2, 1) := by decide +kernel
theorem dX11_slip_24 : decode cX11_slip 24 = .ok (.invokevirtual 341, 3) := by decide +kernel
theorem dX11_slip_27 : decode cX11_slip 27 = .ok (.aload_n 0, 1) := by decide +kernel
theorem dX11_slip_28 : decode cX11_slip 28 = .ok (.iload_n 1, 1) := by decide +kernel
theorem dX11_slip_29 : decode cX11_slip 29 = .ok (.iload_n 2, 1) := by decide +kernel
theorem dX11_slip_30 : decode cX11_slip 30 = .ok (.invokevirtual 275, 3) := by decide +kernel
theorem dX11_slip_33 : decode cX11_slip 33 = .ok (.ireturn, 1) := by decide +kernel
def wW_X11_slip (G : GG) (h0 h1 h2 h3 h4 y0_3 y0_4 y0_6 y0_18 y0_21 y0_22 y0_23 y0_24 y0_25 y0_26 y0_33 y0_34 y0_38 y0_39 y0_40 y0_41 y0_42 y0_43 y0_45 y0_47 y0_48 : Nat) (x0_5 : Int32) (x0_7 : Int32) (x0_8 : Int32) (x0_9 : Int32) (x0_10 : Int32) (x0_11 : Int32) (x0_12 : Int32) (x0_13 : Int32) (x0_14 : Int32) (x0_15 : Int32) (x0_16 : Int32) (x0_17 : Int32) (x0_19 : Int32) (x0_20 : Int32) (x0_27 : Int32) (x0_28 : Int32) (x0_29 : Int32) (x0_30 : Int32) (x0_31 : Int32) (x0_32 : Int32) (x0_35 : Int32) (x0_36 : Int32) (x0_37 : Int32) (x0_44 : Int32) (x0_49 : Int32) (x0_50 : Int32) (a1 : Nat → Int32) (a2 : Nat → Int32) (a3 : Nat → Int32) (a4 : Nat → Int32) : va_W := [(h0, .inr (11, [.ref h1, .ref h2, .ref h3, .ref y0_3, .ref y0_4, .int x0_5, .ref y0_6, .int x0_7, .int x0_8, .int x0_9, .int x0_10, .int x0_11, .int x0_12, .int x0_13, .int x0_14, .int x0_15, .int x0_16, .int x0_17, .ref y0_18, .int x0_19, .int x0_20, .ref y0_21, .ref y0_22, .ref y0_23, .ref y0_24, .ref y0_25, .ref y0_26, .int x0_27, .int x0_28, .int x0_29, .int x0_30, .int x0_31, .int x0_32, .ref y0_33, .ref y0_34, .int x0_35, .int x0_36, .int x0_37, .ref y0_38, .ref y0_39, .ref y0_40, .ref y0_41, .ref y0_42, .ref y0_43, .int x0_44, .ref y0_45, .ref h4, .ref y0_47, .ref y0_48, .int x0_49, .int x0_50])), (h1, .inl (G.2.1, 121, .inl a1)), (h2, .inl (G.2.1, 2, .inl a2)), (h3, .inl (G.2.1, 2, .inl a3)), (h4, .inl (G.2.1, 1573, .inl a4))]
set_option maxHeartbeats 4000000 in
set_option maxRecDepth 100000 in
theorem c_X11_slip (l : Launch) (G : GG) (h0 h1 h2 h3 h4 y0_3 y0_4 y0_6 y0_18 y0_21 y0_22 y0_23 y0_24 y0_25 y0_26 y0_33 y0_34 y0_38 y0_39 y0_40 y0_41 y0_42 y0_43 y0_45 y0_47 y0_48 : Nat) (sz : Nat) (x0_5 : Int32) (x0_7 : Int32) (x0_8 : Int32) (x0_9 : Int32) (x0_10 : Int32) (x0_11 : Int32) (x0_12 : Int32) (x0_13 : Int32) (x0_14 : Int32) (x0_15 : Int32) (x0_16 : Int32) (x0_17 : Int32) (x0_19 : Int32) (x0_20 : Int32) (x0_27 : Int32) (x0_28 : Int32) (x0_29 : Int32) (x0_30 : Int32) (x0_31 : Int32) (x0_32 : Int32) (x0_35 : Int32) (x0_36 : Int32) (x0_37 : Int32) (x0_44 : Int32) (x0_49 : Int32) (x0_50 : Int32) (a1 : Nat → Int32) (a2 : Nat → Int32) (a3 : Nat → Int32) (a4 : Nat → Int32) (F : Nat) (b1 : Int32) (b2 : Int32)  (r0 : Int32) (e_x0_49 : Int32) (e_x0_50 : Int32) (e_a1 : Nat → Int32) (e_a4 : Nat → Int32) (hf : p_X11_slip F x0_5 x0_49 x0_50 a1 a2 a3 a4 b1 b2 = some (r0, e_x0_49, e_x0_50, e_a1, e_a4)) : Met l yX11_slip (.code yX11_slip cX11_slip 3 (some .int) :: gtbl) ({ frames := 5, cells := 0, slots := 0, locals := 110 } : Room) (PcS G [.ref h0, .int b1, .int b2] (wW_X11_slip G h0 h1 h2 h3 h4 y0_3 y0_4 y0_6 y0_18 y0_21 y0_22 y0_23 y0_24 y0_25 y0_26 y0_33 y0_34 y0_38 y0_39 y0_40 y0_41 y0_42 y0_43 y0_45 y0_47 y0_48 x0_5 x0_7 x0_8 x0_9 x0_10 x0_11 x0_12 x0_13 x0_14 x0_15 x0_16 x0_17 x0_19 x0_20 x0_27 x0_28 x0_29 x0_30 x0_31 x0_32 x0_35 x0_36 x0_37 x0_44 x0_49 x0_50 a1 a2 a3 a4) sz) (QiS G r0 (va_A (wW_X11_slip G h0 h1 h2 h3 h4 y0_3 y0_4 y0_6 y0_18 y0_21 y0_22 y0_23 y0_24 y0_25 y0_26 y0_33 y0_34 y0_38 y0_39 y0_40 y0_41 y0_42 y0_43 y0_45 y0_47 y0_48 x0_5 x0_7 x0_8 x0_9 x0_10 x0_11 x0_12 x0_13 x0_14 x0_15 x0_16 x0_17 x0_19 x0_20 x0_27 x0_28 x0_29 x0_30 x0_31 x0_32 x0_35 x0_36 x0_37 x0_44 x0_49 x0_50 a1 a2 a3 a4) sz) (wW_X11_slip G h0 h1 h2 h3 h4 y0_3 y0_4 y0_6 y0_18 y0_21 y0_22 y0_23 y0_24 y0_25 y0_26 y0_33 y0_34 y0_38 y0_39 y0_40 y0_41 y0_42 y0_43 y0_45 y0_47 y0_48 x0_5 x0_7 x0_8 x0_9 x0_10 x0_11 x0_12 x0_13 x0_14 x0_15 x0_16 x0_17 x0_19 x0_20 x0_27 x0_28 x0_29 x0_30 x0_31 x0_32 x0_35 x0_36 x0_37 x0_44 e_x0_49 e_x0_50 e_a1 a2 a3 e_a4)) 0 0 (va_A (wW_X11_slip G h0 h1 h2 h3 h4 y0_3 y0_4 y0_6 y0_18 y0_21 y0_22 y0_23 y0_24 y0_25 y0_26 y0_33 y0_34 y0_38 y0_39 y0_40 y0_41 y0_42 y0_43 y0_45 y0_47 y0_48 x0_5 x0_7 x0_8 x0_9 x0_10 x0_11 x0_12 x0_13 x0_14 x0_15 x0_16 x0_17 x0_19 x0_20 x0_27 x0_28 x0_29 x0_30 x0_31 x0_32 x0_35 x0_36 x0_37 x0_44 x0_49 x0_50 a1 a2 a3 a4) sz) := by
  refine met_start (by decide) (Nat.le_of_ble_eq_true rfl) ?_
  intro p e s m below meth c hC hr hlk hnm hK hP hD hA hS hX ls hl
  obtain ⟨hx, hb, hml, hown, ht0⟩ := hC
  have hown : s.vm.findClass RX11 = some m.cls := hown
  generalize va_A (wW_X11_slip G h0 h1 h2 h3 h4 y0_3 y0_4 y0_6 y0_18 y0_21 y0_22 y0_23 y0_24 y0_25 y0_26 y0_33 y0_34 y0_38 y0_39 y0_40 y0_41 y0_42 y0_43 y0_45 y0_47 y0_48 x0_5 x0_7 x0_8 x0_9 x0_10 x0_11 x0_12 x0_13 x0_14 x0_15 x0_16 x0_17 x0_19 x0_20 x0_27 x0_28 x0_29 x0_30 x0_31 x0_32 x0_35 x0_36 x0_37 x0_44 x0_49 x0_50 a1 a2 a3 a4) sz = A at hD hA hS hX ⊢
  have hl : lv_has ls 3 [(0, .ref h0), (1, .int b1), (2, .int b2)] := hl
  have hf : p_X11_slip F x0_5 x0_49 x0_50 a1 a2 a3 a4 b1 b2 = some (r0, e_x0_49, e_x0_50, e_a1, e_a4) := hf
  refine lv_iload_n hx hb dX11_slip_0 rfl (lv_at hl 1 rfl) ?_
  obtain ⟨r_1_0, hc_r_1_0, hf⟩ := of_bnd hf
  refine cl_Si (w2 := (wW_X11_slip G h0 h1 h2 h3 h4 y0_3 y0_4 y0_6 y0_18 y0_21 y0_22 y0_23 y0_24 y0_25 y0_26 y0_33 y0_34 y0_38 y0_39 y0_40 y0_41 y0_42 y0_43 y0_45 y0_47 y0_48 x0_5 x0_7 x0_8 x0_9 x0_10 x0_11 x0_12 x0_13 x0_14 x0_15 x0_16 x0_17 x0_19 x0_20 x0_27 x0_28 x0_29 x0_30 x0_31 x0_32 x0_35 x0_36 x0_37 x0_44 x0_49 x0_50 a1 a2 a3 a4)) (As := [.int b1]) (rest := []) ⟨hx, hb, hml, hown, ht0⟩ (c_X11_isWordAt l G _ F b1 _ hc_r_1_0) yk_X11_isWordAt wd_1588 ⟨rfl, rfl, by decide, by decide⟩ ⟨Nat.le_refl _, Nat.le_refl _⟩ hX hK hP hD hS hA [] [0, 1, 2, 3, 4] [0, 1, 2, 3, 4] rfl rfl (by decide) rfl rfl rfl rfl rfl hl.1 rfl (Nat.le_of_ble_eq_true rfl) dX11_slip_1 (fun H locs hP hD hS => ?_)
  refine lv_if_eq (tgt := 15) hx hb dX11_slip_4 (by decide) (fun c2 => ?_) (fun c2 => ?_)
  · have hf := of_pos hf c2
    refine lv_iconst (v := (-1 : Int32)) hx hb dX11_slip_15 (by decide) ?_
    cases hf
    exact ret_i hx hb hr hlk hK hP hD hS dX11_slip_16
  · have hf := of_neg hf c2
    refine lv_aload_n hx hb dX11_slip_7 rfl (lv_at hl 0 rfl) ?_
    refine lv_iload_n hx hb dX11_slip_8 rfl (lv_at hl 2 rfl) ?_
    obtain ⟨r_9_2, hc_r_9_2, hf⟩ := of_bnd hf
    refine cl_Vi (w2 := (wW_X11_slip G h0 h1 h2 h3 h4 y0_3 y0_4 y0_6 y0_18 y0_21 y0_22 y0_23 y0_24 y0_25 y0_26 y0_33 y0_34 y0_38 y0_39 y0_40 y0_41 y0_42 y0_43 y0_45 y0_47 y0_48 x0_5 x0_7 x0_8 x0_9 x0_10 x0_11 x0_12 x0_13 x0_14 x0_15 x0_16 x0_17 x0_19 x0_20 x0_27 x0_28 x0_29 x0_30 x0_31 x0_32 x0_35 x0_36 x0_37 x0_44 x0_49 x0_50 a1 a2 a3 a4)) (As := [.int b2]) (rest := []) ⟨hx, hb, hml, hown, ht0⟩ (c_X11_isPlace l G h0 h2 h3 h1 y0_3 y0_4 y0_6 y0_18 y0_21 y0_22 y0_23 y0_24 y0_25 y0_26 y0_33 y0_34 y0_38 y0_39 y0_40 y0_41 y0_42 y0_43 y0_45 h4 y0_47 y0_48 _ x0_5 x0_7 x0_8 x0_9 x0_10 x0_11 x0_12 x0_13 x0_14 x0_15 x0_16 x0_17 x0_19 x0_20 x0_27 x0_28 x0_29 x0_30 x0_31 x0_32 x0_35 x0_36 x0_37 x0_44 x0_49 x0_50 a2 a3 F b2 _ hc_r_9_2) yk_X11_isPlace wd_1691 ⟨rfl, rfl, by decide, by decide⟩ ⟨Nat.le_refl _, Nat.le_refl _⟩ hX hK hP hD hS hA [0, 2, 3] [1, 4] [2, 0, 3, 4, 1] (va_recv hK hP (ci := 11) (q0 := 0) rfl rfl) rfl rfl (by decide) rfl rfl rfl rfl rfl hl.1 rfl (Nat.le_of_ble_eq_true rfl) dX11_slip_9 (fun H locs hP hD hS => ?_)
    refine lv_if_ne (tgt := 17) hx hb dX11_slip_12 (by decide) (fun c4 => ?_) (fun c4 => ?_)
    · have hf := of_neg hf c4
      refine lv_aload_n hx hb dX11_slip_17 rfl (lv_at hl 0 rfl) ?_
      obtain ⟨⟨r_18_4_x0_49, r_18_4_x0_50, r_18_4_a2⟩, hc_r_18_4, hf⟩ := of_bnd hf
      refine cl_Vv (w2 := (wW_X11_slip G h0 h1 h2 h3 h4 y0_3 y0_4 y0_6 y0_18 y0_21 y0_22 y0_23 y0_24 y0_25 y0_26 y0_33 y0_34 y0_38 y0_39 y0_40 y0_41 y0_42 y0_43 y0_45 y0_47 y0_48 x0_5 x0_7 x0_8 x0_9 x0_10 x0_11 x0_12 x0_13 x0_14 x0_15 x0_16 x0_17 x0_19 x0_20 x0_27 x0_28 x0_29 x0_30 x0_31 x0_32 x0_35 x0_36 x0_37 x0_44 r_18_4_x0_49 r_18_4_x0_50 a1 a2 a3 r_18_4_a2)) (As := []) (rest := []) ⟨hx, hb, hml, hown, ht0⟩ (c_X11_keepAct l G h0 h1 h4 h2 h3 y0_3 y0_4 y0_6 y0_18 y0_21 y0_22 y0_23 y0_24 y0_25 y0_26 y0_33 y0_34 y0_38 y0_39 y0_40 y0_41 y0_42 y0_43 y0_45 y0_47 y0_48 _ x0_5 x0_7 x0_8 x0_9 x0_10 x0_11 x0_12 x0_13 x0_14 x0_15 x0_16 x0_17 x0_19 x0_20 x0_27 x0_28 x0_29 x0_30 x0_31 x0_32 x0_35 x0_36 x0_37 x0_44 x0_49 x0_50 a1 a4 F _ _ _ hc_r_18_4) yk_X11_keepAct wd_1595 ⟨rfl, rfl, by decide, by decide⟩ ⟨Nat.le_refl _, Nat.le_refl _⟩ hX hK hP hD hS hA [0, 1, 4] [2, 3] [2, 3, 0, 1, 4] (va_recv hK hP (ci := 11) (q0 := 0) rfl rfl) rfl rfl (by decide) rfl rfl rfl rfl rfl hl.1 rfl (Nat.le_of_ble_eq_true rfl) dX11_slip_18 (fun H locs hP hD hS => ?_)
      refine lv_aload_n hx hb dX11_slip_21 rfl (lv_at hl 0 rfl) ?_
      refine lv_iload_n hx hb dX11_slip_22 rfl (lv_at hl 1 rfl) ?_
      refine lv_iload_n hx hb dX11_slip_23 rfl (lv_at hl 2 rfl) ?_
      obtain ⟨r_24_5_a1, hc_r_24_5, hf⟩ := of_bnd hf
      refine cl_Vv (w2 := (wW_X11_slip G h0 h1 h2 h3 h4 y0_3 y0_4 y0_6 y0_18 y0_21 y0_22 y0_23 y0_24 y0_25 y0_26 y0_33 y0_34 y0_38 y0_39 y0_40 y0_41 y0_42 y0_43 y0_45 y0_47 y0_48 x0_5 x0_7 x0_8 x0_9 x0_10 x0_11 x0_12 x0_13 x0_14 x0_15 x0_16 x0_17 x0_19 x0_20 x0_27 x0_28 x0_29 x0_30 x0_31 x0_32 x0_35 x0_36 x0_37 x0_44 r_18_4_x0_49 r_18_4_x0_50 r_24_5_a1 a2 a3 r_18_4_a2)) (As := [.int b1, .int b2]) (rest := []) ⟨hx, hb, hml, hown, ht0⟩ (c_X11_slipNow l G h0 h1 h2 h3 y0_3 y0_4 y0_6 y0_18 y0_21 y0_22 y0_23 y0_24 y0_25 y0_26 y0_33 y0_34 y0_38 y0_39 y0_40 y0_41 y0_42 y0_43 y0_45 h4 y0_47 y0_48 _ x0_5 x0_7 x0_8 x0_9 x0_10 x0_11 x0_12 x0_13 x0_14 x0_15 x0_16 x0_17 x0_19 x0_20 x0_27 x0_28 x0_29 x0_30 x0_31 x0_32 x0_35 x0_36 x0_37 x0_44 r_18_4_x0_49 r_18_4_x0_50 a1 a2 F b1 b2 _ hc_r_24_5) yk_X11_slipNow wd_1695 ⟨rfl, rfl, by decide, by decide⟩ ⟨Nat.le_refl _, Nat.le_refl _⟩ hX hK hP hD hS hA [0, 1, 2] [3, 4] [2, 3, 4, 0, 1] (va_recv hK hP (ci := 11) (q0 := 0) rfl rfl) rfl rfl (by decide) rfl rfl rfl rfl rfl hl.1 rfl (Nat.le_of_ble_eq_true rfl) dX11_slip_24 (fun H locs hP hD hS => ?_)
      refine lv_aload_n hx hb dX11_slip_27 rfl (lv_at hl 0 rfl) ?_
      refine lv_iload_n hx hb dX11_slip_28 rfl (lv_at hl 1 rfl) ?_
      refine lv_iload_n hx hb dX11_slip_29 rfl (lv_at hl 2 rfl) ?_
      obtain ⟨r_30_6, hc_r_30_6, hf⟩ := of_bnd hf
      refine cl_Vi (w2 := (wW_X11_slip G h0 h1 h2 h3 h4 y0_3 y0_4 y0_6 y0_18 y0_21 y0_22 y0_23 y0_24 y0_25 y0_26 y0_33 y0_34 y0_38 y0_39 y0_40 y0_41 y0_42 y0_43 y0_45 y0_47 y0_48 x0_5 x0_7 x0_8 x0_9 x0_10 x0_11 x0_12 x0_13 x0_14 x0_15 x0_16 x0_17 x0_19 x0_20 x0_27 x0_28 x0_29 x0_30 x0_31 x0_32 x0_35 x0_36 x0_37 x0_44 r_18_4_x0_49 r_18_4_x0_50 r_24_5_a1 a2 a3 r_18_4_a2)) (As := [.int b1, .int b2]) (rest := []) ⟨hx, hb, hml, hown, ht0⟩ (c_X11_bitOf l G h0 h1 h2 h3 y0_3 y0_4 y0_6 y0_18 y0_21 y0_22 y0_23 y0_24 y0_25 y0_26 y0_33 y0_34 y0_38 y0_39 y0_40 y0_41 y0_42 y0_43 y0_45 h4 y0_47 y0_48 _ x0_5 x0_7 x0_8 x0_9 x0_10 x0_11 x0_12 x0_13 x0_14 x0_15 x0_16 x0_17 x0_19 x0_20 x0_27 x0_28 x0_29 x0_30 x0_31 x0_32 x0_35 x0_36 x0_37 x0_44 r_18_4_x0_49 r_18_4_x0_50 r_24_5_a1 a2 F b1 b2 _ hc_r_30_6) yk_X11_bitOf wd_1611 ⟨rfl, rfl, by decide, by decide⟩ ⟨Nat.le_refl _, Nat.le_refl _⟩ hX hK hP hD hS hA [0, 1, 2] [3, 4] [2, 3, 4, 0, 1] (va_recv hK hP (ci := 11) (q0 := 0) rfl rfl) rfl rfl (by decide) rfl rfl rfl rfl rfl hl.1 rfl (Nat.le_of_ble_eq_true rfl) dX11_slip_30 (fun H locs hP hD hS => ?_)
      cases hf
      exact ret_i hx hb hr hlk hK hP hD hS dX11_slip_33
    · have hf := of_pos hf c4
      refine lv_iconst (v := (-1 : Int32)) hx hb dX11_slip_15 (by decide) ?_
      cases hf
      exact ret_i hx hb hr hlk hK hP hD hS dX11_slip_16
theorem yk_X11_slip : ykV yX11_slip RX11 cX11_slip 3 (some .int) 2 := ⟨wd_1688, wd_1689, wd_142, wd_1690, rfl, by decide +kernel, by decide +kernel, by decide +kernel⟩
theorem dX11_burst_0 : decode cX11_burst 0 = .ok (.iload_n 1, 1) := by decide +kernel
theorem dX11_burst_1 : decode cX11_burst 1 = .ok (.invokestatic 350, 3) := by decide +kernel
theorem dX11_burst_4 : decode cX11_burst 4 = .ok (.ifCond .eq 33, 3) := by decide +kernel
theorem dX11_burst_7 : decode cX11_burst 7 = .ok (.aload_n 0, 1) := by decide +kernel
theorem dX11_burst_8 : decode cX11_burst 8 = .ok (.iload_n 2, 1) := by decide +kernel
theorem dX11_burst_9 : decode cX11_burst 9 = .ok (.invokevirtual 359, 3) := by decide +kernel
theorem dX11_burst_12 : decode cX11_burst 12 = .ok (.ifCond .eq 25, 3) := by decide +kernel
theorem dX11_burst_15 : decode cX11_burst 15 = .ok (.iload_n 3, 1) := by decide +kernel
theorem dX11_burst_16 : decode cX11_burst 16 = .ok (.iconst 1, 1) := by decide +kernel
theorem dX11_burst_17 : decode cX11_burst 17 = .ok (.bipush 8, 2) := by decide +kernel
theorem dX11_burst_19 : decode cX11_burst 19 = .ok (.invokestatic 163, 3) := by decide +kernel
theorem dX11_burst_22 : decode cX11_burst 22 = .ok (.ifCond .eq 15, 3) := by decide +kernel
theorem dX11_burst_25 : decode cX11_burst 25 = .ok (.aload_n 0, 1) := by decide +kernel
theorem dX11_burst_26 : decode cX11_burst 26 = .ok (.iload_n 2, 1) := by decide +kernel
theorem dX11_burst_27 : decode cX11_burst 27 = .ok (.iload_n 3, 1) := by decide +kernel
theorem dX11_burst_28 : decode cX11_burst 28 = .ok (.iadd, 1) := by decide +kernel
theorem dX11_burst_29 : decode cX11_burst 29 = .ok (.iconst 1, 1) := by decide +kernel
theorem dX11_burst_30 : decode cX11_burst 30 = .ok (.isub, 1) := by decide +kernel
theorem dX11_burst_31 : decode cX11_burst 31 = .ok (.invokevirtual 359, 3) := by decide +kernel
theorem dX11_burst_34 : decode cX11_burst 34 = .ok (.ifCond .ne 5, 3) := by decide +kernel
theorem dX11_burst_37 : decode cX11_burst 37 = .ok (.iconst 0, 1) := by decide +kernel
theorem dX11_burst_38 : decode cX11_burst 38 = .ok (.ireturn, 1) := by decide +kernel
theorem dX11_burst_39 : decode cX11_burst 39 = .ok (.aload_n 0, 1) := by decide +kernel
theorem dX11_burst_40 : decode cX11_burst 40 = .ok (.invokevirtual 356, 3) := by decide +kernel
theorem dX11_burst_43 : decode cX11_burst 43 = .ok (.iload_n 2, 1) := by decide +kernel
theorem dX11_burst_44 : decode cX11_burst 44 = .ok (.istore 4, 2) := by decide +kernel
theorem dX11_burst_46 : decode cX11_burst 46 = .ok (.iload 4, 2) := by decide +kernel
theorem dX11_burst_48 : decode cX11_burst 48 = .ok (.iload_n 2, 1) := by decide +kernel
theorem dX11_burst_49 : decode cX11_burst 49 = .ok (.iload_n 3, 1) := by decide +kernel
theorem dX11_burst_50 : decode cX11_burst 50 = .ok (.iadd, 1) := by decide +kernel
theorem dX11_burst_51 : decode cX11_burst 51 = .ok (.if_icmp .ge 16, 3) := by decide +kernel
theorem dX11_burst_54 : decode cX11_burst 54 = .ok (.aload_n 0, 1) := by decide +kernel
theorem dX11_burst_55 : decode cX11_burst 55 = .ok (.iload_n 1, 1) := by decide +kernel
theorem dX11_burst_56 : decode cX11_burst 56 = .ok (.iload 4, 2) := by decide +kernel
theorem dX11_burst_58 : decode cX11_burst 58 = .ok (.invokevirtual 341, 3) := by decide +kernel
theorem dX11_burst_61 : decode cX11_burst 61 = .ok (.iinc 4 1, 3) := by decide +kernel
theorem dX11_burst_64 : decode cX11_burst 64 = .ok (.goto (-18), 3) := by decide +kernel
theorem dX11_burst_67 : decode cX11_burst 67 = .ok (.iconst 1, 1) := by decide +kernel
theorem dX11_burst_68 : decode cX11_burst 68 = .ok (.ireturn, 1) := by decide +kernel
def wW_X11_burst (G : GG) (h0 h1 h2 h3 h4 y0_3 y0_4 y0_6 y0_18 y0_21 y0_22 y0_23 y0_24 y0_25 y0_26 y0_33 y0_34 y0_38 y0_39 y0_40 y0_41 y0_42 y0_43 y0_45 y0_47 y0_48 : Nat) (x0_5 : Int32) (x0_7 : Int32) (x0_8 : Int32) (x0_9 : Int32) (x0_10 : Int32) (x0_11 : Int32) (x0_12 : Int32) (x0_13 : Int32) (x0_14 : Int32) (x0_15 : Int32) (x0_16 : Int32) (x0_17 : Int32) (x0_19 : Int32) (x0_20 : Int32) (x0_27 : Int32) (x0_28 : Int32) (x0_29 : Int32) (x0_30 : Int32) (x0_31 : Int32) (x0_32 : Int32) (x0_35 : Int32) (x0_36 : Int32) (x0_37 : Int32) (x0_44 : Int32) (x0_49 : Int32) (x0_50 : Int32) (a1 : Nat → Int32) (a2 : Nat → Int32) (a3 : Nat → Int32) (a4 : Nat → Int32) : va_W := [(h0, .inr (11, [.ref h1, .ref h2, .ref h3, .ref y0_3, .ref y0_4, .int x0_5, .ref y0_6, .int x0_7, .int x0_8, .int x0_9, .int x0_10, .int x0_11, .int x0_12, .int x0_13, .int x0_14, .int x0_15, .int x0_16, .int x0_17, .ref y0_18, .int x0_19, .int x0_20, .ref y0_21, .ref y0_22, .ref y0_23, .ref y0_24, .ref y0_25, .ref y0_26, .int x0_27, .int x0_28, .int x0_29, .int x0_30, .int x0_31, .int x0_32, .ref y0_33, .ref y0_34, .int x0_35, .int x0_36, .int x0_37, .ref y0_38, .ref y0_39, .ref y0_40, .ref y0_41, .ref y0_42, .ref y0_43, .int x0_44, .ref y0_45, .ref h4, .ref y0_47, .ref y0_48, .int x0_49, .int x0_50])), (h1, .inl (G.2.1, 121, .inl a1)), (h2, .inl (G.2.1, 2, .inl a2)), (h3, .inl (G.2.1, 2, .inl a3)), (h4, .inl (G.2.1, 1573, .inl a4))]
set_option maxHeartbeats 4000000 in
set_option maxRecDepth 100000 in
theorem c_X11_burst (l : Launch) (G : GG) (h0 h1 h2 h3 h4 y0_3 y0_4 y0_6 y0_18 y0_21 y0_22 y0_23 y0_24 y0_25 y0_26 y0_33 y0_34 y0_38 y0_39 y0_40 y0_41 y0_42 y0_43 y0_45 y0_47 y0_48 : Nat) (sz : Nat) (x0_5 : Int32) (x0_7 : Int32) (x0_8 : Int32) (x0_9 : Int32) (x0_10 : Int32) (x0_11 : Int32) (x0_12 : Int32) (x0_13 : Int32) (x0_14 : Int32) (x0_15 : Int32) (x0_16 : Int32) (x0_17 : Int32) (x0_19 : Int32) (x0_20 : Int32) (x0_27 : Int32) (x0_28 : Int32) (x0_29 : Int32) (x0_30 : Int32) (x0_31 : Int32) (x0_32 : Int32) (x0_35 : Int32) (x0_36 : Int32) (x0_37 : Int32) (x0_44 : Int32) (x0_49 : Int32) (x0_50 : Int32) (a1 : Nat → Int32) (a2 : Nat → Int32) (a3 : Nat → Int32) (a4 : Nat → Int32) (F : Nat) (b1 : Int32) (b2 : Int32) (b3 : Int32)  (r0 : Int32) (e_x0_49 : Int32) (e_x0_50 : Int32) (e_a1 : Nat → Int32) (e_a4 : Nat → Int32) (hf : p_X11_burst F x0_5 x0_49 x0_50 a1 a2 a3 a4 b1 b2 b3 = some (r0, e_x0_49, e_x0_50, e_a1, e_a4)) : Met l yX11_burst (.code yX11_burst cX11_burst 5 (some .boolean) :: gtbl) ({ frames := 5, cells := 0, slots := 0, locals := 110 } : Room) (PcS G [.ref h0, .int b1, .int b2, .int b3] (wW_X11_burst G h0 h1 h2 h3 h4 y0_3 y0_4 y0_6 y0_18 y0_21 y0_22 y0_23 y0_24 y0_25 y0_26 y0_33 y0_34 y0_38 y0_39 y0_40 y0_41 y0_42 y0_43 y0_45 y0_47 y0_48 x0_5 x0_7 x0_8 x0_9 x0_10 x0_11 x0_12 x0_13 x0_14 x0_15 x0_16 x0_17 x0_19 x0_20 x0_27 x0_28 x0_29 x0_30 x0_31 x0_32 x0_35 x0_36 x0_37 x0_44 x0_49 x0_50 a1 a2 a3 a4) sz) (QiS G r0 (va_A (wW_X11_burst G h0 h1 h2 h3 h4 y0_3 y0_4 y0_6 y0_18 y0_21 y0_22 y0_23 y0_24 y0_25 y0_26 y0_33 y0_34 y0_38 y0_39 y0_40 y0_41 y0_42 y0_43 y0_45 y0_47 y0_48 x0_5 x0_7 x0_8 x0_9 x0_10 x0_11 x0_12 x0_13 x0_14 x0_15 x0_16 x0_17 x0_19 x0_20 x0_27 x0_28 x0_29 x0_30 x0_31 x0_32 x0_35 x0_36 x0_37 x0_44 x0_49 x0_50 a1 a2 a3 a4) sz) (wW_X11_burst G h0 h1 h2 h3 h4 y0_3 y0_4 y0_6 y0_18 y0_21 y0_22 y0_23 y0_24 y0_25 y0_26 y0_33 y0_34 y0_38 y0_39 y0_40 y0_41 y0_42 y0_43 y0_45 y0_47 y0_48 x0_5 x0_7 x0_8 x0_9 x0_10 x0_11 x0_12 x0_13 x0_14 x0_15 x0_16 x0_17 x0_19 x0_20 x0_27 x0_28 x0_29 x0_30 x0_31 x0_32 x0_35 x0_36 x0_37 x0_44 e_x0_49 e_x0_50 e_a1 a2 a3 e_a4)) 0 0 (va_A (wW_X11_burst G h0 h1 h2 h3 h4 y0_3 y0_4 y0_6 y0_18 y0_21 y0_22 y0_23 y0_24 y0_25 y0_26 y0_33 y0_34 y0_38 y0_39 y0_40 y0_41 y0_42 y0_43 y0_45 y0_47 y0_48 x0_5 x0_7 x0_8 x0_9 x0_10 x0_11 x0_12 x0_13 x0_14 x0_15 x0_16 x0_17 x0_19 x0_20 x0_27 x0_28 x0_29 x0_30 x0_31 x0_32 x0_35 x0_36 x0_37 x0_44 x0_49 x0_50 a1 a2 a3 a4) sz) := by
  refine met_start (by decide) (Nat.le_of_ble_eq_true rfl) ?_
  intro p e s m below meth c hC hr hlk hnm hK hP hD hA hS hX ls hl
  obtain ⟨hx, hb, hml, hown, ht0⟩ := hC
  have hown : s.vm.findClass RX11 = some m.cls := hown
  generalize va_A (wW_X11_burst G h0 h1 h2 h3 h4 y0_3 y0_4 y0_6 y0_18 y0_21 y0_22 y0_23 y0_24 y0_25 y0_26 y0_33 y0_34 y0_38 y0_39 y0_40 y0_41 y0_42 y0_43 y0_45 y0_47 y0_48 x0_5 x0_7 x0_8 x0_9 x0_10 x0_11 x0_12 x0_13 x0_14 x0_15 x0_16 x0_17 x0_19 x0_20 x0_27 x0_28 x0_29 x0_30 x0_31 x0_32 x0_35 x0_36 x0_37 x0_44 x0_49 x0_50 a1 a2 a3 a4) sz = A at hD hA hS hX ⊢
  have hl : lv_has ls 5 [(0, .ref h0), (1, .int b1), (2, .int b2), (3, .int b3)] := hl
  have hf : p_X11_burst F x0_5 x0_49 x0_50 a1 a2 a3 a4 b1 b2 b3 = some (r0, e_x0_49, e_x0_50, e_a1, e_a4) := hf
  have kL46 : ∀ (c46_1 : Int32) (c46_2 : Int32) (c46_3 : Int32) (n46 : Nat) (u46_4 : Int32) (x0_49_46 : Int32) (x0_50_46 : Int32) (a1_46 : Nat → Int32) (a4_46 : Nat → Int32), p_X11_burst_L46 F x0_5 a2 a3 c46_1 c46_2 c46_3 n46 u46_4 x0_49_46 x0_50_46 a1_46 a4_46 = some (r0, e_x0_49, e_x0_50, e_a1, e_a4) → ∀ (H : Heap) (locs : List Loc), va_P G.1 vwCl (wW_X11_burst G h0 h1 h2 h3 h4 y0_3 y0_4 y0_6 y0_18 y0_21 y0_22 y0_23 y0_24 y0_25 y0_26 y0_33 y0_34 y0_38 y0_39 y0_40 y0_41 y0_42 y0_43 y0_45 y0_47 y0_48 x0_5 x0_7 x0_8 x0_9 x0_10 x0_11 x0_12 x0_13 x0_14 x0_15 x0_16 x0_17 x0_19 x0_20 x0_27 x0_28 x0_29 x0_30 x0_31 x0_32 x0_35 x0_36 x0_37 x0_44 x0_49_46 x0_50_46 a1_46 a2 a3 a4_46) H → va_D A (wW_X11_burst G h0 h1 h2 h3 h4 y0_3 y0_4 y0_6 y0_18 y0_21 y0_22 y0_23 y0_24 y0_25 y0_26 y0_33 y0_34 y0_38 y0_39 y0_40 y0_41 y0_42 y0_43 y0_45 y0_47 y0_48 x0_5 x0_7 x0_8 x0_9 x0_10 x0_11 x0_12 x0_13 x0_14 x0_15 x0_16 x0_17 x0_19 x0_20 x0_27 x0_28 x0_29 x0_30 x0_31 x0_32 x0_35 x0_36 x0_37 x0_44 x0_49_46 x0_50_46 a1_46 a2 a3 a4_46) → va_S A s.heap H locs → ∀ ls : Array Slot, lv_has ls 5 [(0, .ref h0), (1, .int c46_1), (2, .int c46_2), (3, .int c46_3), (4, .int u46_4)] → W p l e ({ frames := 5, cells := 0, slots := 0, locals := 110 } : Room) s m (List.toArray [.ref h0, .int b1, .int b2, .int b3]) below meth c H locs 0 0 (MQ below (QiS G r0 A (wW_X11_burst G h0 h1 h2 h3 h4 y0_3 y0_4 y0_6 y0_18 y0_21 y0_22 y0_23 y0_24 y0_25 y0_26 y0_33 y0_34 y0_38 y0_39 y0_40 y0_41 y0_42 y0_43 y0_45 y0_47 y0_48 x0_5 x0_7 x0_8 x0_9 x0_10 x0_11 x0_12 x0_13 x0_14 x0_15 x0_16 x0_17 x0_19 x0_20 x0_27 x0_28 x0_29 x0_30 x0_31 x0_32 x0_35 x0_36 x0_37 x0_44 e_x0_49 e_x0_50 e_a1 a2 a3 e_a4)) (List.toArray [.ref h0, .int b1, .int b2, .int b3]) s 0 0 A) (F0 m 46 ls []) := by
    intro c46_1 c46_2 c46_3 n46
    induction n46 with
    | zero =>
      intro u46_4 x0_49_46 x0_50_46 a1_46 a4_46 hf
      cases hf
    | succ n46 ih46 =>
      intro u46_4 x0_49_46 x0_50_46 a1_46 a4_46 hf H locs hP hD hS ls hl
      have hf : p_X11_burst_L46b F x0_5 a2 a3 c46_1 c46_2 c46_3 (p_X11_burst_L46 F x0_5 a2 a3 c46_1 c46_2 c46_3 n46) u46_4 x0_49_46 x0_50_46 a1_46 a4_46 = some (r0, e_x0_49, e_x0_50, e_a1, e_a4) := hf
      refine lv_iload hx hb dX11_burst_46 (lv_at hl 4 rfl) ?_
      refine lv_iload_n hx hb dX11_burst_48 rfl (lv_at hl 2 rfl) ?_
      refine lv_iload_n hx hb dX11_burst_49 rfl (lv_at hl 3 rfl) ?_
      refine lv_iadd hx hb dX11_burst_50 ?_
      refine lv_icmp_ge (tgt := 67) hx hb dX11_burst_51 (by decide) (fun c1 => ?_) (fun c1 => ?_)
      · have hf := of_pos hf c1
        refine lv_iconst (v := (1 : Int32)) hx hb dX11_burst_67 (by decide) ?_
        cases hf
        exact ret_z hx hb hr hlk hK hP hD hS (by decide) dX11_burst_68
      · have hf := of_neg hf c1
        refine lv_aload_n hx hb dX11_burst_54 rfl (lv_at hl 0 rfl) ?_
        refine lv_iload_n hx hb dX11_burst_55 rfl (lv_at hl 1 rfl) ?_
        refine lv_iload hx hb dX11_burst_56 (lv_at hl 4 rfl) ?_
        obtain ⟨r_58_1_a1, hc_r_58_1, hf⟩ := of_bnd hf
        refine cl_Vv (w2 := (wW_X11_burst G h0 h1 h2 h3 h4 y0_3 y0_4 y0_6 y0_18 y0_21 y0_22 y0_23 y0_24 y0_25 y0_26 y0_33 y0_34 y0_38 y0_39 y0_40 y0_41 y0_42 y0_43 y0_45 y0_47 y0_48 x0_5 x0_7 x0_8 x0_9 x0_10 x0_11 x0_12 x0_13 x0_14 x0_15 x0_16 x0_17 x0_19 x0_20 x0_27 x0_28 x0_29 x0_30 x0_31 x0_32 x0_35 x0_36 x0_37 x0_44 x0_49_46 x0_50_46 r_58_1_a1 a2 a3 a4_46)) (As := [.int c46_1, .int u46_4]) (rest := []) ⟨hx, hb, hml, hown, ht0⟩ (c_X11_slipNow l G h0 h1 h2 h3 y0_3 y0_4 y0_6 y0_18 y0_21 y0_22 y0_23 y0_24 y0_25 y0_26 y0_33 y0_34 y0_38 y0_39 y0_40 y0_41 y0_42 y0_43 y0_45 h4 y0_47 y0_48 _ x0_5 x0_7 x0_8 x0_9 x0_10 x0_11 x0_12 x0_13 x0_14 x0_15 x0_16 x0_17 x0_19 x0_20 x0_27 x0_28 x0_29 x0_30 x0_31 x0_32 x0_35 x0_36 x0_37 x0_44 x0_49_46 x0_50_46 a1_46 a2 F c46_1 u46_4 _ hc_r_58_1) yk_X11_slipNow wd_1695 ⟨rfl, rfl, by decide, by decide⟩ ⟨Nat.le_refl _, Nat.le_refl _⟩ hX hK hP hD hS hA [0, 1, 2] [3, 4] [2, 3, 4, 0, 1] (va_recv hK hP (ci := 11) (q0 := 0) rfl rfl) rfl rfl (by decide) rfl rfl rfl rfl rfl hl.1 rfl (Nat.le_of_ble_eq_true rfl) dX11_burst_58 (fun H locs hP hD hS => ?_)
        refine lv_iinc (v := u46_4 + (1 : Int32)) (lv' := [(4, .int (u46_4 + (1 : Int32))), (0, .ref h0), (1, .int c46_1), (2, .int c46_2), (3, .int c46_3)]) hx hb dX11_burst_61 hl (k := 4) rfl (by rfl) (by decide) rfl (fun ls hl => ?_)
        refine lv_goto (tgt := 46) hx hb dX11_burst_64 (by decide) ?_
        exact ih46 _ _ _ _ _ hf _ _ hP hD hS _ (lv_sub hl [1, 2, 3, 4, 0] rfl)
  refine lv_iload_n hx hb dX11_burst_0 rfl (lv_at hl 1 rfl) ?_
  obtain ⟨r_1_2, hc_r_1_2, hf⟩ := of_bnd hf
  refine cl_Si (w2 := (wW_X11_burst G h0 h1 h2 h3 h4 y0_3 y0_4 y0_6 y0_18 y0_21 y0_22 y0_23 y0_24 y0_25 y0_26 y0_33 y0_34 y0_38 y0_39 y0_40 y0_41 y0_42 y0_43 y0_45 y0_47 y0_48 x0_5 x0_7 x0_8 x0_9 x0_10 x0_11 x0_12 x0_13 x0_14 x0_15 x0_16 x0_17 x0_19 x0_20 x0_27 x0_28 x0_29 x0_30 x0_31 x0_32 x0_35 x0_36 x0_37 x0_44 x0_49 x0_50 a1 a2 a3 a4)) (As := [.int b1]) (rest := []) ⟨hx, hb, hml, hown, ht0⟩ (c_X11_isWordAt l G _ F b1 _ hc_r_1_2) yk_X11_isWordAt wd_1588 ⟨rfl, rfl, by decide, by decide⟩ ⟨Nat.le_refl _, Nat.le_refl _⟩ hX hK hP hD hS hA [] [0, 1, 2, 3, 4] [0, 1, 2, 3, 4] rfl rfl (by decide) rfl rfl rfl rfl rfl hl.1 rfl (Nat.le_of_ble_eq_true rfl) dX11_burst_1 (fun H locs hP hD hS => ?_)
  refine lv_if_eq (tgt := 37) hx hb dX11_burst_4 (by decide) (fun c4 => ?_) (fun c4 => ?_)
  · have hf := of_pos hf c4
    refine lv_iconst (v := (0 : Int32)) hx hb dX11_burst_37 (by decide) ?_
    cases hf
    exact ret_z hx hb hr hlk hK hP hD hS (by decide) dX11_burst_38
  · have hf := of_neg hf c4
    refine lv_aload_n hx hb dX11_burst_7 rfl (lv_at hl 0 rfl) ?_
    refine lv_iload_n hx hb dX11_burst_8 rfl (lv_at hl 2 rfl) ?_
    obtain ⟨r_9_4, hc_r_9_4, hf⟩ := of_bnd hf
    refine cl_Vi (w2 := (wW_X11_burst G h0 h1 h2 h3 h4 y0_3 y0_4 y0_6 y0_18 y0_21 y0_22 y0_23 y0_24 y0_25 y0_26 y0_33 y0_34 y0_38 y0_39 y0_40 y0_41 y0_42 y0_43 y0_45 y0_47 y0_48 x0_5 x0_7 x0_8 x0_9 x0_10 x0_11 x0_12 x0_13 x0_14 x0_15 x0_16 x0_17 x0_19 x0_20 x0_27 x0_28 x0_29 x0_30 x0_31 x0_32 x0_35 x0_36 x0_37 x0_44 x0_49 x0_50 a1 a2 a3 a4)) (As := [.int b2]) (rest := []) ⟨hx, hb, hml, hown, ht0⟩ (c_X11_isPlace l G h0 h2 h3 h1 y0_3 y0_4 y0_6 y0_18 y0_21 y0_22 y0_23 y0_24 y0_25 y0_26 y0_33 y0_34 y0_38 y0_39 y0_40 y0_41 y0_42 y0_43 y0_45 h4 y0_47 y0_48 _ x0_5 x0_7 x0_8 x0_9 x0_10 x0_11 x0_12 x0_13 x0_14 x0_15 x0_16 x0_17 x0_19 x0_20 x0_27 x0_28 x0_29 x0_30 x0_31 x0_32 x0_35 x0_36 x0_37 x0_44 x0_49 x0_50 a2 a3 F b2 _ hc_r_9_4) yk_X11_isPlace wd_1691 ⟨rfl, rfl, by decide, by decide⟩ ⟨Nat.le_refl _, Nat.le_refl _⟩ hX hK hP hD hS hA [0, 2, 3] [1, 4] [2, 0, 3, 4, 1] (va_recv hK hP (ci := 11) (q0 := 0) rfl rfl) rfl rfl (by decide) rfl rfl rfl rfl rfl hl.1 rfl (Nat.le_of_ble_eq_true rfl) dX11_burst_9 (fun H locs hP hD hS => ?_)
    refine lv_if_eq (tgt := 37) hx hb dX11_burst_12 (by decide) (fun c6 => ?_) (fun c6 => ?_)
    · have hf := of_pos hf c6
      refine lv_iconst (v := (0 : Int32)) hx hb dX11_burst_37 (by decide) ?_
      cases hf
      exact ret_z hx hb hr hlk hK hP hD hS (by decide) dX11_burst_38
    · have hf := of_neg hf c6
      refine lv_iload_n hx hb dX11_burst_15 rfl (lv_at hl 3 rfl) ?_
      refine lv_iconst (v := (1 : Int32)) hx hb dX11_burst_16 (by decide) ?_
      refine lv_bipush (v := (8 : Int32)) hx hb dX11_burst_17 (by decide) ?_
      obtain ⟨r_19_6, hc_r_19_6, hf⟩ := of_bnd hf
      refine cl_Si (w2 := (wW_X11_burst G h0 h1 h2 h3 h4 y0_3 y0_4 y0_6 y0_18 y0_21 y0_22 y0_23 y0_24 y0_25 y0_26 y0_33 y0_34 y0_38 y0_39 y0_40 y0_41 y0_42 y0_43 y0_45 y0_47 y0_48 x0_5 x0_7 x0_8 x0_9 x0_10 x0_11 x0_12 x0_13 x0_14 x0_15 x0_16 x0_17 x0_19 x0_20 x0_27 x0_28 x0_29 x0_30 x0_31 x0_32 x0_35 x0_36 x0_37 x0_44 x0_49 x0_50 a1 a2 a3 a4)) (As := [.int b3, .int (1 : Int32), .int (8 : Int32)]) (rest := []) ⟨hx, hb, hml, hown, ht0⟩ (c_X11_isIn l G _ F b3 (1 : Int32) (8 : Int32) _ hc_r_19_6) yk_X11_isIn wd_1321 ⟨rfl, rfl, by decide, by decide⟩ ⟨Nat.le_refl _, Nat.le_refl _⟩ hX hK hP hD hS hA [] [0, 1, 2, 3, 4] [0, 1, 2, 3, 4] rfl rfl (by decide) rfl rfl rfl rfl rfl hl.1 rfl (Nat.le_of_ble_eq_true rfl) dX11_burst_19 (fun H locs hP hD hS => ?_)
      refine lv_if_eq (tgt := 37) hx hb dX11_burst_22 (by decide) (fun c8 => ?_) (fun c8 => ?_)
      · have hf := of_pos hf c8
        refine lv_iconst (v := (0 : Int32)) hx hb dX11_burst_37 (by decide) ?_
        cases hf
        exact ret_z hx hb hr hlk hK hP hD hS (by decide) dX11_burst_38
      · have hf := of_neg hf c8
        refine lv_aload_n hx hb dX11_burst_25 rfl (lv_at hl 0 rfl) ?_
        refine lv_iload_n hx hb dX11_burst_26 rfl (lv_at hl 2 rfl) ?_
        refine lv_iload_n hx hb dX11_burst_27 rfl (lv_at hl 3 rfl) ?_
        refine lv_iadd hx hb dX11_burst_28 ?_
        refine lv_iconst (v := (1 : Int32)) hx hb dX11_burst_29 (by decide) ?_
        refine lv_isub hx hb dX11_burst_30 ?_
        obtain ⟨r_31_8, hc_r_31_8, hf⟩ := of_bnd hf
        refine cl_Vi (w2 := (wW_X11_burst G h0 h1 h2 h3 h4 y0_3 y0_4 y0_6 y0_18 y0_21 y0_22 y0_23 y0_24 y0_25 y0_26 y0_33 y0_34 y0_38 y0_39 y0_40 y0_41 y0_42 y0_43 y0_45 y0_47 y0_48 x0_5 x0_7 x0_8 x0_9 x0_10 x0_11 x0_12 x0_13 x0_14 x0_15 x0_16 x0_17 x0_19 x0_20 x0_27 x0_28 x0_29 x0_30 x0_31 x0_32 x0_35 x0_36 x0_37 x0_44 x0_49 x0_50 a1 a2 a3 a4)) (As := [.int ((b2 + b3) - (1 : Int32))]) (rest := []) ⟨hx, hb, hml, hown, ht0⟩ (c_X11_isPlace l G h0 h2 h3 h1 y0_3 y0_4 y0_6 y0_18 y0_21 y0_22 y0_23 y0_24 y0_25 y0_26 y0_33 y0_34 y0_38 y0_39 y0_40 y0_41 y0_42 y0_43 y0_45 h4 y0_47 y0_48 _ x0_5 x0_7 x0_8 x0_9 x0_10 x0_11 x0_12 x0_13 x0_14 x0_15 x0_16 x0_17 x0_19 x0_20 x0_27 x0_28 x0_29 x0_30 x0_31 x0_32 x0_35 x0_36 x0_37 x0_44 x0_49 x0_50 a2 a3 F ((b2 + b3) - (1 : Int32)) _ hc_r_31_8) yk_X11_isPlace wd_1691 ⟨rfl, rfl, by decide, by decide⟩ ⟨Nat.le_refl _, Nat.le_refl _⟩ hX hK hP hD hS hA [0, 2, 3] [1, 4] [2, 0, 3, 4, 1] (va_recv hK hP (ci := 11) (q0 := 0) rfl rfl) rfl rfl (by decide) rfl rfl rfl rfl rfl hl.1 rfl (Nat.le_of_ble_eq_true rfl) dX11_burst_31 (fun H locs hP hD hS => ?_)
        refine lv_if_ne (tgt := 39) hx hb dX11_burst_34 (by decide) (fun c10 => ?_) (fun c10 => ?_)
        · have hf := of_neg hf c10
          refine lv_aload_n hx hb dX11_burst_39 rfl (lv_at hl 0 rfl) ?_
          obtain ⟨⟨r_40_10_x0_49, r_40_10_x0_50, r_40_10_a2⟩, hc_r_40_10, hf⟩ := of_bnd hf
          refine cl_Vv (w2 := (wW_X11_burst G h0 h1 h2 h3 h4 y0_3 y0_4 y0_6 y0_18 y0_21 y0_22 y0_23 y0_24 y0_25 y0_26 y0_33 y0_34 y0_38 y0_39 y0_40 y0_41 y0_42 y0_43 y0_45 y0_47 y0_48 x0_5 x0_7 x0_8 x0_9 x0_10 x0_11 x0_12 x0_13 x0_14 x0_15 x0_16 x0_17 x0_19 x0_20 x0_27 x0_28 x0_29 x0_30 x0_31 x0_32 x0_35 x0_36 x0_37 x0_44 r_40_10_x0_49 r_40_10_x0_50 a1 a2 a3 r_40_10_a2)) (As := []) (rest := []) ⟨hx, hb, hml, hown, ht0⟩ (c_X11_keepAct l G h0 h1 h4 h2 h3 y0_3 y0_4 y0_6 y0_18 y0_21 y0_22 y0_23 y0_24 y0_25 y0_26 y0_33 y0_34 y0_38 y0_39 y0_40 y0_41 y0_42 y0_43 y0_45 y0_47 y0_48 _ x0_5 x0_7 x0_8 x0_9 x0_10 x0_11 x0_12 x0_13 x0_14 x0_15 x0_16 x0_17 x0_19 x0_20 x0_27 x0_28 x0_29 x0_30 x0_31 x0_32 x0_35 x0_36 x0_37 x0_44 x0_49 x0_50 a1 a4 F _ _ _ hc_r_40_10) yk_X11_keepAct wd_1595 ⟨rfl, rfl, by decide, by decide⟩ ⟨Nat.le_refl _, Nat.le_refl _⟩ hX hK hP hD hS hA [0, 1, 4] [2, 3] [2, 3, 0, 1, 4] (va_recv hK hP (ci := 11) (q0 := 0) rfl rfl) rfl rfl (by decide) rfl rfl rfl rfl rfl hl.1 rfl (Nat.le_of_ble_eq_true rfl) dX11_burst_40 (fun H locs hP hD hS => ?_)
          refine lv_iload_n hx hb dX11_burst_43 rfl (lv_at hl 2 rfl) ?_
          refine lv_istore (lv' := [(4, .int b2), (0, .ref h0), (1, .int b1), (2, .int b2), (3, .int b3)]) hx hb dX11_burst_44 hl (by decide) rfl (fun ls hl => ?_)
          exact kL46 _ _ _ _ _ _ _ _ _ hf _ _ hP hD hS _ (lv_sub hl [1, 2, 3, 4, 0] rfl)
        · have hf := of_pos hf c10
          refine lv_iconst (v := (0 : Int32)) hx hb dX11_burst_37 (by decide) ?_
          cases hf
          exact ret_z hx hb hr hlk hK hP hD hS (by decide) dX11_burst_38
theorem yk_X11_burst : ykV yX11_burst RX11 cX11_burst 5 (some .boolean) 3 := ⟨wd_1704, wd_1705, wd_142, wd_1706, rfl, by decide +kernel, by decide +kernel, by decide +kernel⟩
theorem dX11_isStorm_0 : decode cX11_isStorm 0 = .ok (.iload_n 0, 1) := by decide +kernel
theorem dX11_isStorm_1 : decode cX11_isStorm 1 = .ok (.iconst 0, 1) := by decide +kernel
theorem dX11_isStorm_2 : decode cX11_isStorm 2 = .ok (.sipush 9999, 3) := by decide +kernel
theorem dX11_isStorm_5 : decode cX11_isStorm 5 = .ok (.invokestatic 163, 3) := by decide +kernel
theorem dX11_isStorm_8 : decode cX11_isStorm 8 = .ok (.ifCond .eq 27, 3) := by decide +kernel
theorem dX11_isStorm_11 : decode cX11_isStorm 11 = .ok (.iload_n 1, 1) := by decide +kernel
theorem dX11_isStorm_12 : decode cX11_isStorm 12 = .ok (.iload_n 2, 1) := by decide +kernel
theorem dX11_isStorm_13 : decode cX11_isStorm 13 = .ok (.iload_n 3, 1) := by decide +kernel
theorem dX11_isStorm_14 : decode cX11_isStorm 14 = .ok (.invokestatic 163, 3) := by decide +kernel
theorem dX11_isStorm_17 : decode cX11_isStorm 17 = .ok (.ifCond .eq 18, 3) := by decide +kernel
theorem dX11_isStorm_20 : decode cX11_isStorm 20 = .ok (.iload 4, 2) := by decide +kernel
theorem dX11_isStorm_22 : decode cX11_isStorm 22 = .ok (.iconst 0, 1) := by decide +kernel
theorem dX11_isStorm_23 : decode cX11_isStorm 23 = .ok (.bipush 50, 2) := by decide +kernel
theorem dX11_isStorm_25 : decode cX11_isStorm 25 = .ok (.invokestatic 163, 3) := by decide +kernel
theorem dX11_isStorm_28 : decode cX11_isStorm 28 = .ok (.ifCond .eq 7, 3) := by decide +kernel
theorem dX11_isStorm_31 : decode cX11_isStorm 31 = .ok (.iconst 1, 1) := by decide +kernel
theorem dX11_isStorm_32 : decode cX11_isStorm 32 = .ok (.goto 4, 3) := by decide +kernel
theorem dX11_isStorm_35 : decode cX11_isStorm 35 = .ok (.iconst 0, 1) := by decide +kernel
theorem dX11_isStorm_36 : decode cX11_isStorm 36 = .ok (.ireturn, 1) := by decide +kernel
set_option maxHeartbeats 4000000 in
set_option maxRecDepth 100000 in
theorem c_X11_isStorm (l : Launch) (G : GG) (sz : Nat)  (F : Nat) (b0 : Int32) (b1 : Int32) (b2 : Int32) (b3 : Int32) (b4 : Int32)  (r0 : Int32) (hf : p_X11_isStorm F b0 b1 b2 b3 b4 = some r0) : Met l yX11_isStorm (.code yX11_isStorm cX11_isStorm 5 (some .boolean) :: gtbl) ({ frames := 1, cells := 0, slots := 0, locals := 22 } : Room) (PcS G [.int b0, .int b1, .int b2, .int b3, .int b4] [] sz) (QiS G r0 (va_A [] sz) []) 0 0 (va_A [] sz) := by
  refine met_start (by decide) (Nat.le_of_ble_eq_true rfl) ?_
  intro p e s m below meth c hC hr hlk hnm hK hP hD hA hS hX ls hl
  obtain ⟨hx, hb, hml, hown, ht0⟩ := hC
  have hown : s.vm.findClass RX11 = some m.cls := hown
  generalize va_A [] sz = A at hD hA hS hX ⊢
  have hl : lv_has ls 5 [(0, .int b0), (1, .int b1), (2, .int b2), (3, .int b3), (4, .int b4)] := hl
  have hf : p_X11_isStorm F b0 b1 b2 b3 b4 = some r0 := hf
  refine lv_iload_n hx hb dX11_isStorm_0 rfl (lv_at hl 0 rfl) ?_
  refine lv_iconst (v := (0 : Int32)) hx hb dX11_isStorm_1 (by decide) ?_
  refine lv_sipush (v := (9999 : Int32)) hx hb dX11_isStorm_2 (by decide) ?_
  obtain ⟨r_5_0, hc_r_5_0, hf⟩ := of_bnd hf
  refine cl_Si (w2 := []) (As := [.int b0, .int (0 : Int32), .int (9999 : Int32)]) (rest := []) ⟨hx, hb, hml, hown, ht0⟩ (c_X11_isIn l G _ F b0 (0 : Int32) (9999 : Int32) _ hc_r_5_0) yk_X11_isIn wd_1321 ⟨rfl, rfl, by decide, by decide⟩ ⟨Nat.le_refl _, Nat.le_refl _⟩ hX hK hP hD hS hA [] [] [] rfl rfl (by decide) rfl rfl rfl rfl rfl hl.1 rfl (Nat.le_of_ble_eq_true rfl) dX11_isStorm_5 (fun H locs hP hD hS => ?_)
  refine lv_if_eq (tgt := 35) hx hb dX11_isStorm_8 (by decide) (fun c2 => ?_) (fun c2 => ?_)
  · have hf := of_pos hf c2
    refine lv_iconst (v := (0 : Int32)) hx hb dX11_isStorm_35 (by decide) ?_
    cases hf
    exact ret_z hx hb hr hlk hK hP hD hS (by decide) dX11_isStorm_36
  · have hf := of_neg hf c2
    refine lv_iload_n hx hb dX11_isStorm_11 rfl (lv_at hl 1 rfl) ?_
    refine lv_iload_n hx hb dX11_isStorm_12 rfl (lv_at hl 2 rfl) ?_
    refine lv_iload_n hx hb dX11_isStorm_13 rfl (lv_at hl 3 rfl) ?_
    obtain ⟨r_14_2, hc_r_14_2, hf⟩ := of_bnd hf
    refine cl_Si (w2 := []) (As := [.int b1, .int b2, .int b3]) (rest := []) ⟨hx, hb, hml, hown, ht0⟩ (c_X11_isIn l G _ F b1 b2 b3 _ hc_r_14_2) yk_X11_isIn wd_1321 ⟨rfl, rfl, by decide, by decide⟩ ⟨Nat.le_refl _, Nat.le_refl _⟩ hX hK hP hD hS hA [] [] [] rfl rfl (by decide) rfl rfl rfl rfl rfl hl.1 rfl (Nat.le_of_ble_eq_true rfl) dX11_isStorm_14 (fun H locs hP hD hS => ?_)
    refine lv_if_eq (tgt := 35) hx hb dX11_isStorm_17 (by decide) (fun c4 => ?_) (fun c4 => ?_)
    · have hf := of_pos hf c4
      refine lv_iconst (v := (0 : Int32)) hx hb dX11_isStorm_35 (by decide) ?_
      cases hf
      exact ret_z hx hb hr hlk hK hP hD hS (by decide) dX11_isStorm_36
    · have hf := of_neg hf c4
      refine lv_iload hx hb dX11_isStorm_20 (lv_at hl 4 rfl) ?_
      refine lv_iconst (v := (0 : Int32)) hx hb dX11_isStorm_22 (by decide) ?_
      refine lv_bipush (v := (50 : Int32)) hx hb dX11_isStorm_23 (by decide) ?_
      obtain ⟨r_25_4, hc_r_25_4, hf⟩ := of_bnd hf
      refine cl_Si (w2 := []) (As := [.int b4, .int (0 : Int32), .int (50 : Int32)]) (rest := []) ⟨hx, hb, hml, hown, ht0⟩ (c_X11_isIn l G _ F b4 (0 : Int32) (50 : Int32) _ hc_r_25_4) yk_X11_isIn wd_1321 ⟨rfl, rfl, by decide, by decide⟩ ⟨Nat.le_refl _, Nat.le_refl _⟩ hX hK hP hD hS hA [] [] [] rfl rfl (by decide) rfl rfl rfl rfl rfl hl.1 rfl (Nat.le_of_ble_eq_true rfl) dX11_isStorm_25 (fun H locs hP hD hS => ?_)
      refine lv_if_eq (tgt := 35) hx hb dX11_isStorm_28 (by decide) (fun c6 => ?_) (fun c6 => ?_)
      · have hf := of_pos hf c6
        refine lv_iconst (v := (0 : Int32)) hx hb dX11_isStorm_35 (by decide) ?_
        cases hf
        exact ret_z hx hb hr hlk hK hP hD hS (by decide) dX11_isStorm_36
      · have hf := of_neg hf c6
        refine lv_iconst (v := (1 : Int32)) hx hb dX11_isStorm_31 (by decide) ?_
        refine lv_goto (tgt := 36) hx hb dX11_isStorm_32 (by decide) ?_
        cases hf
        exact ret_z hx hb hr hlk hK hP hD hS (by decide) dX11_isStorm_36
theorem yk_X11_isStorm : ykS yX11_isStorm cX11_isStorm 5 (some .boolean) 5 := ⟨wd_1712, wd_142, wd_1713, by decide +kernel, by decide +kernel, by decide +kernel⟩
theorem dX11_storm_0 : decode cX11_storm 0 = .ok (.iload_n 1, 1) := by decide +kernel
theorem dX11_storm_1 : decode cX11_storm 1 = .ok (.iload_n 2, 1) := by decide +kernel
theorem dX11_storm_2 : decode cX11_storm 2 = .ok (.iconst 1, 1) := by decide +kernel
theorem dX11_storm_3 : decode cX11_storm 3 = .ok (.sipush 200, 3) := by decide +kernel
theorem dX11_storm_6 : decode cX11_storm 6 = .ok (.iload_n 3, 1) := by decide +kernel
theorem dX11_storm_7 : decode cX11_storm 7 = .ok (.invokestatic 362, 3) := by decide +kernel
theorem dX11_storm_10 : decode cX11_storm 10 = .ok (.ifCond .ne 5, 3) := by decide +kernel
theorem dX11_storm_13 : decode cX11_storm 13 = .ok (.iconst (-1), 1) := by decide +kernel
theorem dX11_storm_14 : decode cX11_storm 14 = .ok (.ireturn, 1) := by decide +kernel
theorem dX11_storm_15 : decode cX11_storm 15 = .ok (.aload_n 0, 1) := by decide +kernel
theorem dX11_storm_16 : decode cX11_storm 16 = .ok (.invokevirtual 356, 3) := by decide +kernel
theorem dX11_storm_19 : decode cX11_storm 19 = .ok (.aload_n 0, 1) := by decide +kernel
theorem dX11_storm_20 : decode cX11_storm 20 = .ok (.iload_n 1, 1) := by decide +kernel
theorem dX11_storm_21 : decode cX11_storm 21 = .ok (.iload_n 2, 1) := by decide +kernel
theorem dX11_storm_22 : decode cX11_storm 22 = .ok (.iload_n 3, 1) := by decide +kernel
theorem dX11_storm_23 : decode cX11_storm 23 = .ok (.invokevirtual 366, 3) := by decide +kernel
theorem dX11_storm_26 : decode cX11_storm 26 = .ok (.aload_n 0, 1) := by decide +kernel
theorem dX11_storm_27 : decode cX11_storm 27 = .ok (.invokevirtual 369, 3) := by decide +kernel
theorem dX11_storm_30 : decode cX11_storm 30 = .ok (.ireturn, 1) := by decide +kernel
def wW_X11_storm (G : GG) (h0 h1 h2 h3 h4 y0_3 y0_4 y0_6 y0_18 y0_21 y0_22 y0_23 y0_24 y0_25 y0_26 y0_33 y0_34 y0_38 y0_39 y0_40 y0_41 y0_42 y0_43 y0_45 y0_47 y0_48 : Nat) (x0_5 : Int32) (x0_7 : Int32) (x0_8 : Int32) (x0_9 : Int32) (x0_10 : Int32) (x0_11 : Int32) (x0_12 : Int32) (x0_13 : Int32) (x0_14 : Int32) (x0_15 : Int32) (x0_16 : Int32) (x0_17 : Int32) (x0_19 : Int32) (x0_20 : Int32) (x0_27 : Int32) (x0_28 : Int32) (x0_29 : Int32) (x0_30 : Int32) (x0_31 : Int32) (x0_32 : Int32) (x0_35 : Int32) (x0_36 : Int32) (x0_37 : Int32) (x0_44 : Int32) (x0_49 : Int32) (x0_50 : Int32) (a1 : Nat → Int32) (a2 : Nat → Int32) (a3 : Nat → Int32) (a4 : Nat → Int32) : va_W := [(h0, .inr (11, [.ref h1, .ref h2, .ref h3, .ref y0_3, .ref y0_4, .int x0_5, .ref y0_6, .int x0_7, .int x0_8, .int x0_9, .int x0_10, .int x0_11, .int x0_12, .int x0_13, .int x0_14, .int x0_15, .int x0_16, .int x0_17, .ref y0_18, .int x0_19, .int x0_20, .ref y0_21, .ref y0_22, .ref y0_23, .ref y0_24, .ref y0_25, .ref y0_26, .int x0_27, .int x0_28, .int x0_29, .int x0_30, .int x0_31, .int x0_32, .ref y0_33, .ref y0_34, .int x0_35, .int x0_36, .int x0_37, .ref y0_38, .ref y0_39, .ref y0_40, .ref y0_41, .ref y0_42, .ref y0_43, .int x0_44, .ref y0_45, .ref h4, .ref y0_47, .ref y0_48, .int x0_49, .int x0_50])), (h1, .inl (G.2.1, 121, .inl a1)), (h2, .inl (G.2.1, 2, .inl a2)), (h3, .inl (G.2.1, 2, .inl a3)), (h4, .inl (G.2.1, 1573, .inl a4))]
set_option maxHeartbeats 4000000 in
set_option maxRecDepth 100000 in
theorem c_X11_storm (l : Launch) (G : GG) (h0 h1 h2 h3 h4 y0_3 y0_4 y0_6 y0_18 y0_21 y0_22 y0_23 y0_24 y0_25 y0_26 y0_33 y0_34 y0_38 y0_39 y0_40 y0_41 y0_42 y0_43 y0_45 y0_47 y0_48 : Nat) (sz : Nat) (x0_5 : Int32) (x0_7 : Int32) (x0_8 : Int32) (x0_9 : Int32) (x0_10 : Int32) (x0_11 : Int32) (x0_12 : Int32) (x0_13 : Int32) (x0_14 : Int32) (x0_15 : Int32) (x0_16 : Int32) (x0_17 : Int32) (x0_19 : Int32) (x0_20 : Int32) (x0_27 : Int32) (x0_28 : Int32) (x0_29 : Int32) (x0_30 : Int32) (x0_31 : Int32) (x0_32 : Int32) (x0_35 : Int32) (x0_36 : Int32) (x0_37 : Int32) (x0_44 : Int32) (x0_49 : Int32) (x0_50 : Int32) (a1 : Nat → Int32) (a2 : Nat → Int32) (a3 : Nat → Int32) (a4 : Nat → Int32) (F : Nat) (b1 : Int32) (b2 : Int32) (b3 : Int32)  (r0 : Int32) (e_x0_29 : Int32) (e_x0_30 : Int32) (e_x0_31 : Int32) (e_x0_32 : Int32) (e_x0_49 : Int32) (e_x0_50 : Int32) (e_a1 : Nat → Int32) (e_a4 : Nat → Int32) (hf : p_X11_storm F x0_5 x0_29 x0_30 x0_31 x0_32 x0_49 x0_50 a1 a2 a3 a4 b1 b2 b3 = some (r0, e_x0_29, e_x0_30, e_x0_31, e_x0_32, e_x0_49, e_x0_50, e_a1, e_a4)) : Met l yX11_storm (.code yX11_storm cX11_storm 4 (some .int) :: gtbl) ({ frames := 10, cells := 0, slots := 0, locals := 234 } : Room) (PcS G [.ref h0, .int b1, .int b2, .int b3] (wW_X11_storm G h0 h1 h2 h3 h4 y0_3 y0_4 y0_6 y0_18 y0_21 y0_22 y0_23 y0_24 y0_25 y0_26 y0_33 y0_34 y0_38 y0_39 y0_40 y0_41 y0_42 y0_43 y0_45 y0_47 y0_48 x0_5 x0_7 x0_8 x0_9 x0_10 x0_11 x0_12 x0_13 x0_14 x0_15 x0_16 x0_17 x0_19 x0_20 x0_27 x0_28 x0_29 x0_30 x0_31 x0_32 x0_35 x0_36 x0_37 x0_44 x0_49 x0_50 a1 a2 a3 a4) sz) (QiS G r0 (va_A (wW_X11_storm G h0 h1 h2 h3 h4 y0_3 y0_4 y0_6 y0_18 y0_21 y0_22 y0_23 y0_24 y0_25 y0_26 y0_33 y0_34 y0_38 y0_39 y0_40 y0_41 y0_42 y0_43 y0_45 y0_47 y0_48 x0_5 x0_7 x0_8 x0_9 x0_10 x0_11 x0_12 x0_13 x0_14 x0_15 x0_16 x0_17 x0_19 x0_20 x0_27 x0_28 x0_29 x0_30 x0_31 x0_32 x0_35 x0_36 x0_37 x0_44 x0_49 x0_50 a1 a2 a3 a4) sz) (wW_X11_storm G h0 h1 h2 h3 h4 y0_3 y0_4 y0_6 y0_18 y0_21 y0_22 y0_23 y0_24 y0_25 y0_26 y0_33 y0_34 y0_38 y0_39 y0_40 y0_41 y0_42 y0_43 y0_45 y0_47 y0_48 x0_5 x0_7 x0_8 x0_9 x0_10 x0_11 x0_12 x0_13 x0_14 x0_15 x0_16 x0_17 x0_19 x0_20 x0_27 x0_28 e_x0_29 e_x0_30 e_x0_31 e_x0_32 x0_35 x0_36 x0_37 x0_44 e_x0_49 e_x0_50 e_a1 a2 a3 e_a4)) 0 0 (va_A (wW_X11_storm G h0 h1 h2 h3 h4 y0_3 y0_4 y0_6 y0_18 y0_21 y0_22 y0_23 y0_24 y0_25 y0_26 y0_33 y0_34 y0_38 y0_39 y0_40 y0_41 y0_42 y0_43 y0_45 y0_47 y0_48 x0_5 x0_7 x0_8 x0_9 x0_10 x0_11 x0_12 x0_13 x0_14 x0_15 x0_16 x0_17 x0_19 x0_20 x0_27 x0_28 x0_29 x0_30 x0_31 x0_32 x0_35 x0_36 x0_37 x0_44 x0_49 x0_50 a1 a2 a3 a4) sz) := by
  refine met_start (by decide) (Nat.le_of_ble_eq_true rfl) ?_
  intro p e s m below meth c hC hr hlk hnm hK hP hD hA hS hX ls hl
  obtain ⟨hx, hb, hml, hown, ht0⟩ := hC
  have hown : s.vm.findClass RX11 = some m.cls := hown
  generalize va_A (wW_X11_storm G h0 h1 h2 h3 h4 y0_3 y0_4 y0_6 y0_18 y0_21 y0_22 y0_23 y0_24 y0_25 y0_26 y0_33 y0_34 y0_38 y0_39 y0_40 y0_41 y0_42 y0_43 y0_45 y0_47 y0_48 x0_5 x0_7 x0_8 x0_9 x0_10 x0_11 x0_12 x0_13 x0_14 x0_15 x0_16 x0_17 x0_19 x0_20 x0_27 x0_28 x0_29 x0_30 x0_31 x0_32 x0_35 x0_36 x0_37 x0_44 x0_49 x0_50 a1 a2 a3 a4) sz = A at hD hA hS hX ⊢
  have hl : lv_has ls 4 [(0, .ref h0), (1, .int b1), (2, .int b2), (3, .int b3)] := hl
  have hf : p_X11_storm F x0_5 x0_29 x0_30 x0_31 x0_32 x0_49 x0_50 a1 a2 a3 a4 b1 b2 b3 = some (r0, e_x0_29, e_x0_30, e_x0_31, e_x0_32, e_x0_49, e_x0_50, e_a1, e_a4) := hf
  refine lv_iload_n hx hb dX11_storm_0 rfl (lv_at hl 1 rfl) ?_
  refine lv_iload_n hx hb dX11_storm_1 rfl (lv_at hl 2 rfl) ?_
  refine lv_iconst (v := (1 : Int32)) hx hb dX11_storm_2 (by decide) ?_
  refine lv_sipush (v := (200 : Int32)) hx hb dX11_storm_3 (by decide) ?_
  refine lv_iload_n hx hb dX11_storm_6 rfl (lv_at hl 3 rfl) ?_
  obtain ⟨r_7_0, hc_r_7_0, hf⟩ := of_bnd hf
  refine cl_Si (w2 := (wW_X11_storm G h0 h1 h2 h3 h4 y0_3 y0_4 y0_6 y0_18 y0_21 y0_22 y0_23 y0_24 y0_25 y0_26 y0_33 y0_34 y0_38 y0_39 y0_40 y0_41 y0_42 y0_43 y0_45 y0_47 y0_48 x0_5 x0_7 x0_8 x0_9 x0_10 x0_11 x0_12 x0_13 x0_14 x0_15 x0_16 x0_17 x0_19 x0_20 x0_27 x0_28 x0_29 x0_30 x0_31 x0_32 x0_35 x0_36 x0_37 x0_44 x0_49 x0_50 a1 a2 a3 a4)) (As := [.int b1, .int b2, .int (1 : Int32), .int (200 : Int32), .int b3]) (rest := []) ⟨hx, hb, hml, hown, ht0⟩ (c_X11_isStorm l G _ F b1 b2 (1 : Int32) (200 : Int32) b3 _ hc_r_7_0) yk_X11_isStorm wd_1711 ⟨rfl, rfl, by decide, by decide⟩ ⟨Nat.le_refl _, Nat.le_refl _⟩ hX hK hP hD hS hA [] [0, 1, 2, 3, 4] [0, 1, 2, 3, 4] rfl rfl (by decide) rfl rfl rfl rfl rfl hl.1 rfl (Nat.le_of_ble_eq_true rfl) dX11_storm_7 (fun H locs hP hD hS => ?_)
  refine lv_if_ne (tgt := 15) hx hb dX11_storm_10 (by decide) (fun c2 => ?_) (fun c2 => ?_)
  · have hf := of_neg hf c2
    refine lv_aload_n hx hb dX11_storm_15 rfl (lv_at hl 0 rfl) ?_
    obtain ⟨⟨r_16_2_x0_49, r_16_2_x0_50, r_16_2_a2⟩, hc_r_16_2, hf⟩ := of_bnd hf
    refine cl_Vv (w2 := (wW_X11_storm G h0 h1 h2 h3 h4 y0_3 y0_4 y0_6 y0_18 y0_21 y0_22 y0_23 y0_24 y0_25 y0_26 y0_33 y0_34 y0_38 y0_39 y0_40 y0_41 y0_42 y0_43 y0_45 y0_47 y0_48 x0_5 x0_7 x0_8 x0_9 x0_10 x0_11 x0_12 x0_13 x0_14 x0_15 x0_16 x0_17 x0_19 x0_20 x0_27 x0_28 x0_29 x0_30 x0_31 x0_32 x0_35 x0_36 x0_37 x0_44 r_16_2_x0_49 r_16_2_x0_50 a1 a2 a3 r_16_2_a2)) (As := []) (rest := []) ⟨hx, hb, hml, hown, ht0⟩ (c_X11_keepAct l G h0 h1 h4 h2 h3 y0_3 y0_4 y0_6 y0_18 y0_21 y0_22 y0_23 y0_24 y0_25 y0_26 y0_33 y0_34 y0_38 y0_39 y0_40 y0_41 y0_42 y0_43 y0_45 y0_47 y0_48 _ x0_5 x0_7 x0_8 x0_9 x0_10 x0_11 x0_12 x0_13 x0_14 x0_15 x0_16 x0_17 x0_19 x0_20 x0_27 x0_28 x0_29 x0_30 x0_31 x0_32 x0_35 x0_36 x0_37 x0_44 x0_49 x0_50 a1 a4 F _ _ _ hc_r_16_2) yk_X11_keepAct wd_1595 ⟨rfl, rfl, by decide, by decide⟩ ⟨Nat.le_refl _, Nat.le_refl _⟩ hX hK hP hD hS hA [0, 1, 4] [2, 3] [2, 3, 0, 1, 4] (va_recv hK hP (ci := 11) (q0 := 0) rfl rfl) rfl rfl (by decide) rfl rfl rfl rfl rfl hl.1 rfl (Nat.le_of_ble_eq_true rfl) dX11_storm_16 (fun H locs hP hD hS => ?_)
    refine lv_aload_n hx hb dX11_storm_19 rfl (lv_at hl 0 rfl) ?_
    refine lv_iload_n hx hb dX11_storm_20 rfl (lv_at hl 1 rfl) ?_
    refine lv_iload_n hx hb dX11_storm_21 rfl (lv_at hl 2 rfl) ?_
    refine lv_iload_n hx hb dX11_storm_22 rfl (lv_at hl 3 rfl) ?_
    obtain ⟨⟨r_23_3_x0_29, r_23_3_x0_30, r_23_3_x0_31, r_23_3_x0_32, r_23_3_a1⟩, hc_r_23_3, hf⟩ := of_bnd hf
    refine cl_Vv (w2 := (wW_X11_storm G h0 h1 h2 h3 h4 y0_3 y0_4 y0_6 y0_18 y0_21 y0_22 y0_23 y0_24 y0_25 y0_26 y0_33 y0_34 y0_38 y0_39 y0_40 y0_41 y0_42 y0_43 y0_45 y0_47 y0_48 x0_5 x0_7 x0_8 x0_9 x0_10 x0_11 x0_12 x0_13 x0_14 x0_15 x0_16 x0_17 x0_19 x0_20 x0_27 x0_28 r_23_3_x0_29 r_23_3_x0_30 r_23_3_x0_31 r_23_3_x0_32 x0_35 x0_36 x0_37 x0_44 r_16_2_x0_49 r_16_2_x0_50 r_23_3_a1 a2 a3 r_16_2_a2)) (As := [.int b1, .int b2, .int b3]) (rest := []) ⟨hx, hb, hml, hown, ht0⟩ (c_X11_stormNow l G h0 h1 h2 h3 y0_3 y0_4 y0_6 y0_18 y0_21 y0_22 y0_23 y0_24 y0_25 y0_26 y0_33 y0_34 y0_38 y0_39 y0_40 y0_41 y0_42 y0_43 y0_45 h4 y0_47 y0_48 _ x0_5 x0_7 x0_8 x0_9 x0_10 x0_11 x0_12 x0_13 x0_14 x0_15 x0_16 x0_17 x0_19 x0_20 x0_27 x0_28 x0_29 x0_30 x0_31 x0_32 x0_35 x0_36 x0_37 x0_44 r_16_2_x0_49 r_16_2_x0_50 a1 a2 a3 F b1 b2 b3 _ _ _ _ _ hc_r_23_3) yk_X11_stormNow wd_1714 ⟨rfl, rfl, by decide, by decide⟩ ⟨Nat.le_refl _, Nat.le_refl _⟩ hX hK hP hD hS hA [0, 1, 2, 3] [4] [1, 2, 3, 4, 0] (va_recv hK hP (ci := 11) (q0 := 0) rfl rfl) rfl rfl (by decide) rfl rfl rfl rfl rfl hl.1 rfl (Nat.le_of_ble_eq_true rfl) dX11_storm_23 (fun H locs hP hD hS => ?_)
    refine lv_aload_n hx hb dX11_storm_26 rfl (lv_at hl 0 rfl) ?_
    obtain ⟨r_27_4, hc_r_27_4, hf⟩ := of_bnd hf
    refine cl_Vi (w2 := (wW_X11_storm G h0 h1 h2 h3 h4 y0_3 y0_4 y0_6 y0_18 y0_21 y0_22 y0_23 y0_24 y0_25 y0_26 y0_33 y0_34 y0_38 y0_39 y0_40 y0_41 y0_42 y0_43 y0_45 y0_47 y0_48 x0_5 x0_7 x0_8 x0_9 x0_10 x0_11 x0_12 x0_13 x0_14 x0_15 x0_16 x0_17 x0_19 x0_20 x0_27 x0_28 r_23_3_x0_29 r_23_3_x0_30 r_23_3_x0_31 r_23_3_x0_32 x0_35 x0_36 x0_37 x0_44 r_16_2_x0_49 r_16_2_x0_50 r_23_3_a1 a2 a3 r_16_2_a2)) (As := []) (rest := []) ⟨hx, hb, hml, hown, ht0⟩ (c_X11_strangeMany l G h0 h1 h2 h3 y0_3 y0_4 y0_6 y0_18 y0_21 y0_22 y0_23 y0_24 y0_25 y0_26 y0_33 y0_34 y0_38 y0_39 y0_40 y0_41 y0_42 y0_43 y0_45 h4 y0_47 y0_48 _ x0_5 x0_7 x0_8 x0_9 x0_10 x0_11 x0_12 x0_13 x0_14 x0_15 x0_16 x0_17 x0_19 x0_20 x0_27 x0_28 r_23_3_x0_29 r_23_3_x0_30 r_23_3_x0_31 r_23_3_x0_32 x0_35 x0_36 x0_37 x0_44 r_16_2_x0_49 r_16_2_x0_50 r_23_3_a1 a2 F _ hc_r_27_4) yk_X11_strangeMany wd_1718 ⟨rfl, rfl, by decide, by decide⟩ ⟨Nat.le_refl _, Nat.le_refl _⟩ hX hK hP hD hS hA [0, 1, 2] [3, 4] [2, 3, 4, 0, 1] (va_recv hK hP (ci := 11) (q0 := 0) rfl rfl) rfl rfl (by decide) rfl rfl rfl rfl rfl hl.1 rfl (Nat.le_of_ble_eq_true rfl) dX11_storm_27 (fun H locs hP hD hS => ?_)
    cases hf
    exact ret_i hx hb hr hlk hK hP hD hS dX11_storm_30
  · have hf := of_pos hf c2
    refine lv_iconst (v := (-1 : Int32)) hx hb dX11_storm_13 (by decide) ?_
    cases hf
    exact ret_i hx hb hr hlk hK hP hD hS dX11_storm_14
theorem yk_X11_storm : ykV yX11_storm RX11 cX11_storm 4 (some .int) 3 := ⟨wd_1708, wd_1709, wd_142, wd_1710, rfl, by decide +kernel, by decide +kernel, by decide +kernel⟩
theorem dX11_stick_0 : decode cX11_stick 0 = .ok (.iload_n 1, 1) := by decide +kernel
theorem dX11_stick_1 : decode cX11_stick 1 = .ok (.invokestatic 350, 3) := by decide +kernel
theorem dX11_stick_4 : decode cX11_stick 4 = .ok (.ifCond .eq 38, 3) := by decide +kernel
theorem dX11_stick_7 : decode cX11_stick 7 = .ok (.aload_n 0, 1) := by decide +kernel
theorem dX11_stick_8 : decode cX11_stick 8 = .ok (.iload_n 2, 1) := by decide +kernel
theorem dX11_stick_9 : decode cX11_stick 9 = .ok (.invokevirtual 359, 3) := by decide +kernel
theorem dX11_stick_12 : decode cX11_stick 12 = .ok (.ifCond .eq 30, 3) := by decide +kernel
theorem dX11_stick_15 : decode cX11_stick 15 = .ok (.iload_n 3, 1) := by decide +kernel
theorem dX11_stick_16 : decode cX11_stick 16 = .ok (.iconst 0, 1) := by decide +kernel
theorem dX11_stick_17 : decode cX11_stick 17 = .ok (.iconst 1, 1) := by decide +kernel
theorem dX11_stick_18 : decode cX11_stick 18 = .ok (.invokestatic 163, 3) := by decide +kernel
theorem dX11_stick_21 : decode cX11_stick 21 = .ok (.ifCond .eq 21, 3) := by decide +kernel
theorem dX11_stick_24 : decode cX11_stick 24 = .ok (.aload_n 0, 1) := by decide +kernel
theorem dX11_stick_25 : decode cX11_stick 25 = .ok (.iload_n 1, 1) := by decide +kernel
theorem dX11_stick_26 : decode cX11_stick 26 = .ok (.iload_n 2, 1) := by decide +kernel
theorem dX11_stick_27 : decode cX11_stick 27 = .ok (.invokevirtual 338, 3) := by decide +kernel
theorem dX11_stick_30 : decode cX11_stick 30 = .ok (.ifCond .ne 12, 3) := by decide +kernel
theorem dX11_stick_33 : decode cX11_stick 33 = .ok (.aload_n 0, 1) := by decide +kernel
theorem dX11_stick_34 : decode cX11_stick 34 = .ok (.iload_n 1, 1) := by decide +kernel
theorem dX11_stick_35 : decode cX11_stick 35 = .ok (.invokevirtual 372, 3) := by decide +kernel
theorem dX11_stick_38 : decode cX11_stick 38 = .ok (.iconst 2, 1) := by decide +kernel
theorem dX11_stick_39 : decode cX11_stick 39 = .ok (.if_icmp .ne 5, 3) := by decide +kernel
theorem dX11_stick_42 : decode cX11_stick 42 = .ok (.iconst 0, 1) := by decide +kernel
theorem dX11_stick_43 : decode cX11_stick 43 = .ok (.ireturn, 1) := by decide +kernel
theorem dX11_stick_44 : decode cX11_stick 44 = .ok (.aload_n 0, 1) := by decide +kernel
theorem dX11_stick_45 : decode cX11_stick 45 = .ok (.invokevirtual 356, 3) := by decide +kernel
theorem dX11_stick_48 : decode cX11_stick 48 = .ok (.aload_n 0, 1) := by decide +kernel
theorem dX11_stick_49 : decode cX11_stick 49 = .ok (.iload_n 1, 1) := by decide +kernel
theorem dX11_stick_50 : decode cX11_stick 50 = .ok (.iload_n 2, 1) := by decide +kernel
theorem dX11_stick_51 : decode cX11_stick 51 = .ok (.iload_n 3, 1) := by decide +kernel
theorem dX11_stick_52 : decode cX11_stick 52 = .ok (.invokevirtual 281, 3) := by decide +kernel
theorem dX11_stick_55 : decode cX11_stick 55 = .ok (.aload_n 0, 1) := by decide +kernel
theorem dX11_stick_56 : decode cX11_stick 56 = .ok (.getfield 7, 3) := by decide +kernel
theorem dX11_stick_59 : decode cX11_stick 59 = .ok (.bipush 81, 2) := by decide +kernel
theorem dX11_stick_61 : decode cX11_stick 61 = .ok (.iconst 2, 1) := by decide +kernel
theorem dX11_stick_62 : decode cX11_stick 62 = .ok (.iload_n 1, 1) := by decide +kernel
theorem dX11_stick_63 : decode cX11_stick 63 = .ok (.imul, 1) := by decide +kernel
theorem dX11_stick_64 : decode cX11_stick 64 = .ok (.iadd, 1) := by decide +kernel
theorem dX11_stick_65 : decode cX11_stick 65 = .ok (.aload_n 0, 1) := by decide +kernel
theorem dX11_stick_66 : decode cX11_stick 66 = .ok (.iload_n 1, 1) := by decide +kernel
theorem dX11_stick_67 : decode cX11_stick 67 = .ok (.invokevirtual 372, 3) := by decide +kernel
theorem dX11_stick_70 : decode cX11_stick 70 = .ok (.iadd, 1) := by decide +kernel
theorem dX11_stick_71 : decode cX11_stick 71 = .ok (.iload_n 2, 1) := by decide +kernel
theorem dX11_stick_72 : decode cX11_stick 72 = .ok (.iconst 1, 1) := by decide +kernel
theorem dX11_stick_73 : decode cX11_stick 73 = .ok (.iadd, 1) := by decide +kernel
theorem dX11_stick_74 : decode cX11_stick 74 = .ok (.iastore, 1) := by decide +kernel
theorem dX11_stick_75 : decode cX11_stick 75 = .ok (.iconst 1, 1) := by decide +kernel
theorem dX11_stick_76 : decode cX11_stick 76 = .ok (.ireturn, 1) := by decide +kernel
def wW_X11_stick (G : GG) (h0 h1 h2 h3 h4 y0_3 y0_4 y0_6 y0_18 y0_21 y0_22 y0_23 y0_24 y0_25 y0_26 y0_33 y0_34 y0_38 y0_39 y0_40 y0_41 y0_42 y0_43 y0_45 y0_47 y0_48 : Nat) (x0_5 : Int32) (x0_7 : Int32) (x0_8 : Int32) (x0_9 : Int32) (x0_10 : Int32) (x0_11 : Int32) (x0_12 : Int32) (x0_13 : Int32) (x0_14 : Int32) (x0_15 : Int32) (x0_16 : Int32) (x0_17 : Int32) (x0_19 : Int32) (x0_20 : Int32) (x0_27 : Int32) (x0_28 : Int32) (x0_29 : Int32) (x0_30 : Int32) (x0_31 : Int32) (x0_32 : Int32) (x0_35 : Int32) (x0_36 : Int32) (x0_37 : Int32) (x0_44 : Int32) (x0_49 : Int32) (x0_50 : Int32) (a1 : Nat → Int32) (a2 : Nat → Int32) (a3 : Nat → Int32) (a4 : Nat → Int32) : va_W := [(h0, .inr (11, [.ref h1, .ref h2, .ref h3, .ref y0_3, .ref y0_4, .int x0_5, .ref y0_6, .int x0_7, .int x0_8, .int x0_9, .int x0_10, .int x0_11, .int x0_12, .int x0_13, .int x0_14, .int x0_15, .int x0_16, .int x0_17, .ref y0_18, .int x0_19, .int x0_20, .ref y0_21, .ref y0_22, .ref y0_23, .ref y0_24, .ref y0_25, .ref y0_26, .int x0_27, .int x0_28, .int x0_29, .int x0_30, .int x0_31, .int x0_32, .ref y0_33, .ref y0_34, .int x0_35, .int x0_36, .int x0_37, .ref y0_38, .ref y0_39, .ref y0_40, .ref y0_41, .ref y0_42, .ref y0_43, .int x0_44, .ref y0_45, .ref h4, .ref y0_47, .ref y0_48, .int x0_49, .int x0_50])), (h1, .inl (G.2.1, 121, .inl a1)), (h2, .inl (G.2.1, 2, .inl a2)), (h3, .inl (G.2.1, 2, .inl a3)), (h4, .inl (G.2.1, 1573, .inl a4))]
set_option maxHeartbeats 4000000 in
set_option maxRecDepth 100000 in
theorem c_X11_stick (l : Launch) (G : GG) (h0 h1 h2 h3 h4 y0_3 y0_4 y0_6 y0_18 y0_21 y0_22 y0_23 y0_24 y0_25 y0_26 y0_33 y0_34 y0_38 y0_39 y0_40 y0_41 y0_42 y0_43 y0_45 y0_47 y0_48 : Nat) (sz : Nat) (x0_5 : Int32) (x0_7 : Int32) (x0_8 : Int32) (x0_9 : Int32) (x0_10 : Int32) (x0_11 : Int32) (x0_12 : Int32) (x0_13 : Int32) (x0_14 : Int32) (x0_15 : Int32) (x0_16 : Int32) (x0_17 : Int32) (x0_19 : Int32) (x0_20 : Int32) (x0_27 : Int32) (x0_28 : Int32) (x0_29 : Int32) (x0_30 : Int32) (x0_31 : Int32) (x0_32 : Int32) (x0_35 : Int32) (x0_36 : Int32) (x0_37 : Int32) (x0_44 : Int32) (x0_49 : Int32) (x0_50 : Int32) (a1 : Nat → Int32) (a2 : Nat → Int32) (a3 : Nat → Int32) (a4 : Nat → Int32) (F : Nat) (b1 : Int32) (b2 : Int32) (b3 : Int32)  (r0 : Int32) (e_x0_49 : Int32) (e_x0_50 : Int32) (e_a1 : Nat → Int32) (e_a4 : Nat → Int32) (hf : p_X11_stick F x0_5 x0_49 x0_50 a1 a2 a3 a4 b1 b2 b3 = some (r0, e_x0_49, e_x0_50, e_a1, e_a4)) : Met l yX11_stick (.code yX11_stick cX11_stick 4 (some .boolean) :: gtbl) ({ frames := 4, cells := 0, slots := 0, locals := 88 } : Room) (PcS G [.ref h0, .int b1, .int b2, .int b3] (wW_X11_stick G h0 h1 h2 h3 h4 y0_3 y0_4 y0_6 y0_18 y0_21 y0_22 y0_23 y0_24 y0_25 y0_26 y0_33 y0_34 y0_38 y0_39 y0_40 y0_41 y0_42 y0_43 y0_45 y0_47 y0_48 x0_5 x0_7 x0_8 x0_9 x0_10 x0_11 x0_12 x0_13 x0_14 x0_15 x0_16 x0_17 x0_19 x0_20 x0_27 x0_28 x0_29 x0_30 x0_31 x0_32 x0_35 x0_36 x0_37 x0_44 x0_49 x0_50 a1 a2 a3 a4) sz) (QiS G r0 (va_A (wW_X11_stick G h0 h1 h2 h3 h4 y0_3 y0_4 y0_6 y0_18 y0_21 y0_22 y0_23 y0_24 y0_25 y0_26 y0_33 y0_34 y0_38 y0_39 y0_40 y0_41 y0_42 y0_43 y0_45 y0_47 y0_48 x0_5 x0_7 x0_8 x0_9 x0_10 x0_11 x0_12 x0_13 x0_14 x0_15 x0_16 x0_17 x0_19 x0_20 x0_27 x0_28 x0_29 x0_30 x0_31 x0_32 x0_35 x0_36 x0_37 x0_44 x0_49 x0_50 a1 a2 a3 a4) sz) (wW_X11_stick G h0 h1 h2 h3 h4 y0_3 y0_4 y0_6 y0_18 y0_21 y0_22 y0_23 y0_24 y0_25 y0_26 y0_33 y0_34 y0_38 y0_39 y0_40 y0_41 y0_42 y0_43 y0_45 y0_47 y0_48 x0_5 x0_7 x0_8 x0_9 x0_10 x0_11 x0_12 x0_13 x0_14 x0_15 x0_16 x0_17 x0_19 x0_20 x0_27 x0_28 x0_29 x0_30 x0_31 x0_32 x0_35 x0_36 x0_37 x0_44 e_x0_49 e_x0_50 e_a1 a2 a3 e_a4)) 0 0 (va_A (wW_X11_stick G h0 h1 h2 h3 h4 y0_3 y0_4 y0_6 y0_18 y0_21 y0_22 y0_23 y0_24 y0_25 y0_26 y0_33 y0_34 y0_38 y0_39 y0_40 y0_41 y0_42 y0_43 y0_45 y0_47 y0_48 x0_5 x0_7 x0_8 x0_9 x0_10 x0_11 x0_12 x0_13 x0_14 x0_15 x0_16 x0_17 x0_19 x0_20 x0_27 x0_28 x0_29 x0_30 x0_31 x0_32 x0_35 x0_36 x0_37 x0_44 x0_49 x0_50 a1 a2 a3 a4) sz) := by
  refine met_start (by decide) (Nat.le_of_ble_eq_true rfl) ?_
  intro p e s m below meth c hC hr hlk hnm hK hP hD hA hS hX ls hl
  obtain ⟨hx, hb, hml, hown, ht0⟩ := hC
  have hown : s.vm.findClass RX11 = some m.cls := hown
  generalize va_A (wW_X11_stick G h0 h1 h2 h3 h4 y0_3 y0_4 y0_6 y0_18 y0_21 y0_22 y0_23 y0_24 y0_25 y0_26 y0_33 y0_34 y0_38 y0_39 y0_40 y0_41 y0_42 y0_43 y0_45 y0_47 y0_48 x0_5 x0_7 x0_8 x0_9 x0_10 x0_11 x0_12 x0_13 x0_14 x0_15 x0_16 x0_17 x0_19 x0_20 x0_27 x0_28 x0_29 x0_30 x0_31 x0_32 x0_35 x0_36 x0_37 x0_44 x0_49 x0_50 a1 a2 a3 a4) sz = A at hD hA hS hX ⊢
  have hl : lv_has ls 4 [(0, .ref h0), (1, .int b1), (2, .int b2), (3, .int b3)] := hl
  have hf : p_X11_stick F x0_5 x0_49 x0_50 a1 a2 a3 a4 b1 b2 b3 = some (r0, e_x0_49, e_x0_50, e_a1, e_a4) := hf
  refine lv_iload_n hx hb dX11_stick_0 rfl (lv_at hl 1 rfl) ?_
  obtain ⟨r_1_0, hc_r_1_0, hf⟩ := of_bnd hf
  refine cl_Si (w2 := (wW_X11_stick G h0 h1 h2 h3 h4 y0_3 y0_4 y0_6 y0_18 y0_21 y0_22 y0_23 y0_24 y0_25 y0_26 y0_33 y0_34 y0_38 y0_39 y0_40 y0_41 y0_42 y0_43 y0_45 y0_47 y0_48 x0_5 x0_7 x0_8 x0_9 x0_10 x0_11 x0_12 x0_13 x0_14 x0_15 x0_16 x0_17 x0_19 x0_20 x0_27 x0_28 x0_29 x0_30 x0_31 x0_32 x0_35 x0_36 x0_37 x0_44 x0_49 x0_50 a1 a2 a3 a4)) (As := [.int b1]) (rest := []) ⟨hx, hb, hml, hown, ht0⟩ (c_X11_isWordAt l G _ F b1 _ hc_r_1_0) yk_X11_isWordAt wd_1588 ⟨rfl, rfl, by decide, by decide⟩ ⟨Nat.le_refl _, Nat.le_refl _⟩ hX hK hP hD hS hA [] [0, 1, 2, 3, 4] [0, 1, 2, 3, 4] rfl rfl (by decide) rfl rfl rfl rfl rfl hl.1 rfl (Nat.le_of_ble_eq_true rfl) dX11_stick_1 (fun H locs hP hD hS => ?_)
  refine lv_if_eq (tgt := 42) hx hb dX11_stick_4 (by decide) (fun c2 => ?_) (fun c2 => ?_)
  · have hf := of_pos hf c2
    refine lv_iconst (v := (0 : Int32)) hx hb dX11_stick_42 (by decide) ?_
    cases hf
    exact ret_z hx hb hr hlk hK hP hD hS (by decide) dX11_stick_43
  · have hf := of_neg hf c2
    refine lv_aload_n hx hb dX11_stick_7 rfl (lv_at hl 0 rfl) ?_
    refine lv_iload_n hx hb dX11_stick_8 rfl (lv_at hl 2 rfl) ?_
    obtain ⟨r_9_2, hc_r_9_2, hf⟩ := of_bnd hf
    refine cl_Vi (w2 := (wW_X11_stick G h0 h1 h2 h3 h4 y0_3 y0_4 y0_6 y0_18 y0_21 y0_22 y0_23 y0_24 y0_25 y0_26 y0_33 y0_34 y0_38 y0_39 y0_40 y0_41 y0_42 y0_43 y0_45 y0_47 y0_48 x0_5 x0_7 x0_8 x0_9 x0_10 x0_11 x0_12 x0_13 x0_14 x0_15 x0_16 x0_17 x0_19 x0_20 x0_27 x0_28 x0_29 x0_30 x0_31 x0_32 x0_35 x0_36 x0_37 x0_44 x0_49 x0_50 a1 a2 a3 a4)) (As := [.int b2]) (rest := []) ⟨hx, hb, hml, hown, ht0⟩ (c_X11_isPlace l G h0 h2 h3 h1 y0_3 y0_4 y0_6 y0_18 y0_21 y0_22 y0_23 y0_24 y0_25 y0_26 y0_33 y0_34 y0_38 y0_39 y0_40 y0_41 y0_42 y0_43 y0_45 h4 y0_47 y0_48 _ x0_5 x0_7 x0_8 x0_9 x0_10 x0_11 x0_12 x0_13 x0_14 x0_15 x0_16 x0_17 x0_19 x0_20 x0_27 x0_28 x0_29 x0_30 x0_31 x0_32 x0_35 x0_36 x0_37 x0_44 x0_49 x0_50 a2 a3 F b2 _ hc_r_9_2) yk_X11_isPlace wd_1691 ⟨rfl, rfl, by decide, by decide⟩ ⟨Nat.le_refl _, Nat.le_refl _⟩ hX hK hP hD hS hA [0, 2, 3] [1, 4] [2, 0, 3, 4, 1] (va_recv hK hP (ci := 11) (q0 := 0) rfl rfl) rfl rfl (by decide) rfl rfl rfl rfl rfl hl.1 rfl (Nat.le_of_ble_eq_true rfl) dX11_stick_9 (fun H locs hP hD hS => ?_)
    refine lv_if_eq (tgt := 42) hx hb dX11_stick_12 (by decide) (fun c4 => ?_) (fun c4 => ?_)
    · have hf := of_pos hf c4
      refine lv_iconst (v := (0 : Int32)) hx hb dX11_stick_42 (by decide) ?_
      cases hf
      exact ret_z hx hb hr hlk hK hP hD hS (by decide) dX11_stick_43
    · have hf := of_neg hf c4
      refine lv_iload_n hx hb dX11_stick_15 rfl (lv_at hl 3 rfl) ?_
      refine lv_iconst (v := (0 : Int32)) hx hb dX11_stick_16 (by decide) ?_
      refine lv_iconst (v := (1 : Int32)) hx hb dX11_stick_17 (by decide) ?_
      obtain ⟨r_18_4, hc_r_18_4, hf⟩ := of_bnd hf
      refine cl_Si (w2 := (wW_X11_stick G h0 h1 h2 h3 h4 y0_3 y0_4 y0_6 y0_18 y0_21 y0_22 y0_23 y0_24 y0_25 y0_26 y0_33 y0_34 y0_38 y0_39 y0_40 y0_41 y0_42 y0_43 y0_45 y0_47 y0_48 x0_5 x0_7 x0_8 x0_9 x0_10 x0_11 x0_12 x0_13 x0_14 x0_15 x0_16 x0_17 x0_19 x0_20 x0_27 x0_28 x0_29 x0_30 x0_31 x0_32 x0_35 x0_36 x0_37 x0_44 x0_49 x0_50 a1 a2 a3 a4)) (As := [.int b3, .int (0 : Int32), .int (1 : Int32)]) (rest := []) ⟨hx, hb, hml, hown, ht0⟩ (c_X11_isIn l G _ F b3 (0 : Int32) (1 : Int32) _ hc_r_18_4) yk_X11_isIn wd_1321 ⟨rfl, rfl, by decide, by decide⟩ ⟨Nat.le_refl _, Nat.le_refl _⟩ hX hK hP hD hS hA [] [0, 1, 2, 3, 4] [0, 1, 2, 3, 4] rfl rfl (by decide) rfl rfl rfl rfl rfl hl.1 rfl (Nat.le_of_ble_eq_true rfl) dX11_stick_18 (fun H locs hP hD hS => ?_)
      refine lv_if_eq (tgt := 42) hx hb dX11_stick_21 (by decide) (fun c6 => ?_) (fun c6 => ?_)
      · have hf := of_pos hf c6
        refine lv_iconst (v := (0 : Int32)) hx hb dX11_stick_42 (by decide) ?_
        cases hf
        exact ret_z hx hb hr hlk hK hP hD hS (by decide) dX11_stick_43
      · have hf := of_neg hf c6
        refine lv_aload_n hx hb dX11_stick_24 rfl (lv_at hl 0 rfl) ?_
        refine lv_iload_n hx hb dX11_stick_25 rfl (lv_at hl 1 rfl) ?_
        refine lv_iload_n hx hb dX11_stick_26 rfl (lv_at hl 2 rfl) ?_
        obtain ⟨r_27_6, hc_r_27_6, hf⟩ := of_bnd hf
        refine cl_Vi (w2 := (wW_X11_stick G h0 h1 h2 h3 h4 y0_3 y0_4 y0_6 y0_18 y0_21 y0_22 y0_23 y0_24 y0_25 y0_26 y0_33 y0_34 y0_38 y0_39 y0_40 y0_41 y0_42 y0_43 y0_45 y0_47 y0_48 x0_5 x0_7 x0_8 x0_9 x0_10 x0_11 x0_12 x0_13 x0_14 x0_15 x0_16 x0_17 x0_19 x0_20 x0_27 x0_28 x0_29 x0_30 x0_31 x0_32 x0_35 x0_36 x0_37 x0_44 x0_49 x0_50 a1 a2 a3 a4)) (As := [.int b1, .int b2]) (rest := []) ⟨hx, hb, hml, hown, ht0⟩ (c_X11_isStuck l G h0 h1 h2 h3 y0_3 y0_4 y0_6 y0_18 y0_21 y0_22 y0_23 y0_24 y0_25 y0_26 y0_33 y0_34 y0_38 y0_39 y0_40 y0_41 y0_42 y0_43 y0_45 h4 y0_47 y0_48 _ x0_5 x0_7 x0_8 x0_9 x0_10 x0_11 x0_12 x0_13 x0_14 x0_15 x0_16 x0_17 x0_19 x0_20 x0_27 x0_28 x0_29 x0_30 x0_31 x0_32 x0_35 x0_36 x0_37 x0_44 x0_49 x0_50 a1 F b1 b2 _ hc_r_27_6) yk_X11_isStuck wd_1699 ⟨rfl, rfl, by decide, by decide⟩ ⟨Nat.le_refl _, Nat.le_refl _⟩ hX hK hP hD hS hA [0, 1] [2, 3, 4] [3, 4, 0, 1, 2] (va_recv hK hP (ci := 11) (q0 := 0) rfl rfl) rfl rfl (by decide) rfl rfl rfl rfl rfl hl.1 rfl (Nat.le_of_ble_eq_true rfl) dX11_stick_27 (fun H locs hP hD hS => ?_)
        refine lv_if_ne (tgt := 42) hx hb dX11_stick_30 (by decide) (fun c8 => ?_) (fun c8 => ?_)
        · have hf := of_neg hf c8
          refine lv_iconst (v := (0 : Int32)) hx hb dX11_stick_42 (by decide) ?_
          cases hf
          exact ret_z hx hb hr hlk hK hP hD hS (by decide) dX11_stick_43
        · have hf := of_pos hf c8
          refine lv_aload_n hx hb dX11_stick_33 rfl (lv_at hl 0 rfl) ?_
          refine lv_iload_n hx hb dX11_stick_34 rfl (lv_at hl 1 rfl) ?_
          obtain ⟨r_35_8, hc_r_35_8, hf⟩ := of_bnd hf
          refine cl_Vi (w2 := (wW_X11_stick G h0 h1 h2 h3 h4 y0_3 y0_4 y0_6 y0_18 y0_21 y0_22 y0_23 y0_24 y0_25 y0_26 y0_33 y0_34 y0_38 y0_39 y0_40 y0_41 y0_42 y0_43 y0_45 y0_47 y0_48 x0_5 x0_7 x0_8 x0_9 x0_10 x0_11 x0_12 x0_13 x0_14 x0_15 x0_16 x0_17 x0_19 x0_20 x0_27 x0_28 x0_29 x0_30 x0_31 x0_32 x0_35 x0_36 x0_37 x0_44 x0_49 x0_50 a1 a2 a3 a4)) (As := [.int b1]) (rest := []) ⟨hx, hb, hml, hown, ht0⟩ (c_X11_stuckMany l G h0 h1 h2 h3 y0_3 y0_4 y0_6 y0_18 y0_21 y0_22 y0_23 y0_24 y0_25 y0_26 y0_33 y0_34 y0_38 y0_39 y0_40 y0_41 y0_42 y0_43 y0_45 h4 y0_47 y0_48 _ x0_5 x0_7 x0_8 x0_9 x0_10 x0_11 x0_12 x0_13 x0_14 x0_15 x0_16 x0_17 x0_19 x0_20 x0_27 x0_28 x0_29 x0_30 x0_31 x0_32 x0_35 x0_36 x0_37 x0_44 x0_49 x0_50 a1 F b1 _ hc_r_35_8) yk_X11_stuckMany wd_1730 ⟨rfl, rfl, by decide, by decide⟩ ⟨Nat.le_refl _, Nat.le_refl _⟩ hX hK hP hD hS hA [0, 1] [2, 3, 4] [3, 4, 0, 1, 2] (va_recv hK hP (ci := 11) (q0 := 0) rfl rfl) rfl rfl (by decide) rfl rfl rfl rfl rfl hl.1 rfl (Nat.le_of_ble_eq_true rfl) dX11_stick_35 (fun H locs hP hD hS => ?_)
          refine lv_iconst (v := (2 : Int32)) hx hb dX11_stick_38 (by decide) ?_
          refine lv_icmp_ne (tgt := 44) hx hb dX11_stick_39 (by decide) (fun c10 => ?_) (fun c10 => ?_)
          · have hf := of_neg hf c10
            refine lv_aload_n hx hb dX11_stick_44 rfl (lv_at hl 0 rfl) ?_
            obtain ⟨⟨r_45_10_x0_49, r_45_10_x0_50, r_45_10_a2⟩, hc_r_45_10, hf⟩ := of_bnd hf
            refine cl_Vv (w2 := (wW_X11_stick G h0 h1 h2 h3 h4 y0_3 y0_4 y0_6 y0_18 y0_21 y0_22 y0_23 y0_24 y0_25 y0_26 y0_33 y0_34 y0_38 y0_39 y0_40 y0_41 y0_42 y0_43 y0_45 y0_47 y0_48 x0_5 x0_7 x0_8 x0_9 x0_10 x0_11 x0_12 x0_13 x0_14 x0_15 x0_16 x0_17 x0_19 x0_20 x0_27 x0_28 x0_29 x0_30 x0_31 x0_32 x0_35 x0_36 x0_37 x0_44 r_45_10_x0_49 r_45_10_x0_50 a1 a2 a3 r_45_10_a2)) (As := []) (rest := []) ⟨hx, hb, hml, hown, ht0⟩ (c_X11_keepAct l G h0 h1 h4 h2 h3 y0_3 y0_4 y0_6 y0_18 y0_21 y0_22 y0_23 y0_24 y0_25 y0_26 y0_33 y0_34 y0_38 y0_39 y0_40 y0_41 y0_42 y0_43 y0_45 y0_47 y0_48 _ x0_5 x0_7 x0_8 x0_9 x0_10 x0_11 x0_12 x0_13 x0_14 x0_15 x0_16 x0_17 x0_19 x0_20 x0_27 x0_28 x0_29 x0_30 x0_31 x0_32 x0_35 x0_36 x0_37 x0_44 x0_49 x0_50 a1 a4 F _ _ _ hc_r_45_10) yk_X11_keepAct wd_1595 ⟨rfl, rfl, by decide, by decide⟩ ⟨Nat.le_refl _, Nat.le_refl _⟩ hX hK hP hD hS hA [0, 1, 4] [2, 3] [2, 3, 0, 1, 4] (va_recv hK hP (ci := 11) (q0 := 0) rfl rfl) rfl rfl (by decide) rfl rfl rfl rfl rfl hl.1 rfl (Nat.le_of_ble_eq_true rfl) dX11_stick_45 (fun H locs hP hD hS => ?_)
            refine lv_aload_n hx hb dX11_stick_48 rfl (lv_at hl 0 rfl) ?_
            refine lv_iload_n hx hb dX11_stick_49 rfl (lv_at hl 1 rfl) ?_
            refine lv_iload_n hx hb dX11_stick_50 rfl (lv_at hl 2 rfl) ?_
            refine lv_iload_n hx hb dX11_stick_51 rfl (lv_at hl 3 rfl) ?_
            obtain ⟨r_52_11_a1, hc_r_52_11, hf⟩ := of_bnd hf
            refine cl_Vv (w2 := (wW_X11_stick G h0 h1 h2 h3 h4 y0_3 y0_4 y0_6 y0_18 y0_21 y0_22 y0_23 y0_24 y0_25 y0_26 y0_33 y0_34 y0_38 y0_39 y0_40 y0_41 y0_42 y0_43 y0_45 y0_47 y0_48 x0_5 x0_7 x0_8 x0_9 x0_10 x0_11 x0_12 x0_13 x0_14 x0_15 x0_16 x0_17 x0_19 x0_20 x0_27 x0_28 x0_29 x0_30 x0_31 x0_32 x0_35 x0_36 x0_37 x0_44 r_45_10_x0_49 r_45_10_x0_50 r_52_11_a1 a2 a3 r_45_10_a2)) (As := [.int b1, .int b2, .int b3]) (rest := []) ⟨hx, hb, hml, hown, ht0⟩ (c_X11_setBit l G h0 h1 h2 h3 y0_3 y0_4 y0_6 y0_18 y0_21 y0_22 y0_23 y0_24 y0_25 y0_26 y0_33 y0_34 y0_38 y0_39 y0_40 y0_41 y0_42 y0_43 y0_45 h4 y0_47 y0_48 _ x0_5 x0_7 x0_8 x0_9 x0_10 x0_11 x0_12 x0_13 x0_14 x0_15 x0_16 x0_17 x0_19 x0_20 x0_27 x0_28 x0_29 x0_30 x0_31 x0_32 x0_35 x0_36 x0_37 x0_44 r_45_10_x0_49 r_45_10_x0_50 a1 a2 F b1 b2 b3 _ hc_r_52_11) yk_X11_setBit wd_1619 ⟨rfl, rfl, by decide, by decide⟩ ⟨Nat.le_refl _, Nat.le_refl _⟩ hX hK hP hD hS hA [0, 1, 2] [3, 4] [2, 3, 4, 0, 1] (va_recv hK hP (ci := 11) (q0 := 0) rfl rfl) rfl rfl (by decide) rfl rfl rfl rfl rfl hl.1 rfl (Nat.le_of_ble_eq_true rfl) dX11_stick_52 (fun H locs hP hD hS => ?_)
            refine lv_aload_n hx hb dX11_stick_55 rfl (lv_at hl 0 rfl) ?_
            refine va_get (ci := 11) (v := .ref h1) (C := RX11) (T := TX11) (N := 51) hx hb ht0 iX11 hown hK hP 0 rfl rfl 0 (by decide) (ht0 _ wd_1406) (fun _ h9 => h9) rfl dX11_stick_56 ?_
            refine lv_bipush (v := (81 : Int32)) hx hb dX11_stick_59 (by decide) ?_
            refine lv_iconst (v := (2 : Int32)) hx hb dX11_stick_61 (by decide) ?_
            refine lv_iload_n hx hb dX11_stick_62 rfl (lv_at hl 1 rfl) ?_
            refine lv_imul hx hb dX11_stick_63 ?_
            refine lv_iadd hx hb dX11_stick_64 ?_
            refine lv_aload_n hx hb dX11_stick_65 rfl (lv_at hl 0 rfl) ?_
            refine lv_iload_n hx hb dX11_stick_66 rfl (lv_at hl 1 rfl) ?_
            obtain ⟨r_67_12, hc_r_67_12, hf⟩ := of_bnd hf
            refine cl_Vi (w2 := (wW_X11_stick G h0 h1 h2 h3 h4 y0_3 y0_4 y0_6 y0_18 y0_21 y0_22 y0_23 y0_24 y0_25 y0_26 y0_33 y0_34 y0_38 y0_39 y0_40 y0_41 y0_42 y0_43 y0_45 y0_47 y0_48 x0_5 x0_7 x0_8 x0_9 x0_10 x0_11 x0_12 x0_13 x0_14 x0_15 x0_16 x0_17 x0_19 x0_20 x0_27 x0_28 x0_29 x0_30 x0_31 x0_32 x0_35 x0_36 x0_37 x0_44 r_45_10_x0_49 r_45_10_x0_50 r_52_11_a1 a2 a3 r_45_10_a2)) (As := [.int b1]) (rest := [.int ((81 : Int32) + ((2 : Int32) * b1)), .ref h1]) ⟨hx, hb, hml, hown, ht0⟩ (c_X11_stuckMany l G h0 h1 h2 h3 y0_3 y0_4 y0_6 y0_18 y0_21 y0_22 y0_23 y0_24 y0_25 y0_26 y0_33 y0_34 y0_38 y0_39 y0_40 y0_41 y0_42 y0_43 y0_45 h4 y0_47 y0_48 _ x0_5 x0_7 x0_8 x0_9 x0_10 x0_11 x0_12 x0_13 x0_14 x0_15 x0_16 x0_17 x0_19 x0_20 x0_27 x0_28 x0_29 x0_30 x0_31 x0_32 x0_35 x0_36 x0_37 x0_44 r_45_10_x0_49 r_45_10_x0_50 r_52_11_a1 F b1 _ hc_r_67_12) yk_X11_stuckMany wd_1730 ⟨rfl, rfl, by decide, by decide⟩ ⟨Nat.le_refl _, Nat.le_refl _⟩ hX hK hP hD hS hA [0, 1] [2, 3, 4] [3, 4, 0, 1, 2] (va_recv hK hP (ci := 11) (q0 := 0) rfl rfl) rfl rfl (by decide) rfl rfl rfl rfl rfl hl.1 rfl (Nat.le_of_ble_eq_true rfl) dX11_stick_67 (fun H locs hP hD hS => ?_)
            refine lv_iadd hx hb dX11_stick_70 ?_
            refine lv_iload_n hx hb dX11_stick_71 rfl (lv_at hl 2 rfl) ?_
            refine lv_iconst (v := (1 : Int32)) hx hb dX11_stick_72 (by decide) ?_
            refine lv_iadd hx hb dX11_stick_73 ?_
            obtain ⟨g14, hf⟩ := of_grd hf
            refine va_iast hx hb hK hP hD hS 1 0 rfl rfl g14 dX11_stick_74 (fun H locs hP hD hS => ?_)
            have hP : va_P G.1 vwCl (wW_X11_stick G h0 h1 h2 h3 h4 y0_3 y0_4 y0_6 y0_18 y0_21 y0_22 y0_23 y0_24 y0_25 y0_26 y0_33 y0_34 y0_38 y0_39 y0_40 y0_41 y0_42 y0_43 y0_45 y0_47 y0_48 x0_5 x0_7 x0_8 x0_9 x0_10 x0_11 x0_12 x0_13 x0_14 x0_15 x0_16 x0_17 x0_19 x0_20 x0_27 x0_28 x0_29 x0_30 x0_31 x0_32 x0_35 x0_36 x0_37 x0_44 r_45_10_x0_49 r_45_10_x0_50 (upd r_52_11_a1 (((81 : Int32) + ((2 : Int32) * b1)) + r_67_12).toNatClampNeg (b2 + (1 : Int32))) a2 a3 r_45_10_a2) H := hP
            have hD : va_D A (wW_X11_stick G h0 h1 h2 h3 h4 y0_3 y0_4 y0_6 y0_18 y0_21 y0_22 y0_23 y0_24 y0_25 y0_26 y0_33 y0_34 y0_38 y0_39 y0_40 y0_41 y0_42 y0_43 y0_45 y0_47 y0_48 x0_5 x0_7 x0_8 x0_9 x0_10 x0_11 x0_12 x0_13 x0_14 x0_15 x0_16 x0_17 x0_19 x0_20 x0_27 x0_28 x0_29 x0_30 x0_31 x0_32 x0_35 x0_36 x0_37 x0_44 r_45_10_x0_49 r_45_10_x0_50 (upd r_52_11_a1 (((81 : Int32) + ((2 : Int32) * b1)) + r_67_12).toNatClampNeg (b2 + (1 : Int32))) a2 a3 r_45_10_a2) := hD
            refine lv_iconst (v := (1 : Int32)) hx hb dX11_stick_75 (by decide) ?_
            cases hf
            exact ret_z hx hb hr hlk hK hP hD hS (by decide) dX11_stick_76
          · have hf := of_pos hf c10
            refine lv_iconst (v := (0 : Int32)) hx hb dX11_stick_42 (by decide) ?_
            cases hf
            exact ret_z hx hb hr hlk hK hP hD hS (by decide) dX11_stick_43
theorem yk_X11_stick : ykV yX11_stick RX11 cX11_stick 4 (some .boolean) 3 := ⟨wd_1727, wd_1728, wd_142, wd_1729, rfl, by decide +kernel, by decide +kernel, by decide +kernel⟩
theorem dX11_free_0 : decode cX11_free 0 = .ok (.iload_n 1, 1) := by decide +kernel
theorem dX11_free_1 : decode cX11_free 1 = .ok (.invokestatic 350, 3) := by decide +kernel
theorem dX11_free_4 : decode cX11_free 4 = .ok (.ifCond .eq 11, 3) := by decide +kernel
theorem dX11_free_7 : decode cX11_free 7 = .ok (.aload_n 0, 1) := by decide +kernel
theorem dX11_free_8 : decode cX11_free 8 = .ok (.iload_n 1, 1) := by decide +kernel
theorem dX11_free_9 : decode cX11_free 9 = .ok (.invokevirtual 372, 3) := by decide +kernel
theorem dX11_free_12 : decode cX11_free 12 = .ok (.ifCond .ne 5, 3) := by decide +kernel
theorem dX11_free_15 : decode cX11_free 15 = .ok (.iconst (-1), 1) := by decide +kernel
theorem dX11_free_16 : decode cX11_free 16 = .ok (.ireturn, 1) := by decide +kernel
theorem dX11_free_17 : decode cX11_free 17 = .ok (.aload_n 0, 1) := by decide +kernel
theorem dX11_free_18 : decode cX11_free 18 = .ok (.invokevirtual 356, 3) := by decide +kernel
theorem dX11_free_21 : decode cX11_free 21 = .ok (.aload_n 0, 1) := by decide +kernel
theorem dX11_free_22 : decode cX11_free 22 = .ok (.iload_n 1, 1) := by decide +kernel
theorem dX11_free_23 : decode cX11_free 23 = .ok (.invokevirtual 372, 3) := by decide +kernel
theorem dX11_free_26 : decode cX11_free 26 = .ok (.istore_n 2, 1) := by decide +kernel
theorem dX11_free_27 : decode cX11_free 27 = .ok (.aload_n 0, 1) := by decide +kernel
theorem dX11_free_28 : decode cX11_free 28 = .ok (.getfield 7, 3) := by decide +kernel
theorem dX11_free_31 : decode cX11_free 31 = .ok (.bipush 81, 2) := by decide +kernel
theorem dX11_free_33 : decode cX11_free 33 = .ok (.iconst 2, 1) := by decide +kernel
theorem dX11_free_34 : decode cX11_free 34 = .ok (.iload_n 1, 1) := by decide +kernel
theorem dX11_free_35 : decode cX11_free 35 = .ok (.imul, 1) := by decide +kernel
theorem dX11_free_36 : decode cX11_free 36 = .ok (.iadd, 1) := by decide +kernel
theorem dX11_free_37 : decode cX11_free 37 = .ok (.iconst 0, 1) := by decide +kernel
theorem dX11_free_38 : decode cX11_free 38 = .ok (.iastore, 1) := by decide +kernel
theorem dX11_free_39 : decode cX11_free 39 = .ok (.aload_n 0, 1) := by decide +kernel
theorem dX11_free_40 : decode cX11_free 40 = .ok (.getfield 7, 3) := by decide +kernel
theorem dX11_free_43 : decode cX11_free 43 = .ok (.bipush 81, 2) := by decide +kernel
theorem dX11_free_45 : decode cX11_free 45 = .ok (.iconst 2, 1) := by decide +kernel
theorem dX11_free_46 : decode cX11_free 46 = .ok (.iload_n 1, 1) := by decide +kernel
theorem dX11_free_47 : decode cX11_free 47 = .ok (.imul, 1) := by decide +kernel
theorem dX11_free_48 : decode cX11_free 48 = .ok (.iadd, 1) := by decide +kernel
theorem dX11_free_49 : decode cX11_free 49 = .ok (.iconst 1, 1) := by decide +kernel
theorem dX11_free_50 : decode cX11_free 50 = .ok (.iadd, 1) := by decide +kernel
theorem dX11_free_51 : decode cX11_free 51 = .ok (.iconst 0, 1) := by decide +kernel
theorem dX11_free_52 : decode cX11_free 52 = .ok (.iastore, 1) := by decide +kernel
theorem dX11_free_53 : decode cX11_free 53 = .ok (.iload_n 2, 1) := by decide +kernel
theorem dX11_free_54 : decode cX11_free 54 = .ok (.ireturn, 1) := by decide +kernel
def wW_X11_free (G : GG) (h0 h1 h2 y0_1 y0_2 y0_3 y0_4 y0_6 y0_18 y0_21 y0_22 y0_23 y0_24 y0_25 y0_26 y0_33 y0_34 y0_38 y0_39 y0_40 y0_41 y0_42 y0_43 y0_45 y0_47 y0_48 : Nat) (x0_5 : Int32) (x0_7 : Int32) (x0_8 : Int32) (x0_9 : Int32) (x0_10 : Int32) (x0_11 : Int32) (x0_12 : Int32) (x0_13 : Int32) (x0_14 : Int32) (x0_15 : Int32) (x0_16 : Int32) (x0_17 : Int32) (x0_19 : Int32) (x0_20 : Int32) (x0_27 : Int32) (x0_28 : Int32) (x0_29 : Int32) (x0_30 : Int32) (x0_31 : Int32) (x0_32 : Int32) (x0_35 : Int32) (x0_36 : Int32) (x0_37 : Int32) (x0_44 : Int32) (x0_49 : Int32) (x0_50 : Int32) (a1 : Nat → Int32) (a2 : Nat → Int32) : va_W := [(h0, .inr (11, [.ref h1, .ref y0_1, .ref y0_2, .ref y0_3, .ref y0_4, .int x0_5, .ref y0_6, .int x0_7, .int x0_8, .int x0_9, .int x0_10, .int x0_11, .int x0_12, .int x0_13, .int x0_14, .int x0_15, .int x0_16, .int x0_17, .ref y0_18, .int x0_19, .int x0_20, .ref y0_21, .ref y0_22, .ref y0_23, .ref y0_24, .ref y0_25, .ref y0_26, .int x0_27, .int x0_28, .int x0_29, .int x0_30, .int x0_31, .int x0_32, .ref y0_33, .ref y0_34, .int x0_35, .int x0_36, .int x0_37, .ref y0_38, .ref y0_39, .ref y0_40, .ref y0_41, .ref y0_42, .ref y0_43, .int x0_44, .ref y0_45, .ref h2, .ref y0_47, .ref y0_48, .int x0_49, .int x0_50])), (h1, .inl (G.2.1, 121, .inl a1)), (h2, .inl (G.2.1, 1573, .inl a2))]
set_option maxHeartbeats 4000000 in
set_option maxRecDepth 100000 in
theorem c_X11_free (l : Launch) (G : GG) (h0 h1 h2 y0_1 y0_2 y0_3 y0_4 y0_6 y0_18 y0_21 y0_22 y0_23 y0_24 y0_25 y0_26 y0_33 y0_34 y0_38 y0_39 y0_40 y0_41 y0_42 y0_43 y0_45 y0_47 y0_48 : Nat) (sz : Nat) (x0_5 : Int32) (x0_7 : Int32) (x0_8 : Int32) (x0_9 : Int32) (x0_10 : Int32) (x0_11 : Int32) (x0_12 : Int32) (x0_13 : Int32) (x0_14 : Int32) (x0_15 : Int32) (x0_16 : Int32) (x0_17 : Int32) (x0_19 : Int32) (x0_20 : Int32) (x0_27 : Int32) (x0_28 : Int32) (x0_29 : Int32) (x0_30 : Int32) (x0_31 : Int32) (x0_32 : Int32) (x0_35 : Int32) (x0_36 : Int32) (x0_37 : Int32) (x0_44 : Int32) (x0_49 : Int32) (x0_50 : Int32) (a1 : Nat → Int32) (a2 : Nat → Int32) (F : Nat) (b1 : Int32)  (r0 : Int32) (e_x0_49 : Int32) (e_x0_50 : Int32) (e_a1 : Nat → Int32) (e_a2 : Nat → Int32) (hf : p_X11_free F x0_49 x0_50 a1 a2 b1 = some (r0, e_x0_49, e_x0_50, e_a1, e_a2)) : Met l yX11_free (.code yX11_free cX11_free 3 (some .int) :: gtbl) ({ frames := 2, cells := 0, slots := 0, locals := 43 } : Room) (PcS G [.ref h0, .int b1] (wW_X11_free G h0 h1 h2 y0_1 y0_2 y0_3 y0_4 y0_6 y0_18 y0_21 y0_22 y0_23 y0_24 y0_25 y0_26 y0_33 y0_34 y0_38 y0_39 y0_40 y0_41 y0_42 y0_43 y0_45 y0_47 y0_48 x0_5 x0_7 x0_8 x0_9 x0_10 x0_11 x0_12 x0_13 x0_14 x0_15 x0_16 x0_17 x0_19 x0_20 x0_27 x0_28 x0_29 x0_30 x0_31 x0_32 x0_35 x0_36 x0_37 x0_44 x0_49 x0_50 a1 a2) sz) (QiS G r0 (va_A (wW_X11_free G h0 h1 h2 y0_1 y0_2 y0_3 y0_4 y0_6 y0_18 y0_21 y0_22 y0_23 y0_24 y0_25 y0_26 y0_33 y0_34 y0_38 y0_39 y0_40 y0_41 y0_42 y0_43 y0_45 y0_47 y0_48 x0_5 x0_7 x0_8 x0_9 x0_10 x0_11 x0_12 x0_13 x0_14 x0_15 x0_16 x0_17 x0_19 x0_20 x0_27 x0_28 x0_29 x0_30 x0_31 x0_32 x0_35 x0_36 x0_37 x0_44 x0_49 x0_50 a1 a2) sz) (wW_X11_free G h0 h1 h2 y0_1 y0_2 y0_3 y0_4 y0_6 y0_18 y0_21 y0_22 y0_23 y0_24 y0_25 y0_26 y0_33 y0_34 y0_38 y0_39 y0_40 y0_41 y0_42 y0_43 y0_45 y0_47 y0_48 x0_5 x0_7 x0_8 x0_9 x0_10 x0_11 x0_12 x0_13 x0_14 x0_15 x0_16 x0_17 x0_19 x0_20 x0_27 x0_28 x0_29 x0_30 x0_31 x0_32 x0_35 x0_36 x0_37 x0_44 e_x0_49 e_x0_50 e_a1 e_a2)) 0 0 (va_A (wW_X11_free G h0 h1 h2 y0_1 y0_2 y0_3 y0_4 y0_6 y0_18 y0_21 y0_22 y0_23 y0_24 y0_25 y0_26 y0_33 y0_34 y0_38 y0_39 y0_40 y0_41 y0_42 y0_43 y0_45 y0_47 y0_48 x0_5 x0_7 x0_8 x0_9 x0_10 x0_11 x0_12 x0_13 x0_14 x0_15 x0_16 x0_17 x0_19 x0_20 x0_27 x0_28 x0_29 x0_30 x0_31 x0_32 x0_35 x0_36 x0_37 x0_44 x0_49 x0_50 a1 a2) sz) := by
  refine met_start (by decide) (Nat.le_of_ble_eq_true rfl) ?_
  intro p e s m below meth c hC hr hlk hnm hK hP hD hA hS hX ls hl
  obtain ⟨hx, hb, hml, hown, ht0⟩ := hC
  have hown : s.vm.findClass RX11 = some m.cls := hown
  generalize va_A (wW_X11_free G h0 h1 h2 y0_1 y0_2 y0_3 y0_4 y0_6 y0_18 y0_21 y0_22 y0_23 y0_24 y0_25 y0_26 y0_33 y0_34 y0_38 y0_39 y0_40 y0_41 y0_42 y0_43 y0_45 y0_47 y0_48 x0_5 x0_7 x0_8 x0_9 x0_10 x0_11 x0_12 x0_13 x0_14 x0_15 x0_16 x0_17 x0_19 x0_20 x0_27 x0_28 x0_29 x0_30 x0_31 x0_32 x0_35 x0_36 x0_37 x0_44 x0_49 x0_50 a1 a2) sz = A at hD hA hS hX ⊢
  have hl : lv_has ls 3 [(0, .ref h0), (1, .int b1)] := hl
  have hf : p_X11_free F x0_49 x0_50 a1 a2 b1 = some (r0, e_x0_49, e_x0_50, e_a1, e_a2) := hf
  refine lv_iload_n hx hb dX11_free_0 rfl (lv_at hl 1 rfl) ?_
  obtain ⟨r_1_0, hc_r_1_0, hf⟩ := of_bnd hf
  refine cl_Si (w2 := (wW_X11_free G h0 h1 h2 y0_1 y0_2 y0_3 y0_4 y0_6 y0_18 y0_21 y0_22 y0_23 y0_24 y0_25 y0_26 y0_33 y0_34 y0_38 y0_39 y0_40 y0_41 y0_42 y0_43 y0_45 y0_47 y0_48 x0_5 x0_7 x0_8 x0_9 x0_10 x0_11 x0_12 x0_13 x0_14 x0_15 x0_16 x0_17 x0_19 x0_20 x0_27 x0_28 x0_29 x0_30 x0_31 x0_32 x0_35 x0_36 x0_37 x0_44 x0_49 x0_50 a1 a2)) (As := [.int b1]) (rest := []) ⟨hx, hb, hml, hown, ht0⟩ (c_X11_isWordAt l G _ F b1 _ hc_r_1_0) yk_X11_isWordAt wd_1588 ⟨rfl, rfl, by decide, by decide⟩ ⟨Nat.le_refl _, Nat.le_refl _⟩ hX hK hP hD hS hA [] [0, 1, 2] [0, 1, 2] rfl rfl (by decide) rfl rfl rfl rfl rfl hl.1 rfl (Nat.le_of_ble_eq_true rfl) dX11_free_1 (fun H locs hP hD hS => ?_)
  refine lv_if_eq (tgt := 15) hx hb dX11_free_4 (by decide) (fun c2 => ?_) (fun c2 => ?_)
  · have hf := of_pos hf c2
    refine lv_iconst (v := (-1 : Int32)) hx hb dX11_free_15 (by decide) ?_
    cases hf
    exact ret_i hx hb hr hlk hK hP hD hS dX11_free_16
  · have hf := of_neg hf c2
    refine lv_aload_n hx hb dX11_free_7 rfl (lv_at hl 0 rfl) ?_
    refine lv_iload_n hx hb dX11_free_8 rfl (lv_at hl 1 rfl) ?_
    obtain ⟨r_9_2, hc_r_9_2, hf⟩ := of_bnd hf
    refine cl_Vi (w2 := (wW_X11_free G h0 h1 h2 y0_1 y0_2 y0_3 y0_4 y0_6 y0_18 y0_21 y0_22 y0_23 y0_24 y0_25 y0_26 y0_33 y0_34 y0_38 y0_39 y0_40 y0_41 y0_42 y0_43 y0_45 y0_47 y0_48 x0_5 x0_7 x0_8 x0_9 x0_10 x0_11 x0_12 x0_13 x0_14 x0_15 x0_16 x0_17 x0_19 x0_20 x0_27 x0_28 x0_29 x0_30 x0_31 x0_32 x0_35 x0_36 x0_37 x0_44 x0_49 x0_50 a1 a2)) (As := [.int b1]) (rest := []) ⟨hx, hb, hml, hown, ht0⟩ (c_X11_stuckMany l G h0 h1 y0_1 y0_2 y0_3 y0_4 y0_6 y0_18 y0_21 y0_22 y0_23 y0_24 y0_25 y0_26 y0_33 y0_34 y0_38 y0_39 y0_40 y0_41 y0_42 y0_43 y0_45 h2 y0_47 y0_48 _ x0_5 x0_7 x0_8 x0_9 x0_10 x0_11 x0_12 x0_13 x0_14 x0_15 x0_16 x0_17 x0_19 x0_20 x0_27 x0_28 x0_29 x0_30 x0_31 x0_32 x0_35 x0_36 x0_37 x0_44 x0_49 x0_50 a1 F b1 _ hc_r_9_2) yk_X11_stuckMany wd_1730 ⟨rfl, rfl, by decide, by decide⟩ ⟨Nat.le_refl _, Nat.le_refl _⟩ hX hK hP hD hS hA [0, 1] [2] [1, 2, 0] (va_recv hK hP (ci := 11) (q0 := 0) rfl rfl) rfl rfl (by decide) rfl rfl rfl rfl rfl hl.1 rfl (Nat.le_of_ble_eq_true rfl) dX11_free_9 (fun H locs hP hD hS => ?_)
    refine lv_if_ne (tgt := 17) hx hb dX11_free_12 (by decide) (fun c4 => ?_) (fun c4 => ?_)
    · have hf := of_neg hf c4
      refine lv_aload_n hx hb dX11_free_17 rfl (lv_at hl 0 rfl) ?_
      obtain ⟨⟨r_18_4_x0_49, r_18_4_x0_50, r_18_4_a2⟩, hc_r_18_4, hf⟩ := of_bnd hf
      refine cl_Vv (w2 := (wW_X11_free G h0 h1 h2 y0_1 y0_2 y0_3 y0_4 y0_6 y0_18 y0_21 y0_22 y0_23 y0_24 y0_25 y0_26 y0_33 y0_34 y0_38 y0_39 y0_40 y0_41 y0_42 y0_43 y0_45 y0_47 y0_48 x0_5 x0_7 x0_8 x0_9 x0_10 x0_11 x0_12 x0_13 x0_14 x0_15 x0_16 x0_17 x0_19 x0_20 x0_27 x0_28 x0_29 x0_30 x0_31 x0_32 x0_35 x0_36 x0_37 x0_44 r_18_4_x0_49 r_18_4_x0_50 a1 r_18_4_a2)) (As := []) (rest := []) ⟨hx, hb, hml, hown, ht0⟩ (c_X11_keepAct l G h0 h1 h2 y0_1 y0_2 y0_3 y0_4 y0_6 y0_18 y0_21 y0_22 y0_23 y0_24 y0_25 y0_26 y0_33 y0_34 y0_38 y0_39 y0_40 y0_41 y0_42 y0_43 y0_45 y0_47 y0_48 _ x0_5 x0_7 x0_8 x0_9 x0_10 x0_11 x0_12 x0_13 x0_14 x0_15 x0_16 x0_17 x0_19 x0_20 x0_27 x0_28 x0_29 x0_30 x0_31 x0_32 x0_35 x0_36 x0_37 x0_44 x0_49 x0_50 a1 a2 F _ _ _ hc_r_18_4) yk_X11_keepAct wd_1595 ⟨rfl, rfl, by decide, by decide⟩ ⟨Nat.le_refl _, Nat.le_refl _⟩ hX hK hP hD hS hA [0, 1, 2] [] [0, 1, 2] (va_recv hK hP (ci := 11) (q0 := 0) rfl rfl) rfl rfl (by decide) rfl rfl rfl rfl rfl hl.1 rfl (Nat.le_of_ble_eq_true rfl) dX11_free_18 (fun H locs hP hD hS => ?_)
      refine lv_aload_n hx hb dX11_free_21 rfl (lv_at hl 0 rfl) ?_
      refine lv_iload_n hx hb dX11_free_22 rfl (lv_at hl 1 rfl) ?_
      obtain ⟨r_23_5, hc_r_23_5, hf⟩ := of_bnd hf
      refine cl_Vi (w2 := (wW_X11_free G h0 h1 h2 y0_1 y0_2 y0_3 y0_4 y0_6 y0_18 y0_21 y0_22 y0_23 y0_24 y0_25 y0_26 y0_33 y0_34 y0_38 y0_39 y0_40 y0_41 y0_42 y0_43 y0_45 y0_47 y0_48 x0_5 x0_7 x0_8 x0_9 x0_10 x0_11 x0_12 x0_13 x0_14 x0_15 x0_16 x0_17 x0_19 x0_20 x0_27 x0_28 x0_29 x0_30 x0_31 x0_32 x0_35 x0_36 x0_37 x0_44 r_18_4_x0_49 r_18_4_x0_50 a1 r_18_4_a2)) (As := [.int b1]) (rest := []) ⟨hx, hb, hml, hown, ht0⟩ (c_X11_stuckMany l G h0 h1 y0_1 y0_2 y0_3 y0_4 y0_6 y0_18 y0_21 y0_22 y0_23 y0_24 y0_25 y0_26 y0_33 y0_34 y0_38 y0_39 y0_40 y0_41 y0_42 y0_43 y0_45 h2 y0_47 y0_48 _ x0_5 x0_7 x0_8 x0_9 x0_10 x0_11 x0_12 x0_13 x0_14 x0_15 x0_16 x0_17 x0_19 x0_20 x0_27 x0_28 x0_29 x0_30 x0_31 x0_32 x0_35 x0_36 x0_37 x0_44 r_18_4_x0_49 r_18_4_x0_50 a1 F b1 _ hc_r_23_5) yk_X11_stuckMany wd_1730 ⟨rfl, rfl, by decide, by decide⟩ ⟨Nat.le_refl _, Nat.le_refl _⟩ hX hK hP hD hS hA [0, 1] [2] [1, 2, 0] (va_recv hK hP (ci := 11) (q0 := 0) rfl rfl) rfl rfl (by decide) rfl rfl rfl rfl rfl hl.1 rfl (Nat.le_of_ble_eq_true rfl) dX11_free_23 (fun H locs hP hD hS => ?_)
      refine lv_istore_n (lv' := [(2, .int r_23_5), (0, .ref h0), (1, .int b1)]) hx hb dX11_free_26 rfl hl (by decide) rfl (fun ls hl => ?_)
      refine lv_aload_n hx hb dX11_free_27 rfl (lv_at hl 1 rfl) ?_
      refine va_get (ci := 11) (v := .ref h1) (C := RX11) (T := TX11) (N := 51) hx hb ht0 iX11 hown hK hP 0 rfl rfl 0 (by decide) (ht0 _ wd_1406) (fun _ h9 => h9) rfl dX11_free_28 ?_
      refine lv_bipush (v := (81 : Int32)) hx hb dX11_free_31 (by decide) ?_
      refine lv_iconst (v := (2 : Int32)) hx hb dX11_free_33 (by decide) ?_
      refine lv_iload_n hx hb dX11_free_34 rfl (lv_at hl 2 rfl) ?_
      refine lv_imul hx hb dX11_free_35 ?_
      refine lv_iadd hx hb dX11_free_36 ?_
      refine lv_iconst (v := (0 : Int32)) hx hb dX11_free_37 (by decide) ?_
      obtain ⟨g7, hf⟩ := of_grd hf
      refine va_iast hx hb hK hP hD hS 1 0 rfl rfl g7 dX11_free_38 (fun H locs hP hD hS => ?_)
      have hP : va_P G.1 vwCl (wW_X11_free G h0 h1 h2 y0_1 y0_2 y0_3 y0_4 y0_6 y0_18 y0_21 y0_22 y0_23 y0_24 y0_25 y0_26 y0_33 y0_34 y0_38 y0_39 y0_40 y0_41 y0_42 y0_43 y0_45 y0_47 y0_48 x0_5 x0_7 x0_8 x0_9 x0_10 x0_11 x0_12 x0_13 x0_14 x0_15 x0_16 x0_17 x0_19 x0_20 x0_27 x0_28 x0_29 x0_30 x0_31 x0_32 x0_35 x0_36 x0_37 x0_44 r_18_4_x0_49 r_18_4_x0_50 (upd a1 ((81 : Int32) + ((2 : Int32) * b1)).toNatClampNeg (0 : Int32)) r_18_4_a2) H := hP
      have hD : va_D A (wW_X11_free G h0 h1 h2 y0_1 y0_2 y0_3 y0_4 y0_6 y0_18 y0_21 y0_22 y0_23 y0_24 y0_25 y0_26 y0_33 y0_34 y0_38 y0_39 y0_40 y0_41 y0_42 y0_43 y0_45 y0_47 y0_48 x0_5 x0_7 x0_8 x0_9 x0_10 x0_11 x0_12 x0_13 x0_14 x0_15 x0_16 x0_17 x0_19 x0_20 x0_27 x0_28 x0_29 x0_30 x0_31 x0_32 x0_35 x0_36 x0_37 x0_44 r_18_4_x0_49 r_18_4_x0_50 (upd a1 ((81 : Int32) + ((2 : Int32) * b1)).toNatClampNeg (0 : Int32)) r_18_4_a2) := hD
      refine lv_aload_n hx hb dX11_free_39 rfl (lv_at hl 1 rfl) ?_
      refine va_get (ci := 11) (v := .ref h1) (C := RX11) (T := TX11) (N := 51) hx hb ht0 iX11 hown hK hP 0 rfl rfl 0 (by decide) (ht0 _ wd_1406) (fun _ h9 => h9) rfl dX11_free_40 ?_
      refine lv_bipush (v := (81 : Int32)) hx hb dX11_free_43 (by decide) ?_
      refine lv_iconst (v := (2 : Int32)) hx hb dX11_free_45 (by decide) ?_
      refine lv_iload_n hx hb dX11_free_46 rfl (lv_at hl 2 rfl) ?_
      refine lv_imul hx hb dX11_free_47 ?_
      refine lv_iadd hx hb dX11_free_48 ?_
      refine lv_iconst (v := (1 : Int32)) hx hb dX11_free_49 (by decide) ?_
      refine lv_iadd hx hb dX11_free_50 ?_
      refine lv_iconst (v := (0 : Int32)) hx hb dX11_free_51 (by decide) ?_
      obtain ⟨g8, hf⟩ := of_grd hf
      refine va_iast hx hb hK hP hD hS 1 0 rfl rfl g8 dX11_free_52 (fun H locs hP hD hS => ?_)
      have hP : va_P G.1 vwCl (wW_X11_free G h0 h1 h2 y0_1 y0_2 y0_3 y0_4 y0_6 y0_18 y0_21 y0_22 y0_23 y0_24 y0_25 y0_26 y0_33 y0_34 y0_38 y0_39 y0_40 y0_41 y0_42 y0_43 y0_45 y0_47 y0_48 x0_5 x0_7 x0_8 x0_9 x0_10 x0_11 x0_12 x0_13 x0_14 x0_15 x0_16 x0_17 x0_19 x0_20 x0_27 x0_28 x0_29 x0_30 x0_31 x0_32 x0_35 x0_36 x0_37 x0_44 r_18_4_x0_49 r_18_4_x0_50 (upd (upd a1 ((81 : Int32) + ((2 : Int32) * b1)).toNatClampNeg (0 : Int32)) (((81 : Int32) + ((2 : Int32) * b1)) + (1 : Int32)).toNatClampNeg (0 : Int32)) r_18_4_a2) H := hP
      have hD : va_D A (wW_X11_free G h0 h1 h2 y0_1 y0_2 y0_3 y0_4 y0_6 y0_18 y0_21 y0_22 y0_23 y0_24 y0_25 y0_26 y0_33 y0_34 y0_38 y0_39 y0_40 y0_41 y0_42 y0_43 y0_45 y0_47 y0_48 x0_5 x0_7 x0_8 x0_9 x0_10 x0_11 x0_12 x0_13 x0_14 x0_15 x0_16 x0_17 x0_19 x0_20 x0_27 x0_28 x0_29 x0_30 x0_31 x0_32 x0_35 x0_36 x0_37 x0_44 r_18_4_x0_49 r_18_4_x0_50 (upd (upd a1 ((81 : Int32) + ((2 : Int32) * b1)).toNatClampNeg (0 : Int32)) (((81 : Int32) + ((2 : Int32) * b1)) + (1 : Int32)).toNatClampNeg (0 : Int32)) r_18_4_a2) := hD
      refine lv_iload_n hx hb dX11_free_53 rfl (lv_at hl 0 rfl) ?_
      cases hf
      exact ret_i hx hb hr hlk hK hP hD hS dX11_free_54
    · have hf := of_pos hf c4
      refine lv_iconst (v := (-1 : Int32)) hx hb dX11_free_15 (by decide) ?_
      cases hf
      exact ret_i hx hb hr hlk hK hP hD hS dX11_free_16
theorem yk_X11_free : ykV yX11_free RX11 cX11_free 3 (some .int) 1 := ⟨wd_1735, wd_1736, wd_142, wd_1737, rfl, by decide +kernel, by decide +kernel, by decide +kernel⟩
theorem dX11_isFreeColumn_0 : decode cX11_isFreeColumn 0 = .ok (.iload_n 1, 1) := by decide +kernel
theorem dX11_isFreeColumn_1 : decode cX11_isFreeColumn 1 = .ok (.aload_n 0, 1) := by decide +kernel
theorem dX11_isFreeColumn_2 : decode cX11_isFreeColumn 2 = .ok (.invokevirtual 224, 3) := by decide +kernel
theorem dX11_isFreeColumn_5 : decode cX11_isFreeColumn 5 = .ok (.invokestatic 198, 3) := by decide +kernel
theorem dX11_isFreeColumn_8 : decode cX11_isFreeColumn 8 = .ok (.ifCond .eq 15, 3) := by decide +kernel
theorem dX11_isFreeColumn_11 : decode cX11_isFreeColumn 11 = .ok (.aload_n 0, 1) := by decide +kernel
theorem dX11_isFreeColumn_12 : decode cX11_isFreeColumn 12 = .ok (.iload_n 1, 1) := by decide +kernel
theorem dX11_isFreeColumn_13 : decode cX11_isFreeColumn 13 = .ok (.invokevirtual 314, 3) := by decide +kernel
theorem dX11_isFreeColumn_16 : decode cX11_isFreeColumn 16 = .ok (.ifCond .ge 7, 3) := by decide +kernel
theorem dX11_isFreeColumn_19 : decode cX11_isFreeColumn 19 = .ok (.iconst 1, 1) := by decide +kernel
theorem dX11_isFreeColumn_20 : decode cX11_isFreeColumn 20 = .ok (.goto 4, 3) := by decide +kernel
theorem dX11_isFreeColumn_23 : decode cX11_isFreeColumn 23 = .ok (.iconst 0, 1) := by decide +kernel
theorem dX11_isFreeColumn_24 : decode cX11_isFreeColumn 24 = .ok (.ireturn, 1) := by decide +kernel
def wW_X11_isFreeColumn (G : GG) (h0 h1 h2 h3 y0_3 y0_4 y0_6 y0_18 y0_21 y0_22 y0_23 y0_24 y0_25 y0_26 y0_33 y0_34 y0_38 y0_39 y0_40 y0_41 y0_42 y0_43 y0_45 y0_46 y0_47 y0_48 : Nat) (x0_5 : Int32) (x0_7 : Int32) (x0_8 : Int32) (x0_9 : Int32) (x0_10 : Int32) (x0_11 : Int32) (x0_12 : Int32) (x0_13 : Int32) (x0_14 : Int32) (x0_15 : Int32) (x0_16 : Int32) (x0_17 : Int32) (x0_19 : Int32) (x0_20 : Int32) (x0_27 : Int32) (x0_28 : Int32) (x0_29 : Int32) (x0_30 : Int32) (x0_31 : Int32) (x0_32 : Int32) (x0_35 : Int32) (x0_36 : Int32) (x0_37 : Int32) (x0_44 : Int32) (x0_49 : Int32) (x0_50 : Int32) (a1 : Nat → Int32) (a2 : Nat → Int32) (a3 : Nat → Int32) : va_W := [(h0, .inr (11, [.ref h1, .ref h2, .ref h3, .ref y0_3, .ref y0_4, .int x0_5, .ref y0_6, .int x0_7, .int x0_8, .int x0_9, .int x0_10, .int x0_11, .int x0_12, .int x0_13, .int x0_14, .int x0_15, .int x0_16, .int x0_17, .ref y0_18, .int x0_19, .int x0_20, .ref y0_21, .ref y0_22, .ref y0_23, .ref y0_24, .ref y0_25, .ref y0_26, .int x0_27, .int x0_28, .int x0_29, .int x0_30, .int x0_31, .int x0_32, .ref y0_33, .ref y0_34, .int x0_35, .int x0_36, .int x0_37, .ref y0_38, .ref y0_39, .ref y0_40, .ref y0_41, .ref y0_42, .ref y0_43, .int x0_44, .ref y0_45, .ref y0_46, .ref y0_47, .ref y0_48, .int x0_49, .int x0_50])), (h1, .inl (G.2.1, 121, .inl a1)), (h2, .inl (G.2.1, 2, .inl a2)), (h3, .inl (G.2.1, 2, .inl a3))]
set_option maxHeartbeats 4000000 in
set_option maxRecDepth 100000 in
theorem c_X11_isFreeColumn (l : Launch) (G : GG) (h0 h1 h2 h3 y0_3 y0_4 y0_6 y0_18 y0_21 y0_22 y0_23 y0_24 y0_25 y0_26 y0_33 y0_34 y0_38 y0_39 y0_40 y0_41 y0_42 y0_43 y0_45 y0_46 y0_47 y0_48 : Nat) (sz : Nat) (x0_5 : Int32) (x0_7 : Int32) (x0_8 : Int32) (x0_9 : Int32) (x0_10 : Int32) (x0_11 : Int32) (x0_12 : Int32) (x0_13 : Int32) (x0_14 : Int32) (x0_15 : Int32) (x0_16 : Int32) (x0_17 : Int32) (x0_19 : Int32) (x0_20 : Int32) (x0_27 : Int32) (x0_28 : Int32) (x0_29 : Int32) (x0_30 : Int32) (x0_31 : Int32) (x0_32 : Int32) (x0_35 : Int32) (x0_36 : Int32) (x0_37 : Int32) (x0_44 : Int32) (x0_49 : Int32) (x0_50 : Int32) (a1 : Nat → Int32) (a2 : Nat → Int32) (a3 : Nat → Int32) (F : Nat) (b1 : Int32)  (r0 : Int32) (hf : p_X11_isFreeColumn F x0_5 a1 a2 a3 b1 = some r0) : Met l yX11_isFreeColumn (.code yX11_isFreeColumn cX11_isFreeColumn 2 (some .boolean) :: gtbl) ({ frames := 3, cells := 0, slots := 0, locals := 62 } : Room) (PcS G [.ref h0, .int b1] (wW_X11_isFreeColumn G h0 h1 h2 h3 y0_3 y0_4 y0_6 y0_18 y0_21 y0_22 y0_23 y0_24 y0_25 y0_26 y0_33 y0_34 y0_38 y0_39 y0_40 y0_41 y0_42 y0_43 y0_45 y0_46 y0_47 y0_48 x0_5 x0_7 x0_8 x0_9 x0_10 x0_11 x0_12 x0_13 x0_14 x0_15 x0_16 x0_17 x0_19 x0_20 x0_27 x0_28 x0_29 x0_30 x0_31 x0_32 x0_35 x0_36 x0_37 x0_44 x0_49 x0_50 a1 a2 a3) sz) (QiS G r0 (va_A (wW_X11_isFreeColumn G h0 h1 h2 h3 y0_3 y0_4 y0_6 y0_18 y0_21 y0_22 y0_23 y0_24 y0_25 y0_26 y0_33 y0_34 y0_38 y0_39 y0_40 y0_41 y0_42 y0_43 y0_45 y0_46 y0_47 y0_48 x0_5 x0_7 x0_8 x0_9 x0_10 x0_11 x0_12 x0_13 x0_14 x0_15 x0_16 x0_17 x0_19 x0_20 x0_27 x0_28 x0_29 x0_30 x0_31 x0_32 x0_35 x0_36 x0_37 x0_44 x0_49 x0_50 a1 a2 a3) sz) (wW_X11_isFreeColumn G h0 h1 h2 h3 y0_3 y0_4 y0_6 y0_18 y0_21 y0_22 y0_23 y0_24 y0_25 y0_26 y0_33 y0_34 y0_38 y0_39 y0_40 y0_41 y0_42 y0_43 y0_45 y0_46 y0_47 y0_48 x0_5 x0_7 x0_8 x0_9 x0_10 x0_11 x0_12 x0_13 x0_14 x0_15 x0_16 x0_17 x0_19 x0_20 x0_27 x0_28 x0_29 x0_30 x0_31 x0_32 x0_35 x0_36 x0_37 x0_44 x0_49 x0_50 a1 a2 a3)) 0 0 (va_A (wW_X11_isFreeColumn G h0 h1 h2 h3 y0_3 y0_4 y0_6 y0_18 y0_21 y0_22 y0_23 y0_24 y0_25 y0_26 y0_33 y0_34 y0_38 y0_39 y0_40 y0_41 y0_42 y0_43 y0_45 y0_46 y0_47 y0_48 x0_5 x0_7 x0_8 x0_9 x0_10 x0_11 x0_12 x0_13 x0_14 x0_15 x0_16 x0_17 x0_19 x0_20 x0_27 x0_28 x0_29 x0_30 x0_31 x0_32 x0_35 x0_36 x0_37 x0_44 x0_49 x0_50 a1 a2 a3) sz) := by
  refine met_start (by decide) (Nat.le_of_ble_eq_true rfl) ?_
  intro p e s m below meth c hC hr hlk hnm hK hP hD hA hS hX ls hl
  obtain ⟨hx, hb, hml, hown, ht0⟩ := hC
  have hown : s.vm.findClass RX11 = some m.cls := hown
  generalize va_A (wW_X11_isFreeColumn G h0 h1 h2 h3 y0_3 y0_4 y0_6 y0_18 y0_21 y0_22 y0_23 y0_24 y0_25 y0_26 y0_33 y0_34 y0_38 y0_39 y0_40 y0_41 y0_42 y0_43 y0_45 y0_46 y0_47 y0_48 x0_5 x0_7 x0_8 x0_9 x0_10 x0_11 x0_12 x0_13 x0_14 x0_15 x0_16 x0_17 x0_19 x0_20 x0_27 x0_28 x0_29 x0_30 x0_31 x0_32 x0_35 x0_36 x0_37 x0_44 x0_49 x0_50 a1 a2 a3) sz = A at hD hA hS hX ⊢
  have hl : lv_has ls 2 [(0, .ref h0), (1, .int b1)] := hl
  have hf : p_X11_isFreeColumn F x0_5 a1 a2 a3 b1 = some r0 := hf
  refine lv_iload_n hx hb dX11_isFreeColumn_0 rfl (lv_at hl 1 rfl) ?_
  refine lv_aload_n hx hb dX11_isFreeColumn_1 rfl (lv_at hl 0 rfl) ?_
  obtain ⟨r_2_0, hc_r_2_0, hf⟩ := of_bnd hf
  refine cl_Vi (w2 := (wW_X11_isFreeColumn G h0 h1 h2 h3 y0_3 y0_4 y0_6 y0_18 y0_21 y0_22 y0_23 y0_24 y0_25 y0_26 y0_33 y0_34 y0_38 y0_39 y0_40 y0_41 y0_42 y0_43 y0_45 y0_46 y0_47 y0_48 x0_5 x0_7 x0_8 x0_9 x0_10 x0_11 x0_12 x0_13 x0_14 x0_15 x0_16 x0_17 x0_19 x0_20 x0_27 x0_28 x0_29 x0_30 x0_31 x0_32 x0_35 x0_36 x0_37 x0_44 x0_49 x0_50 a1 a2 a3)) (As := []) (rest := [.int b1]) ⟨hx, hb, hml, hown, ht0⟩ (c_X11_checksNow l G h0 h3 h1 h2 y0_3 y0_4 y0_6 y0_18 y0_21 y0_22 y0_23 y0_24 y0_25 y0_26 y0_33 y0_34 y0_38 y0_39 y0_40 y0_41 y0_42 y0_43 y0_45 y0_46 y0_47 y0_48 _ x0_5 x0_7 x0_8 x0_9 x0_10 x0_11 x0_12 x0_13 x0_14 x0_15 x0_16 x0_17 x0_19 x0_20 x0_27 x0_28 x0_29 x0_30 x0_31 x0_32 x0_35 x0_36 x0_37 x0_44 x0_49 x0_50 a3 F _ hc_r_2_0) yk_X11_checksNow wd_1576 ⟨rfl, rfl, by decide, by decide⟩ ⟨Nat.le_refl _, Nat.le_refl _⟩ hX hK hP hD hS hA [0, 3] [1, 2] [2, 0, 1, 3] (va_recv hK hP (ci := 11) (q0 := 0) rfl rfl) rfl rfl (by decide) rfl rfl rfl rfl rfl hl.1 rfl (Nat.le_of_ble_eq_true rfl) dX11_isFreeColumn_2 (fun H locs hP hD hS => ?_)
  obtain ⟨r_5_1, hc_r_5_1, hf⟩ := of_bnd hf
  refine cl_Si (w2 := (wW_X11_isFreeColumn G h0 h1 h2 h3 y0_3 y0_4 y0_6 y0_18 y0_21 y0_22 y0_23 y0_24 y0_25 y0_26 y0_33 y0_34 y0_38 y0_39 y0_40 y0_41 y0_42 y0_43 y0_45 y0_46 y0_47 y0_48 x0_5 x0_7 x0_8 x0_9 x0_10 x0_11 x0_12 x0_13 x0_14 x0_15 x0_16 x0_17 x0_19 x0_20 x0_27 x0_28 x0_29 x0_30 x0_31 x0_32 x0_35 x0_36 x0_37 x0_44 x0_49 x0_50 a1 a2 a3)) (As := [.int b1, .int r_2_0]) (rest := []) ⟨hx, hb, hml, hown, ht0⟩ (c_X11_isOfData l G _ F b1 r_2_0 _ hc_r_5_1) yk_X11_isOfData wd_1375 ⟨rfl, rfl, by decide, by decide⟩ ⟨Nat.le_refl _, Nat.le_refl _⟩ hX hK hP hD hS hA [] [0, 1, 2, 3] [0, 1, 2, 3] rfl rfl (by decide) rfl rfl rfl rfl rfl hl.1 rfl (Nat.le_of_ble_eq_true rfl) dX11_isFreeColumn_5 (fun H locs hP hD hS => ?_)
  refine lv_if_eq (tgt := 23) hx hb dX11_isFreeColumn_8 (by decide) (fun c3 => ?_) (fun c3 => ?_)
  · have hf := of_pos hf c3
    refine lv_iconst (v := (0 : Int32)) hx hb dX11_isFreeColumn_23 (by decide) ?_
    cases hf
    exact ret_z hx hb hr hlk hK hP hD hS (by decide) dX11_isFreeColumn_24
  · have hf := of_neg hf c3
    refine lv_aload_n hx hb dX11_isFreeColumn_11 rfl (lv_at hl 0 rfl) ?_
    refine lv_iload_n hx hb dX11_isFreeColumn_12 rfl (lv_at hl 1 rfl) ?_
    obtain ⟨r_13_3, hc_r_13_3, hf⟩ := of_bnd hf
    refine cl_Vi (w2 := (wW_X11_isFreeColumn G h0 h1 h2 h3 y0_3 y0_4 y0_6 y0_18 y0_21 y0_22 y0_23 y0_24 y0_25 y0_26 y0_33 y0_34 y0_38 y0_39 y0_40 y0_41 y0_42 y0_43 y0_45 y0_46 y0_47 y0_48 x0_5 x0_7 x0_8 x0_9 x0_10 x0_11 x0_12 x0_13 x0_14 x0_15 x0_16 x0_17 x0_19 x0_20 x0_27 x0_28 x0_29 x0_30 x0_31 x0_32 x0_35 x0_36 x0_37 x0_44 x0_49 x0_50 a1 a2 a3)) (As := [.int b1]) (rest := []) ⟨hx, hb, hml, hown, ht0⟩ (c_X11_placeOf l G h0 h1 h2 h3 y0_3 y0_4 y0_6 y0_18 y0_21 y0_22 y0_23 y0_24 y0_25 y0_26 y0_33 y0_34 y0_38 y0_39 y0_40 y0_41 y0_42 y0_43 y0_45 y0_46 y0_47 y0_48 _ x0_5 x0_7 x0_8 x0_9 x0_10 x0_11 x0_12 x0_13 x0_14 x0_15 x0_16 x0_17 x0_19 x0_20 x0_27 x0_28 x0_29 x0_30 x0_31 x0_32 x0_35 x0_36 x0_37 x0_44 x0_49 x0_50 a1 a2 a3 F b1 _ hc_r_13_3) yk_X11_placeOf wd_1651 ⟨rfl, rfl, by decide, by decide⟩ ⟨Nat.le_refl _, Nat.le_refl _⟩ hX hK hP hD hS hA [0, 1, 2, 3] [] [0, 1, 2, 3] (va_recv hK hP (ci := 11) (q0 := 0) rfl rfl) rfl rfl (by decide) rfl rfl rfl rfl rfl hl.1 rfl (Nat.le_of_ble_eq_true rfl) dX11_isFreeColumn_13 (fun H locs hP hD hS => ?_)
    refine lv_if_ge (tgt := 23) hx hb dX11_isFreeColumn_16 (by decide) (fun c5 => ?_) (fun c5 => ?_)
    · have hf := of_pos hf c5
      refine lv_iconst (v := (0 : Int32)) hx hb dX11_isFreeColumn_23 (by decide) ?_
      cases hf
      exact ret_z hx hb hr hlk hK hP hD hS (by decide) dX11_isFreeColumn_24
    · have hf := of_neg hf c5
      refine lv_iconst (v := (1 : Int32)) hx hb dX11_isFreeColumn_19 (by decide) ?_
      refine lv_goto (tgt := 24) hx hb dX11_isFreeColumn_20 (by decide) ?_
      cases hf
      exact ret_z hx hb hr hlk hK hP hD hS (by decide) dX11_isFreeColumn_24
theorem yk_X11_isFreeColumn : ykV yX11_isFreeColumn RX11 cX11_isFreeColumn 2 (some .boolean) 1 := ⟨wd_1744, wd_100, wd_142, wd_1745, rfl, by decide +kernel, by decide +kernel, by decide +kernel⟩
theorem dX11_column_0 : decode cX11_column 0 = .ok (.aload_n 0, 1) := by decide +kernel
theorem dX11_column_1 : decode cX11_column 1 = .ok (.iload_n 1, 1) := by decide +kernel
theorem dX11_column_2 : decode cX11_column 2 = .ok (.invokevirtual 272, 3) := by decide +kernel
theorem dX11_column_5 : decode cX11_column 5 = .ok (.ifCond .eq 11, 3) := by decide +kernel
theorem dX11_column_8 : decode cX11_column 8 = .ok (.aload_n 0, 1) := by decide +kernel
theorem dX11_column_9 : decode cX11_column 9 = .ok (.iload_n 2, 1) := by decide +kernel
theorem dX11_column_10 : decode cX11_column 10 = .ok (.invokevirtual 375, 3) := by decide +kernel
theorem dX11_column_13 : decode cX11_column 13 = .ok (.ifCond .ne 5, 3) := by decide +kernel
theorem dX11_column_16 : decode cX11_column 16 = .ok (.iconst 0, 1) := by decide +kernel
theorem dX11_column_17 : decode cX11_column 17 = .ok (.ireturn, 1) := by decide +kernel
theorem dX11_column_18 : decode cX11_column 18 = .ok (.aload_n 0, 1) := by decide +kernel
theorem dX11_column_19 : decode cX11_column 19 = .ok (.invokevirtual 356, 3) := by decide +kernel
theorem dX11_column_22 : decode cX11_column 22 = .ok (.aload_n 0, 1) := by decide +kernel
theorem dX11_column_23 : decode cX11_column 23 = .ok (.getfield 7, 3) := by decide +kernel
theorem dX11_column_26 : decode cX11_column 26 = .ok (.iconst 0, 1) := by decide +kernel
theorem dX11_column_27 : decode cX11_column 27 = .ok (.iload_n 1, 1) := by decide +kernel
theorem dX11_column_28 : decode cX11_column 28 = .ok (.iadd, 1) := by decide +kernel
theorem dX11_column_29 : decode cX11_column 29 = .ok (.iload_n 2, 1) := by decide +kernel
theorem dX11_column_30 : decode cX11_column 30 = .ok (.iastore, 1) := by decide +kernel
theorem dX11_column_31 : decode cX11_column 31 = .ok (.aload_n 0, 1) := by decide +kernel
theorem dX11_column_32 : decode cX11_column 32 = .ok (.invokevirtual 378, 3) := by decide +kernel
theorem dX11_column_35 : decode cX11_column 35 = .ok (.iconst 1, 1) := by decide +kernel
theorem dX11_column_36 : decode cX11_column 36 = .ok (.ireturn, 1) := by decide +kernel
def wW_X11_column (G : GG) (h0 h1 h2 h3 h4 y0_3 y0_4 y0_6 y0_18 y0_21 y0_22 y0_23 y0_24 y0_25 y0_26 y0_33 y0_34 y0_38 y0_39 y0_40 y0_41 y0_42 y0_43 y0_45 y0_47 y0_48 : Nat) (x0_5 : Int32) (x0_7 : Int32) (x0_8 : Int32) (x0_9 : Int32) (x0_10 : Int32) (x0_11 : Int32) (x0_12 : Int32) (x0_13 : Int32) (x0_14 : Int32) (x0_15 : Int32) (x0_16 : Int32) (x0_17 : Int32) (x0_19 : Int32) (x0_20 : Int32) (x0_27 : Int32) (x0_28 : Int32) (x0_29 : Int32) (x0_30 : Int32) (x0_31 : Int32) (x0_32 : Int32) (x0_35 : Int32) (x0_36 : Int32) (x0_37 : Int32) (x0_44 : Int32) (x0_49 : Int32) (x0_50 : Int32) (a1 : Nat → Int32) (a2 : Nat → Int32) (a3 : Nat → Int32) (a4 : Nat → Int32) : va_W := [(h0, .inr (11, [.ref h1, .ref h2, .ref h3, .ref y0_3, .ref y0_4, .int x0_5, .ref y0_6, .int x0_7, .int x0_8, .int x0_9, .int x0_10, .int x0_11, .int x0_12, .int x0_13, .int x0_14, .int x0_15, .int x0_16, .int x0_17, .ref y0_18, .int x0_19, .int x0_20, .ref y0_21, .ref y0_22, .ref y0_23, .ref y0_24, .ref y0_25, .ref y0_26, .int x0_27, .int x0_28, .int x0_29, .int x0_30, .int x0_31, .int x0_32, .ref y0_33, .ref y0_34, .int x0_35, .int x0_36, .int x0_37, .ref y0_38, .ref y0_39, .ref y0_40, .ref y0_41, .ref y0_42, .ref y0_43, .int x0_44, .ref y0_45, .ref h4, .ref y0_47, .ref y0_48, .int x0_49, .int x0_50])), (h1, .inl (G.2.1, 121, .inl a1)), (h2, .inl (G.2.1, 2, .inl a2)), (h3, .inl (G.2.1, 2, .inl a3)), (h4, .inl (G.2.1, 1573, .inl a4))]
set_option maxHeartbeats 4000000 in
set_option maxRecDepth 100000 in
theorem c_X11_column (l : Launch) (G : GG) (h0 h1 h2 h3 h4 y0_3 y0_4 y0_6 y0_18 y0_21 y0_22 y0_23 y0_24 y0_25 y0_26 y0_33 y0_34 y0_38 y0_39 y0_40 y0_41 y0_42 y0_43 y0_45 y0_47 y0_48 : Nat) (sz : Nat) (x0_5 : Int32) (x0_7 : Int32) (x0_8 : Int32) (x0_9 : Int32) (x0_10 : Int32) (x0_11 : Int32) (x0_12 : Int32) (x0_13 : Int32) (x0_14 : Int32) (x0_15 : Int32) (x0_16 : Int32) (x0_17 : Int32) (x0_19 : Int32) (x0_20 : Int32) (x0_27 : Int32) (x0_28 : Int32) (x0_29 : Int32) (x0_30 : Int32) (x0_31 : Int32) (x0_32 : Int32) (x0_35 : Int32) (x0_36 : Int32) (x0_37 : Int32) (x0_44 : Int32) (x0_49 : Int32) (x0_50 : Int32) (a1 : Nat → Int32) (a2 : Nat → Int32) (a3 : Nat → Int32) (a4 : Nat → Int32) (F : Nat) (b1 : Int32) (b2 : Int32)  (r0 : Int32) (e_x0_49 : Int32) (e_x0_50 : Int32) (e_a1 : Nat → Int32) (e_a4 : Nat → Int32) (hf : p_X11_column F x0_5 x0_49 x0_50 a1 a2 a3 a4 b1 b2 = some (r0, e_x0_49, e_x0_50, e_a1, e_a4)) : Met l yX11_column (.code yX11_column cX11_column 3 (some .boolean) :: gtbl) ({ frames := 7, cells := 0, slots := 0, locals := 158 } : Room) (PcS G [.ref h0, .int b1, .int b2] (wW_X11_column G h0 h1 h2 h3 h4 y0_3 y0_4 y0_6 y0_18 y0_21 y0_22 y0_23 y0_24 y0_25 y0_26 y0_33 y0_34 y0_38 y0_39 y0_40 y0_41 y0_42 y0_43 y0_45 y0_47 y0_48 x0_5 x0_7 x0_8 x0_9 x0_10 x0_11 x0_12 x0_13 x0_14 x0_15 x0_16 x0_17 x0_19 x0_20 x0_27 x0_28 x0_29 x0_30 x0_31 x0_32 x0_35 x0_36 x0_37 x0_44 x0_49 x0_50 a1 a2 a3 a4) sz) (QiS G r0 (va_A (wW_X11_column G h0 h1 h2 h3 h4 y0_3 y0_4 y0_6 y0_18 y0_21 y0_22 y0_23 y0_24 y0_25 y0_26 y0_33 y0_34 y0_38 y0_39 y0_40 y0_41 y0_42 y0_43 y0_45 y0_47 y0_48 x0_5 x0_7 x0_8 x0_9 x0_10 x0_11 x0_12 x0_13 x0_14 x0_15 x0_16 x0_17 x0_19 x0_20 x0_27 x0_28 x0_29 x0_30 x0_31 x0_32 x0_35 x0_36 x0_37 x0_44 x0_49 x0_50 a1 a2 a3 a4) sz) (wW_X11_column G h0 h1 h2 h3 h4 y0_3 y0_4 y0_6 y0_18 y0_21 y0_22 y0_23 y0_24 y0_25 y0_26 y0_33 y0_34 y0_38 y0_39 y0_40 y0_41 y0_42 y0_43 y0_45 y0_47 y0_48 x0_5 x0_7 x0_8 x0_9 x0_10 x0_11 x0_12 x0_13 x0_14 x0_15 x0_16 x0_17 x0_19 x0_20 x0_27 x0_28 x0_29 x0_30 x0_31 x0_32 x0_35 x0_36 x0_37 x0_44 e_x0_49 e_x0_50 e_a1 a2 a3 e_a4)) 0 0 (va_A (wW_X11_column G h0 h1 h2 h3 h4 y0_3 y0_4 y0_6 y0_18 y0_21 y0_22 y0_23 y0_24 y0_25 y0_26 y0_33 y0_34 y0_38 y0_39 y0_40 y0_41 y0_42 y0_43 y0_45 y0_47 y0_48 x0_5 x0_7 x0_8 x0_9 x0_10 x0_11 x0_12 x0_13 x0_14 x0_15 x0_16 x0_17 x0_19 x0_20 x0_27 x0_28 x0_29 x0_30 x0_31 x0_32 x0_35 x0_36 x0_37 x0_44 x0_49 x0_50 a1 a2 a3 a4) sz) := by
  refine met_start (by decide) (Nat.le_of_ble_eq_true rfl) ?_
  intro p e s m below meth c hC hr hlk hnm hK hP hD hA hS hX ls hl
  obtain ⟨hx, hb, hml, hown, ht0⟩ := hC
  have hown : s.vm.findClass RX11 = some m.cls := hown
  generalize va_A (wW_X11_column G h0 h1 h2 h3 h4 y0_3 y0_4 y0_6 y0_18 y0_21 y0_22 y0_23 y0_24 y0_25 y0_26 y0_33 y0_34 y0_38 y0_39 y0_40 y0_41 y0_42 y0_43 y0_45 y0_47 y0_48 x0_5 x0_7 x0_8 x0_9 x0_10 x0_11 x0_12 x0_13 x0_14 x0_15 x0_16 x0_17 x0_19 x0_20 x0_27 x0_28 x0_29 x0_30 x0_31 x0_32 x0_35 x0_36 x0_37 x0_44 x0_49 x0_50 a1 a2 a3 a4) sz = A at hD hA hS hX ⊢
  have hl : lv_has ls 3 [(0, .ref h0), (1, .int b1), (2, .int b2)] := hl
  have hf : p_X11_column F x0_5 x0_49 x0_50 a1 a2 a3 a4 b1 b2 = some (r0, e_x0_49, e_x0_50, e_a1, e_a4) := hf
  refine lv_aload_n hx hb dX11_column_0 rfl (lv_at hl 0 rfl) ?_
  refine lv_iload_n hx hb dX11_column_1 rfl (lv_at hl 1 rfl) ?_
  obtain ⟨r_2_0, hc_r_2_0, hf⟩ := of_bnd hf
  refine cl_Vi (w2 := (wW_X11_column G h0 h1 h2 h3 h4 y0_3 y0_4 y0_6 y0_18 y0_21 y0_22 y0_23 y0_24 y0_25 y0_26 y0_33 y0_34 y0_38 y0_39 y0_40 y0_41 y0_42 y0_43 y0_45 y0_47 y0_48 x0_5 x0_7 x0_8 x0_9 x0_10 x0_11 x0_12 x0_13 x0_14 x0_15 x0_16 x0_17 x0_19 x0_20 x0_27 x0_28 x0_29 x0_30 x0_31 x0_32 x0_35 x0_36 x0_37 x0_44 x0_49 x0_50 a1 a2 a3 a4)) (As := [.int b1]) (rest := []) ⟨hx, hb, hml, hown, ht0⟩ (c_X11_isData l G h0 h2 h1 h3 y0_3 y0_4 y0_6 y0_18 y0_21 y0_22 y0_23 y0_24 y0_25 y0_26 y0_33 y0_34 y0_38 y0_39 y0_40 y0_41 y0_42 y0_43 y0_45 h4 y0_47 y0_48 _ x0_5 x0_7 x0_8 x0_9 x0_10 x0_11 x0_12 x0_13 x0_14 x0_15 x0_16 x0_17 x0_19 x0_20 x0_27 x0_28 x0_29 x0_30 x0_31 x0_32 x0_35 x0_36 x0_37 x0_44 x0_49 x0_50 a2 F b1 _ hc_r_2_0) yk_X11_isData wd_1615 ⟨rfl, rfl, by decide, by decide⟩ ⟨Nat.le_refl _, Nat.le_refl _⟩ hX hK hP hD hS hA [0, 2] [1, 3, 4] [3, 0, 4, 1, 2] (va_recv hK hP (ci := 11) (q0 := 0) rfl rfl) rfl rfl (by decide) rfl rfl rfl rfl rfl hl.1 rfl (Nat.le_of_ble_eq_true rfl) dX11_column_2 (fun H locs hP hD hS => ?_)
  refine lv_if_eq (tgt := 16) hx hb dX11_column_5 (by decide) (fun c2 => ?_) (fun c2 => ?_)
  · have hf := of_pos hf c2
    refine lv_iconst (v := (0 : Int32)) hx hb dX11_column_16 (by decide) ?_
    cases hf
    exact ret_z hx hb hr hlk hK hP hD hS (by decide) dX11_column_17
  · have hf := of_neg hf c2
    refine lv_aload_n hx hb dX11_column_8 rfl (lv_at hl 0 rfl) ?_
    refine lv_iload_n hx hb dX11_column_9 rfl (lv_at hl 2 rfl) ?_
    obtain ⟨r_10_2, hc_r_10_2, hf⟩ := of_bnd hf
    refine cl_Vi (w2 := (wW_X11_column G h0 h1 h2 h3 h4 y0_3 y0_4 y0_6 y0_18 y0_21 y0_22 y0_23 y0_24 y0_25 y0_26 y0_33 y0_34 y0_38 y0_39 y0_40 y0_41 y0_42 y0_43 y0_45 y0_47 y0_48 x0_5 x0_7 x0_8 x0_9 x0_10 x0_11 x0_12 x0_13 x0_14 x0_15 x0_16 x0_17 x0_19 x0_20 x0_27 x0_28 x0_29 x0_30 x0_31 x0_32 x0_35 x0_36 x0_37 x0_44 x0_49 x0_50 a1 a2 a3 a4)) (As := [.int b2]) (rest := []) ⟨hx, hb, hml, hown, ht0⟩ (c_X11_isFreeColumn l G h0 h1 h2 h3 y0_3 y0_4 y0_6 y0_18 y0_21 y0_22 y0_23 y0_24 y0_25 y0_26 y0_33 y0_34 y0_38 y0_39 y0_40 y0_41 y0_42 y0_43 y0_45 h4 y0_47 y0_48 _ x0_5 x0_7 x0_8 x0_9 x0_10 x0_11 x0_12 x0_13 x0_14 x0_15 x0_16 x0_17 x0_19 x0_20 x0_27 x0_28 x0_29 x0_30 x0_31 x0_32 x0_35 x0_36 x0_37 x0_44 x0_49 x0_50 a1 a2 a3 F b2 _ hc_r_10_2) yk_X11_isFreeColumn wd_1742 ⟨rfl, rfl, by decide, by decide⟩ ⟨Nat.le_refl _, Nat.le_refl _⟩ hX hK hP hD hS hA [0, 1, 2, 3] [4] [1, 2, 3, 4, 0] (va_recv hK hP (ci := 11) (q0 := 0) rfl rfl) rfl rfl (by decide) rfl rfl rfl rfl rfl hl.1 rfl (Nat.le_of_ble_eq_true rfl) dX11_column_10 (fun H locs hP hD hS => ?_)
    refine lv_if_ne (tgt := 18) hx hb dX11_column_13 (by decide) (fun c4 => ?_) (fun c4 => ?_)
    · have hf := of_neg hf c4
      refine lv_aload_n hx hb dX11_column_18 rfl (lv_at hl 0 rfl) ?_
      obtain ⟨⟨r_19_4_x0_49, r_19_4_x0_50, r_19_4_a2⟩, hc_r_19_4, hf⟩ := of_bnd hf
      refine cl_Vv (w2 := (wW_X11_column G h0 h1 h2 h3 h4 y0_3 y0_4 y0_6 y0_18 y0_21 y0_22 y0_23 y0_24 y0_25 y0_26 y0_33 y0_34 y0_38 y0_39 y0_40 y0_41 y0_42 y0_43 y0_45 y0_47 y0_48 x0_5 x0_7 x0_8 x0_9 x0_10 x0_11 x0_12 x0_13 x0_14 x0_15 x0_16 x0_17 x0_19 x0_20 x0_27 x0_28 x0_29 x0_30 x0_31 x0_32 x0_35 x0_36 x0_37 x0_44 r_19_4_x0_49 r_19_4_x0_50 a1 a2 a3 r_19_4_a2)) (As := []) (rest := []) ⟨hx, hb, hml, hown, ht0⟩ (c_X11_keepAct l G h0 h1 h4 h2 h3 y0_3 y0_4 y0_6 y0_18 y0_21 y0_22 y0_23 y0_24 y0_25 y0_26 y0_33 y0_34 y0_38 y0_39 y0_40 y0_41 y0_42 y0_43 y0_45 y0_47 y0_48 _ x0_5 x0_7 x0_8 x0_9 x0_10 x0_11 x0_12 x0_13 x0_14 x0_15 x0_16 x0_17 x0_19 x0_20 x0_27 x0_28 x0_29 x0_30 x0_31 x0_32 x0_35 x0_36 x0_37 x0_44 x0_49 x0_50 a1 a4 F _ _ _ hc_r_19_4) yk_X11_keepAct wd_1595 ⟨rfl, rfl, by decide, by decide⟩ ⟨Nat.le_refl _, Nat.le_refl _⟩ hX hK hP hD hS hA [0, 1, 4] [2, 3] [2, 3, 0, 1, 4] (va_recv hK hP (ci := 11) (q0 := 0) rfl rfl) rfl rfl (by decide) rfl rfl rfl rfl rfl hl.1 rfl (Nat.le_of_ble_eq_true rfl) dX11_column_19 (fun H locs hP hD hS => ?_)
      refine lv_aload_n hx hb dX11_column_22 rfl (lv_at hl 0 rfl) ?_
      refine va_get (ci := 11) (v := .ref h1) (C := RX11) (T := TX11) (N := 51) hx hb ht0 iX11 hown hK hP 0 rfl rfl 0 (by decide) (ht0 _ wd_1406) (fun _ h9 => h9) rfl dX11_column_23 ?_
      refine lv_iconst (v := (0 : Int32)) hx hb dX11_column_26 (by decide) ?_
      refine lv_iload_n hx hb dX11_column_27 rfl (lv_at hl 1 rfl) ?_
      refine lv_iadd hx hb dX11_column_28 ?_
      refine lv_iload_n hx hb dX11_column_29 rfl (lv_at hl 2 rfl) ?_
      obtain ⟨g6, hf⟩ := of_grd hf
      refine va_iast hx hb hK hP hD hS 1 0 rfl rfl g6 dX11_column_30 (fun H locs hP hD hS => ?_)
      have hP : va_P G.1 vwCl (wW_X11_column G h0 h1 h2 h3 h4 y0_3 y0_4 y0_6 y0_18 y0_21 y0_22 y0_23 y0_24 y0_25 y0_26 y0_33 y0_34 y0_38 y0_39 y0_40 y0_41 y0_42 y0_43 y0_45 y0_47 y0_48 x0_5 x0_7 x0_8 x0_9 x0_10 x0_11 x0_12 x0_13 x0_14 x0_15 x0_16 x0_17 x0_19 x0_20 x0_27 x0_28 x0_29 x0_30 x0_31 x0_32 x0_35 x0_36 x0_37 x0_44 r_19_4_x0_49 r_19_4_x0_50 (upd a1 ((0 : Int32) + b1).toNatClampNeg b2) a2 a3 r_19_4_a2) H := hP
      have hD : va_D A (wW_X11_column G h0 h1 h2 h3 h4 y0_3 y0_4 y0_6 y0_18 y0_21 y0_22 y0_23 y0_24 y0_25 y0_26 y0_33 y0_34 y0_38 y0_39 y0_40 y0_41 y0_42 y0_43 y0_45 y0_47 y0_48 x0_5 x0_7 x0_8 x0_9 x0_10 x0_11 x0_12 x0_13 x0_14 x0_15 x0_16 x0_17 x0_19 x0_20 x0_27 x0_28 x0_29 x0_30 x0_31 x0_32 x0_35 x0_36 x0_37 x0_44 r_19_4_x0_49 r_19_4_x0_50 (upd a1 ((0 : Int32) + b1).toNatClampNeg b2) a2 a3 r_19_4_a2) := hD
      refine lv_aload_n hx hb dX11_column_31 rfl (lv_at hl 0 rfl) ?_
      obtain ⟨r_32_6_a1, hc_r_32_6, hf⟩ := of_bnd hf
      refine cl_Vv (w2 := (wW_X11_column G h0 h1 h2 h3 h4 y0_3 y0_4 y0_6 y0_18 y0_21 y0_22 y0_23 y0_24 y0_25 y0_26 y0_33 y0_34 y0_38 y0_39 y0_40 y0_41 y0_42 y0_43 y0_45 y0_47 y0_48 x0_5 x0_7 x0_8 x0_9 x0_10 x0_11 x0_12 x0_13 x0_14 x0_15 x0_16 x0_17 x0_19 x0_20 x0_27 x0_28 x0_29 x0_30 x0_31 x0_32 x0_35 x0_36 x0_37 x0_44 r_19_4_x0_49 r_19_4_x0_50 r_32_6_a1 a2 a3 r_19_4_a2)) (As := []) (rest := []) ⟨hx, hb, hml, hown, ht0⟩ (c_X11_writeAnew l G h0 h1 h2 h3 y0_3 y0_4 y0_6 y0_18 y0_21 y0_22 y0_23 y0_24 y0_25 y0_26 y0_33 y0_34 y0_38 y0_39 y0_40 y0_41 y0_42 y0_43 y0_45 h4 y0_47 y0_48 _ x0_5 x0_7 x0_8 x0_9 x0_10 x0_11 x0_12 x0_13 x0_14 x0_15 x0_16 x0_17 x0_19 x0_20 x0_27 x0_28 x0_29 x0_30 x0_31 x0_32 x0_35 x0_36 x0_37 x0_44 r_19_4_x0_49 r_19_4_x0_50 (upd a1 ((0 : Int32) + b1).toNatClampNeg b2) a2 F _ hc_r_32_6) yk_X11_writeAnew wd_1746 ⟨rfl, rfl, by decide, by decide⟩ ⟨Nat.le_refl _, Nat.le_refl _⟩ hX hK hP hD hS hA [0, 1, 2] [3, 4] [2, 3, 4, 0, 1] (va_recv hK hP (ci := 11) (q0 := 0) rfl rfl) rfl rfl (by decide) rfl rfl rfl rfl rfl hl.1 rfl (Nat.le_of_ble_eq_true rfl) dX11_column_32 (fun H locs hP hD hS => ?_)
      refine lv_iconst (v := (1 : Int32)) hx hb dX11_column_35 (by decide) ?_
      cases hf
      exact ret_z hx hb hr hlk hK hP hD hS (by decide) dX11_column_36
    · have hf := of_pos hf c4
      refine lv_iconst (v := (0 : Int32)) hx hb dX11_column_16 (by decide) ?_
      cases hf
      exact ret_z hx hb hr hlk hK hP hD hS (by decide) dX11_column_17
theorem yk_X11_column : ykV yX11_column RX11 cX11_column 3 (some .boolean) 2 := ⟨wd_1739, wd_1740, wd_142, wd_1741, rfl, by decide +kernel, by decide +kernel, by decide +kernel⟩
theorem dX11_exchangeAt_0 : decode cX11_exchangeAt 0 = .ok (.aload_n 0, 1) := by decide +kernel
theorem dX11_exchangeAt_1 : decode cX11_exchangeAt 1 = .ok (.getfield 7, 3) := by decide +kernel
theorem dX11_exchangeAt_4 : decode cX11_exchangeAt 4 = .ok (.iconst 0, 1) := by decide +kernel
theorem dX11_exchangeAt_5 : decode cX11_exchangeAt 5 = .ok (.iload_n 1, 1) := by decide +kernel
theorem dX11_exchangeAt_6 : decode cX11_exchangeAt 6 = .ok (.iadd, 1) := by decide +kernel
theorem dX11_exchangeAt_7 : decode cX11_exchangeAt 7 = .ok (.iaload, 1) := by decide +kernel
theorem dX11_exchangeAt_8 : decode cX11_exchangeAt 8 = .ok (.istore_n 3, 1) := by decide +kernel
theorem dX11_exchangeAt_9 : decode cX11_exchangeAt 9 = .ok (.aload_n 0, 1) := by decide +kernel
theorem dX11_exchangeAt_10 : decode cX11_exchangeAt 10 = .ok (.getfield 7, 3) := by decide +kernel
theorem dX11_exchangeAt_13 : decode cX11_exchangeAt 13 = .ok (.iconst 0, 1) := by decide +kernel
theorem dX11_exchangeAt_14 : decode cX11_exchangeAt 14 = .ok (.iload_n 1, 1) := by decide +kernel
theorem dX11_exchangeAt_15 : decode cX11_exchangeAt 15 = .ok (.iadd, 1) := by decide +kernel
theorem dX11_exchangeAt_16 : decode cX11_exchangeAt 16 = .ok (.aload_n 0, 1) := by decide +kernel
theorem dX11_exchangeAt_17 : decode cX11_exchangeAt 17 = .ok (.getfield 7, 3) := by decide +kernel
theorem dX11_exchangeAt_20 : decode cX11_exchangeAt 20 = .ok (.iconst 0, 1) := by decide +kernel
theorem dX11_exchangeAt_21 : decode cX11_exchangeAt 21 = .ok (.iload_n 2, 1) := by decide +kernel
theorem dX11_exchangeAt_22 : decode cX11_exchangeAt 22 = .ok (.iadd, 1) := by decide +kernel
theorem dX11_exchangeAt_23 : decode cX11_exchangeAt 23 = .ok (.iaload, 1) := by decide +kernel
theorem dX11_exchangeAt_24 : decode cX11_exchangeAt 24 = .ok (.iastore, 1) := by decide +kernel
theorem dX11_exchangeAt_25 : decode cX11_exchangeAt 25 = .ok (.aload_n 0, 1) := by decide +kernel
theorem dX11_exchangeAt_26 : decode cX11_exchangeAt 26 = .ok (.getfield 7, 3) := by decide +kernel
theorem dX11_exchangeAt_29 : decode cX11_exchangeAt 29 = .ok (.iconst 0, 1) := by decide +kernel
theorem dX11_exchangeAt_30 : decode cX11_exchangeAt 30 = .ok (.iload_n 2, 1) := by decide +kernel
theorem dX11_exchangeAt_31 : decode cX11_exchangeAt 31 = .ok (.iadd, 1) := by decide +kernel
theorem dX11_exchangeAt_32 : decode cX11_exchangeAt 32 = .ok (.iload_n 3, 1) := by decide +kernel
theorem dX11_exchangeAt_33 : decode cX11_exchangeAt 33 = .ok (.iastore, 1) := by decide +kernel
theorem dX11_exchangeAt_34 : decode cX11_exchangeAt 34 = .ok (.return_, 1) := by decide +kernel
def wW_X11_exchangeAt (G : GG) (h0 h1 y0_1 y0_2 y0_3 y0_4 y0_6 y0_18 y0_21 y0_22 y0_23 y0_24 y0_25 y0_26 y0_33 y0_34 y0_38 y0_39 y0_40 y0_41 y0_42 y0_43 y0_45 y0_46 y0_47 y0_48 : Nat) (x0_5 : Int32) (x0_7 : Int32) (x0_8 : Int32) (x0_9 : Int32) (x0_10 : Int32) (x0_11 : Int32) (x0_12 : Int32) (x0_13 : Int32) (x0_14 : Int32) (x0_15 : Int32) (x0_16 : Int32) (x0_17 : Int32) (x0_19 : Int32) (x0_20 : Int32) (x0_27 : Int32) (x0_28 : Int32) (x0_29 : Int32) (x0_30 : Int32) (x0_31 : Int32) (x0_32 : Int32) (x0_35 : Int32) (x0_36 : Int32) (x0_37 : Int32) (x0_44 : Int32) (x0_49 : Int32) (x0_50 : Int32) (a1 : Nat → Int32) : va_W := [(h0, .inr (11, [.ref h1, .ref y0_1, .ref y0_2, .ref y0_3, .ref y0_4, .int x0_5, .ref y0_6, .int x0_7, .int x0_8, .int x0_9, .int x0_10, .int x0_11, .int x0_12, .int x0_13, .int x0_14, .int x0_15, .int x0_16, .int x0_17, .ref y0_18, .int x0_19, .int x0_20, .ref y0_21, .ref y0_22, .ref y0_23, .ref y0_24, .ref y0_25, .ref y0_26, .int x0_27, .int x0_28, .int x0_29, .int x0_30, .int x0_31, .int x0_32, .ref y0_33, .ref y0_34, .int x0_35, .int x0_36, .int x0_37, .ref y0_38, .ref y0_39, .ref y0_40, .ref y0_41, .ref y0_42, .ref y0_43, .int x0_44, .ref y0_45, .ref y0_46, .ref y0_47, .ref y0_48, .int x0_49, .int x0_50])), (h1, .inl (G.2.1, 121, .inl a1))]
set_option maxHeartbeats 4000000 in
set_option maxRecDepth 100000 in
theorem c_X11_exchangeAt (l : Launch) (G : GG) (h0 h1 y0_1 y0_2 y0_3 y0_4 y0_6 y0_18 y0_21 y0_22 y0_23 y0_24 y0_25 y0_26 y0_33 y0_34 y0_38 y0_39 y0_40 y0_41 y0_42 y0_43 y0_45 y0_46 y0_47 y0_48 : Nat) (sz : Nat) (x0_5 : Int32) (x0_7 : Int32) (x0_8 : Int32) (x0_9 : Int32) (x0_10 : Int32) (x0_11 : Int32) (x0_12 : Int32) (x0_13 : Int32) (x0_14 : Int32) (x0_15 : Int32) (x0_16 : Int32) (x0_17 : Int32) (x0_19 : Int32) (x0_20 : Int32) (x0_27 : Int32) (x0_28 : Int32) (x0_29 : Int32) (x0_30 : Int32) (x0_31 : Int32) (x0_32 : Int32) (x0_35 : Int32) (x0_36 : Int32) (x0_37 : Int32) (x0_44 : Int32) (x0_49 : Int32) (x0_50 : Int32) (a1 : Nat → Int32) (F : Nat) (b1 : Int32) (b2 : Int32)  (e_a1 : Nat → Int32) (hf : p_X11_exchangeAt F a1 b1 b2 = some e_a1) : Met l yX11_exchangeAt (.code yX11_exchangeAt cX11_exchangeAt 4 none :: gtbl) ({ frames := 0, cells := 0, slots := 0, locals := 0 } : Room) (PcS G [.ref h0, .int b1, .int b2] (wW_X11_exchangeAt G h0 h1 y0_1 y0_2 y0_3 y0_4 y0_6 y0_18 y0_21 y0_22 y0_23 y0_24 y0_25 y0_26 y0_33 y0_34 y0_38 y0_39 y0_40 y0_41 y0_42 y0_43 y0_45 y0_46 y0_47 y0_48 x0_5 x0_7 x0_8 x0_9 x0_10 x0_11 x0_12 x0_13 x0_14 x0_15 x0_16 x0_17 x0_19 x0_20 x0_27 x0_28 x0_29 x0_30 x0_31 x0_32 x0_35 x0_36 x0_37 x0_44 x0_49 x0_50 a1) sz) (QvS G (va_A (wW_X11_exchangeAt G h0 h1 y0_1 y0_2 y0_3 y0_4 y0_6 y0_18 y0_21 y0_22 y0_23 y0_24 y0_25 y0_26 y0_33 y0_34 y0_38 y0_39 y0_40 y0_41 y0_42 y0_43 y0_45 y0_46 y0_47 y0_48 x0_5 x0_7 x0_8 x0_9 x0_10 x0_11 x0_12 x0_13 x0_14 x0_15 x0_16 x0_17 x0_19 x0_20 x0_27 x0_28 x0_29 x0_30 x0_31 x0_32 x0_35 x0_36 x0_37 x0_44 x0_49 x0_50 a1) sz) (wW_X11_exchangeAt G h0 h1 y0_1 y0_2 y0_3 y0_4 y0_6 y0_18 y0_21 y0_22 y0_23 y0_24 y0_25 y0_26 y0_33 y0_34 y0_38 y0_39 y0_40 y0_41 y0_42 y0_43 y0_45 y0_46 y0_47 y0_48 x0_5 x0_7 x0_8 x0_9 x0_10 x0_11 x0_12 x0_13 x0_14 x0_15 x0_16 x0_17 x0_19 x0_20 x0_27 x0_28 x0_29 x0_30 x0_31 x0_32 x0_35 x0_36 x0_37 x0_44 x0_49 x0_50 e_a1)) 0 0 (va_A (wW_X11_exchangeAt G h0 h1 y0_1 y0_2 y0_3 y0_4 y0_6 y0_18 y0_21 y0_22 y0_23 y0_24 y0_25 y0_26 y0_33 y0_34 y0_38 y0_39 y0_40 y0_41 y0_42 y0_43 y0_45 y0_46 y0_47 y0_48 x0_5 x0_7 x0_8 x0_9 x0_10 x0_11 x0_12 x0_13 x0_14 x0_15 x0_16 x0_17 x0_19 x0_20 x0_27 x0_28 x0_29 x0_30 x0_31 x0_32 x0_35 x0_36 x0_37 x0_44 x0_49 x0_50 a1) sz) := by
  refine met_start (by decide) (Nat.le_of_ble_eq_true rfl) ?_
  intro p e s m below meth c hC hr hlk hnm hK hP hD hA hS hX ls hl
  obtain ⟨hx, hb, hml, hown, ht0⟩ := hC
  have hown : s.vm.findClass RX11 = some m.cls := hown
  generalize va_A (wW_X11_exchangeAt G h0 h1 y0_1 y0_2 y0_3 y0_4 y0_6 y0_18 y0_21 y0_22 y0_23 y0_24 y0_25 y0_26 y0_33 y0_34 y0_38 y0_39 y0_40 y0_41 y0_42 y0_43 y0_45 y0_46 y0_47 y0_48 x0_5 x0_7 x0_8 x0_9 x0_10 x0_11 x0_12 x0_13 x0_14 x0_15 x0_16 x0_17 x0_19 x0_20 x0_27 x0_28 x0_29 x0_30 x0_31 x0_32 x0_35 x0_36 x0_37 x0_44 x0_49 x0_50 a1) sz = A at hD hA hS hX ⊢
  have hl : lv_has ls 4 [(0, .ref h0), (1, .int b1), (2, .int b2)] := hl
  have hf : p_X11_exchangeAt F a1 b1 b2 = some e_a1 := hf
  refine lv_aload_n hx hb dX11_exchangeAt_0 rfl (lv_at hl 0 rfl) ?_
  refine va_get (ci := 11) (v := .ref h1) (C := RX11) (T := TX11) (N := 51) hx hb ht0 iX11 hown hK hP 0 rfl rfl 0 (by decide) (ht0 _ wd_1406) (fun _ h9 => h9) rfl dX11_exchangeAt_1 ?_
  refine lv_iconst (v := (0 : Int32)) hx hb dX11_exchangeAt_4 (by decide) ?_
  refine lv_iload_n hx hb dX11_exchangeAt_5 rfl (lv_at hl 1 rfl) ?_
  refine lv_iadd hx hb dX11_exchangeAt_6 ?_
  obtain ⟨g1, hf⟩ := of_grd hf
  refine va_iald hx hb hK hP 1 0 rfl rfl g1 dX11_exchangeAt_7 ?_
  refine lv_istore_n (lv' := [(3, .int (a1 ((0 : Int32) + b1).toNatClampNeg)), (0, .ref h0), (1, .int b1), (2, .int b2)]) hx hb dX11_exchangeAt_8 rfl hl (by decide) rfl (fun ls hl => ?_)
  refine lv_aload_n hx hb dX11_exchangeAt_9 rfl (lv_at hl 1 rfl) ?_
  refine va_get (ci := 11) (v := .ref h1) (C := RX11) (T := TX11) (N := 51) hx hb ht0 iX11 hown hK hP 0 rfl rfl 0 (by decide) (ht0 _ wd_1406) (fun _ h9 => h9) rfl dX11_exchangeAt_10 ?_
  refine lv_iconst (v := (0 : Int32)) hx hb dX11_exchangeAt_13 (by decide) ?_
  refine lv_iload_n hx hb dX11_exchangeAt_14 rfl (lv_at hl 2 rfl) ?_
  refine lv_iadd hx hb dX11_exchangeAt_15 ?_
  refine lv_aload_n hx hb dX11_exchangeAt_16 rfl (lv_at hl 1 rfl) ?_
  refine va_get (ci := 11) (v := .ref h1) (C := RX11) (T := TX11) (N := 51) hx hb ht0 iX11 hown hK hP 0 rfl rfl 0 (by decide) (ht0 _ wd_1406) (fun _ h9 => h9) rfl dX11_exchangeAt_17 ?_
  refine lv_iconst (v := (0 : Int32)) hx hb dX11_exchangeAt_20 (by decide) ?_
  refine lv_iload_n hx hb dX11_exchangeAt_21 rfl (lv_at hl 3 rfl) ?_
  refine lv_iadd hx hb dX11_exchangeAt_22 ?_
  obtain ⟨g2, hf⟩ := of_grd hf
  refine va_iald hx hb hK hP 1 0 rfl rfl g2 dX11_exchangeAt_23 ?_
  obtain ⟨g3, hf⟩ := of_grd hf
  refine va_iast hx hb hK hP hD hS 1 0 rfl rfl g3 dX11_exchangeAt_24 (fun H locs hP hD hS => ?_)
  have hP : va_P G.1 vwCl (wW_X11_exchangeAt G h0 h1 y0_1 y0_2 y0_3 y0_4 y0_6 y0_18 y0_21 y0_22 y0_23 y0_24 y0_25 y0_26 y0_33 y0_34 y0_38 y0_39 y0_40 y0_41 y0_42 y0_43 y0_45 y0_46 y0_47 y0_48 x0_5 x0_7 x0_8 x0_9 x0_10 x0_11 x0_12 x0_13 x0_14 x0_15 x0_16 x0_17 x0_19 x0_20 x0_27 x0_28 x0_29 x0_30 x0_31 x0_32 x0_35 x0_36 x0_37 x0_44 x0_49 x0_50 (upd a1 ((0 : Int32) + b1).toNatClampNeg (a1 ((0 : Int32) + b2).toNatClampNeg))) H := hP
  have hD : va_D A (wW_X11_exchangeAt G h0 h1 y0_1 y0_2 y0_3 y0_4 y0_6 y0_18 y0_21 y0_22 y0_23 y0_24 y0_25 y0_26 y0_33 y0_34 y0_38 y0_39 y0_40 y0_41 y0_42 y0_43 y0_45 y0_46 y0_47 y0_48 x0_5 x0_7 x0_8 x0_9 x0_10 x0_11 x0_12 x0_13 x0_14 x0_15 x0_16 x0_17 x0_19 x0_20 x0_27 x0_28 x0_29 x0_30 x0_31 x0_32 x0_35 x0_36 x0_37 x0_44 x0_49 x0_50 (upd a1 ((0 : Int32) + b1).toNatClampNeg (a1 ((0 : Int32) + b2).toNatClampNeg))) := hD
  refine lv_aload_n hx hb dX11_exchangeAt_25 rfl (lv_at hl 1 rfl) ?_
  refine va_get (ci := 11) (v := .ref h1) (C := RX11) (T := TX11) (N := 51) hx hb ht0 iX11 hown hK hP 0 rfl rfl 0 (by decide) (ht0 _ wd_1406) (fun _ h9 => h9) rfl dX11_exchangeAt_26 ?_
  refine lv_iconst (v := (0 : Int32)) hx hb dX11_exchangeAt_29 (by decide) ?_
  refine lv_iload_n hx hb dX11_exchangeAt_30 rfl (lv_at hl 3 rfl) ?_
  refine lv_iadd hx hb dX11_exchangeAt_31 ?_
  refine lv_iload_n hx hb dX11_exchangeAt_32 rfl (lv_at hl 0 rfl) ?_
  obtain ⟨g4, hf⟩ := of_grd hf
  refine va_iast hx hb hK hP hD hS 1 0 rfl rfl g4 dX11_exchangeAt_33 (fun H locs hP hD hS => ?_)
  have hP : va_P G.1 vwCl (wW_X11_exchangeAt G h0 h1 y0_1 y0_2 y0_3 y0_4 y0_6 y0_18 y0_21 y0_22 y0_23 y0_24 y0_25 y0_26 y0_33 y0_34 y0_38 y0_39 y0_40 y0_41 y0_42 y0_43 y0_45 y0_46 y0_47 y0_48 x0_5 x0_7 x0_8 x0_9 x0_10 x0_11 x0_12 x0_13 x0_14 x0_15 x0_16 x0_17 x0_19 x0_20 x0_27 x0_28 x0_29 x0_30 x0_31 x0_32 x0_35 x0_36 x0_37 x0_44 x0_49 x0_50 (upd (upd a1 ((0 : Int32) + b1).toNatClampNeg (a1 ((0 : Int32) + b2).toNatClampNeg)) ((0 : Int32) + b2).toNatClampNeg (a1 ((0 : Int32) + b1).toNatClampNeg))) H := hP
  have hD : va_D A (wW_X11_exchangeAt G h0 h1 y0_1 y0_2 y0_3 y0_4 y0_6 y0_18 y0_21 y0_22 y0_23 y0_24 y0_25 y0_26 y0_33 y0_34 y0_38 y0_39 y0_40 y0_41 y0_42 y0_43 y0_45 y0_46 y0_47 y0_48 x0_5 x0_7 x0_8 x0_9 x0_10 x0_11 x0_12 x0_13 x0_14 x0_15 x0_16 x0_17 x0_19 x0_20 x0_27 x0_28 x0_29 x0_30 x0_31 x0_32 x0_35 x0_36 x0_37 x0_44 x0_49 x0_50 (upd (upd a1 ((0 : Int32) + b1).toNatClampNeg (a1 ((0 : Int32) + b2).toNatClampNeg)) ((0 : Int32) + b2).toNatClampNeg (a1 ((0 : Int32) + b1).toNatClampNeg))) := hD
  cases hf
  exact ret_v hx hb hr hlk hK hP hD hS dX11_exchangeAt_34
theorem yk_X11_exchangeAt : ykV yX11_exchangeAt RX11 cX11_exchangeAt 4 none 2 := ⟨wd_1756, wd_102, wd_142, wd_1757, rfl, by decide +kernel, by decide +kernel, by decide +kernel⟩
theorem dX11_swap_0 : decode cX11_swap 0 = .ok (.aload_n 0, 1) := by decide +kernel
theorem dX11_swap_1 : decode cX11_swap 1 = .ok (.iload_n 1, 1) := by decide +kernel
theorem dX11_swap_2 : decode cX11_swap 2 = .ok (.invokevirtual 272, 3) := by decide +kernel
theorem dX11_swap_5 : decode cX11_swap 5 = .ok (.ifCond .eq 16, 3) := by decide +kernel
theorem dX11_swap_8 : decode cX11_swap 8 = .ok (.aload_n 0, 1) := by decide +kernel
theorem dX11_swap_9 : decode cX11_swap 9 = .ok (.iload_n 2, 1) := by decide +kernel
theorem dX11_swap_10 : decode cX11_swap 10 = .ok (.invokevirtual 272, 3) := by decide +kernel
theorem dX11_swap_13 : decode cX11_swap 13 = .ok (.ifCond .eq 8, 3) := by decide +kernel
theorem dX11_swap_16 : decode cX11_swap 16 = .ok (.iload_n 1, 1) := by decide +kernel
theorem dX11_swap_17 : decode cX11_swap 17 = .ok (.iload_n 2, 1) := by decide +kernel
theorem dX11_swap_18 : decode cX11_swap 18 = .ok (.if_icmp .ne 5, 3) := by decide +kernel
theorem dX11_swap_21 : decode cX11_swap 21 = .ok (.iconst 0, 1) := by decide +kernel
theorem dX11_swap_22 : decode cX11_swap 22 = .ok (.ireturn, 1) := by decide +kernel
theorem dX11_swap_23 : decode cX11_swap 23 = .ok (.aload_n 0, 1) := by decide +kernel
theorem dX11_swap_24 : decode cX11_swap 24 = .ok (.invokevirtual 356, 3) := by decide +kernel
theorem dX11_swap_27 : decode cX11_swap 27 = .ok (.aload_n 0, 1) := by decide +kernel
theorem dX11_swap_28 : decode cX11_swap 28 = .ok (.iload_n 1, 1) := by decide +kernel
theorem dX11_swap_29 : decode cX11_swap 29 = .ok (.iload_n 2, 1) := by decide +kernel
theorem dX11_swap_30 : decode cX11_swap 30 = .ok (.invokevirtual 381, 3) := by decide +kernel
theorem dX11_swap_33 : decode cX11_swap 33 = .ok (.aload_n 0, 1) := by decide +kernel
theorem dX11_swap_34 : decode cX11_swap 34 = .ok (.invokevirtual 378, 3) := by decide +kernel
theorem dX11_swap_37 : decode cX11_swap 37 = .ok (.iconst 1, 1) := by decide +kernel
theorem dX11_swap_38 : decode cX11_swap 38 = .ok (.ireturn, 1) := by decide +kernel
def wW_X11_swap (G : GG) (h0 h1 h2 h3 y0_2 y0_3 y0_4 y0_6 y0_18 y0_21 y0_22 y0_23 y0_24 y0_25 y0_26 y0_33 y0_34 y0_38 y0_39 y0_40 y0_41 y0_42 y0_43 y0_45 y0_47 y0_48 : Nat) (x0_5 : Int32) (x0_7 : Int32) (x0_8 : Int32) (x0_9 : Int32) (x0_10 : Int32) (x0_11 : Int32) (x0_12 : Int32) (x0_13 : Int32) (x0_14 : Int32) (x0_15 : Int32) (x0_16 : Int32) (x0_17 : Int32) (x0_19 : Int32) (x0_20 : Int32) (x0_27 : Int32) (x0_28 : Int32) (x0_29 : Int32) (x0_30 : Int32) (x0_31 : Int32) (x0_32 : Int32) (x0_35 : Int32) (x0_36 : Int32) (x0_37 : Int32) (x0_44 : Int32) (x0_49 : Int32) (x0_50 : Int32) (a1 : Nat → Int32) (a2 : Nat → Int32) (a3 : Nat → Int32) : va_W := [(h0, .inr (11, [.ref h1, .ref h2, .ref y0_2, .ref y0_3, .ref y0_4, .int x0_5, .ref y0_6, .int x0_7, .int x0_8, .int x0_9, .int x0_10, .int x0_11, .int x0_12, .int x0_13, .int x0_14, .int x0_15, .int x0_16, .int x0_17, .ref y0_18, .int x0_19, .int x0_20, .ref y0_21, .ref y0_22, .ref y0_23, .ref y0_24, .ref y0_25, .ref y0_26, .int x0_27, .int x0_28, .int x0_29, .int x0_30, .int x0_31, .int x0_32, .ref y0_33, .ref y0_34, .int x0_35, .int x0_36, .int x0_37, .ref y0_38, .ref y0_39, .ref y0_40, .ref y0_41, .ref y0_42, .ref y0_43, .int x0_44, .ref y0_45, .ref h3, .ref y0_47, .ref y0_48, .int x0_49, .int x0_50])), (h1, .inl (G.2.1, 121, .inl a1)), (h2, .inl (G.2.1, 2, .inl a2)), (h3, .inl (G.2.1, 1573, .inl a3))]
set_option maxHeartbeats 4000000 in
set_option maxRecDepth 100000 in
theorem c_X11_swap (l : Launch) (G : GG) (h0 h1 h2 h3 y0_2 y0_3 y0_4 y0_6 y0_18 y0_21 y0_22 y0_23 y0_24 y0_25 y0_26 y0_33 y0_34 y0_38 y0_39 y0_40 y0_41 y0_42 y0_43 y0_45 y0_47 y0_48 : Nat) (sz : Nat) (x0_5 : Int32) (x0_7 : Int32) (x0_8 : Int32) (x0_9 : Int32) (x0_10 : Int32) (x0_11 : Int32) (x0_12 : Int32) (x0_13 : Int32) (x0_14 : Int32) (x0_15 : Int32) (x0_16 : Int32) (x0_17 : Int32) (x0_19 : Int32) (x0_20 : Int32) (x0_27 : Int32) (x0_28 : Int32) (x0_29 : Int32) (x0_30 : Int32) (x0_31 : Int32) (x0_32 : Int32) (x0_35 : Int32) (x0_36 : Int32) (x0_37 : Int32) (x0_44 : Int32) (x0_49 : Int32) (x0_50 : Int32) (a1 : Nat → Int32) (a2 : Nat → Int32) (a3 : Nat → Int32) (F : Nat) (b1 : Int32) (b2 : Int32)  (r0 : Int32) (e_x0_49 : Int32) (e_x0_50 : Int32) (e_a1 : Nat → Int32) (e_a3 : Nat → Int32) (hf : p_X11_swap F x0_5 x0_49 x0_50 a1 a2 a3 b1 b2 = some (r0, e_x0_49, e_x0_50, e_a1, e_a3)) : Met l yX11_swap (.code yX11_swap cX11_swap 3 (some .boolean) :: gtbl) ({ frames := 7, cells := 0, slots := 0, locals := 158 } : Room) (PcS G [.ref h0, .int b1, .int b2] (wW_X11_swap G h0 h1 h2 h3 y0_2 y0_3 y0_4 y0_6 y0_18 y0_21 y0_22 y0_23 y0_24 y0_25 y0_26 y0_33 y0_34 y0_38 y0_39 y0_40 y0_41 y0_42 y0_43 y0_45 y0_47 y0_48 x0_5 x0_7 x0_8 x0_9 x0_10 x0_11 x0_12 x0_13 x0_14 x0_15 x0_16 x0_17 x0_19 x0_20 x0_27 x0_28 x0_29 x0_30 x0_31 x0_32 x0_35 x0_36 x0_37 x0_44 x0_49 x0_50 a1 a2 a3) sz) (QiS G r0 (va_A (wW_X11_swap G h0 h1 h2 h3 y0_2 y0_3 y0_4 y0_6 y0_18 y0_21 y0_22 y0_23 y0_24 y0_25 y0_26 y0_33 y0_34 y0_38 y0_39 y0_40 y0_41 y0_42 y0_43 y0_45 y0_47 y0_48 x0_5 x0_7 x0_8 x0_9 x0_10 x0_11 x0_12 x0_13 x0_14 x0_15 x0_16 x0_17 x0_19 x0_20 x0_27 x0_28 x0_29 x0_30 x0_31 x0_32 x0_35 x0_36 x0_37 x0_44 x0_49 x0_50 a1 a2 a3) sz) (wW_X11_swap G h0 h1 h2 h3 y0_2 y0_3 y0_4 y0_6 y0_18 y0_21 y0_22 y0_23 y0_24 y0_25 y0_26 y0_33 y0_34 y0_38 y0_39 y0_40 y0_41 y0_42 y0_43 y0_45 y0_47 y0_48 x0_5 x0_7 x0_8 x0_9 x0_10 x0_11 x0_12 x0_13 x0_14 x0_15 x0_16 x0_17 x0_19 x0_20 x0_27 x0_28 x0_29 x0_30 x0_31 x0_32 x0_35 x0_36 x0_37 x0_44 e_x0_49 e_x0_50 e_a1 a2 e_a3)) 0 0 (va_A (wW_X11_swap G h0 h1 h2 h3 y0_2 y0_3 y0_4 y0_6 y0_18 y0_21 y0_22 y0_23 y0_24 y0_25 y0_26 y0_33 y0_34 y0_38 y0_39 y0_40 y0_41 y0_42 y0_43 y0_45 y0_47 y0_48 x0_5 x0_7 x0_8 x0_9 x0_10 x0_11 x0_12 x0_13 x0_14 x0_15 x0_16 x0_17 x0_19 x0_20 x0_27 x0_28 x0_29 x0_30 x0_31 x0_32 x0_35 x0_36 x0_37 x0_44 x0_49 x0_50 a1 a2 a3) sz) := by
  refine met_start (by decide) (Nat.le_of_ble_eq_true rfl) ?_
  intro p e s m below meth c hC hr hlk hnm hK hP hD hA hS hX ls hl
  obtain ⟨hx, hb, hml, hown, ht0⟩ := hC
  have hown : s.vm.findClass RX11 = some m.cls := hown
  generalize va_A (wW_X11_swap G h0 h1 h2 h3 y0_2 y0_3 y0_4 y0_6 y0_18 y0_21 y0_22 y0_23 y0_24 y0_25 y0_26 y0_33 y0_34 y0_38 y0_39 y0_40 y0_41 y0_42 y0_43 y0_45 y0_47 y0_48 x0_5 x0_7 x0_8 x0_9 x0_10 x0_11 x0_12 x0_13 x0_14 x0_15 x0_16 x0_17 x0_19 x0_20 x0_27 x0_28 x0_29 x0_30 x0_31 x0_32 x0_35 x0_36 x0_37 x0_44 x0_49 x0_50 a1 a2 a3) sz = A at hD hA hS hX ⊢
  have hl : lv_has ls 3 [(0, .ref h0), (1, .int b1), (2, .int b2)] := hl
  have hf : p_X11_swap F x0_5 x0_49 x0_50 a1 a2 a3 b1 b2 = some (r0, e_x0_49, e_x0_50, e_a1, e_a3) := hf
  refine lv_aload_n hx hb dX11_swap_0 rfl (lv_at hl 0 rfl) ?_
  refine lv_iload_n hx hb dX11_swap_1 rfl (lv_at hl 1 rfl) ?_
  obtain ⟨r_2_0, hc_r_2_0, hf⟩ := of_bnd hf
  refine cl_Vi (w2 := (wW_X11_swap G h0 h1 h2 h3 y0_2 y0_3 y0_4 y0_6 y0_18 y0_21 y0_22 y0_23 y0_24 y0_25 y0_26 y0_33 y0_34 y0_38 y0_39 y0_40 y0_41 y0_42 y0_43 y0_45 y0_47 y0_48 x0_5 x0_7 x0_8 x0_9 x0_10 x0_11 x0_12 x0_13 x0_14 x0_15 x0_16 x0_17 x0_19 x0_20 x0_27 x0_28 x0_29 x0_30 x0_31 x0_32 x0_35 x0_36 x0_37 x0_44 x0_49 x0_50 a1 a2 a3)) (As := [.int b1]) (rest := []) ⟨hx, hb, hml, hown, ht0⟩ (c_X11_isData l G h0 h2 h1 y0_2 y0_3 y0_4 y0_6 y0_18 y0_21 y0_22 y0_23 y0_24 y0_25 y0_26 y0_33 y0_34 y0_38 y0_39 y0_40 y0_41 y0_42 y0_43 y0_45 h3 y0_47 y0_48 _ x0_5 x0_7 x0_8 x0_9 x0_10 x0_11 x0_12 x0_13 x0_14 x0_15 x0_16 x0_17 x0_19 x0_20 x0_27 x0_28 x0_29 x0_30 x0_31 x0_32 x0_35 x0_36 x0_37 x0_44 x0_49 x0_50 a2 F b1 _ hc_r_2_0) yk_X11_isData wd_1615 ⟨rfl, rfl, by decide, by decide⟩ ⟨Nat.le_refl _, Nat.le_refl _⟩ hX hK hP hD hS hA [0, 2] [1, 3] [2, 0, 3, 1] (va_recv hK hP (ci := 11) (q0 := 0) rfl rfl) rfl rfl (by decide) rfl rfl rfl rfl rfl hl.1 rfl (Nat.le_of_ble_eq_true rfl) dX11_swap_2 (fun H locs hP hD hS => ?_)
  refine lv_if_eq (tgt := 21) hx hb dX11_swap_5 (by decide) (fun c2 => ?_) (fun c2 => ?_)
  · have hf := of_pos hf c2
    refine lv_iconst (v := (0 : Int32)) hx hb dX11_swap_21 (by decide) ?_
    cases hf
    exact ret_z hx hb hr hlk hK hP hD hS (by decide) dX11_swap_22
  · have hf := of_neg hf c2
    refine lv_aload_n hx hb dX11_swap_8 rfl (lv_at hl 0 rfl) ?_
    refine lv_iload_n hx hb dX11_swap_9 rfl (lv_at hl 2 rfl) ?_
    obtain ⟨r_10_2, hc_r_10_2, hf⟩ := of_bnd hf
    refine cl_Vi (w2 := (wW_X11_swap G h0 h1 h2 h3 y0_2 y0_3 y0_4 y0_6 y0_18 y0_21 y0_22 y0_23 y0_24 y0_25 y0_26 y0_33 y0_34 y0_38 y0_39 y0_40 y0_41 y0_42 y0_43 y0_45 y0_47 y0_48 x0_5 x0_7 x0_8 x0_9 x0_10 x0_11 x0_12 x0_13 x0_14 x0_15 x0_16 x0_17 x0_19 x0_20 x0_27 x0_28 x0_29 x0_30 x0_31 x0_32 x0_35 x0_36 x0_37 x0_44 x0_49 x0_50 a1 a2 a3)) (As := [.int b2]) (rest := []) ⟨hx, hb, hml, hown, ht0⟩ (c_X11_isData l G h0 h2 h1 y0_2 y0_3 y0_4 y0_6 y0_18 y0_21 y0_22 y0_23 y0_24 y0_25 y0_26 y0_33 y0_34 y0_38 y0_39 y0_40 y0_41 y0_42 y0_43 y0_45 h3 y0_47 y0_48 _ x0_5 x0_7 x0_8 x0_9 x0_10 x0_11 x0_12 x0_13 x0_14 x0_15 x0_16 x0_17 x0_19 x0_20 x0_27 x0_28 x0_29 x0_30 x0_31 x0_32 x0_35 x0_36 x0_37 x0_44 x0_49 x0_50 a2 F b2 _ hc_r_10_2) yk_X11_isData wd_1615 ⟨rfl, rfl, by decide, by decide⟩ ⟨Nat.le_refl _, Nat.le_refl _⟩ hX hK hP hD hS hA [0, 2] [1, 3] [2, 0, 3, 1] (va_recv hK hP (ci := 11) (q0 := 0) rfl rfl) rfl rfl (by decide) rfl rfl rfl rfl rfl hl.1 rfl (Nat.le_of_ble_eq_true rfl) dX11_swap_10 (fun H locs hP hD hS => ?_)
    refine lv_if_eq (tgt := 21) hx hb dX11_swap_13 (by decide) (fun c4 => ?_) (fun c4 => ?_)
    · have hf := of_pos hf c4
      refine lv_iconst (v := (0 : Int32)) hx hb dX11_swap_21 (by decide) ?_
      cases hf
      exact ret_z hx hb hr hlk hK hP hD hS (by decide) dX11_swap_22
    · have hf := of_neg hf c4
      refine lv_iload_n hx hb dX11_swap_16 rfl (lv_at hl 1 rfl) ?_
      refine lv_iload_n hx hb dX11_swap_17 rfl (lv_at hl 2 rfl) ?_
      refine lv_icmp_ne (tgt := 23) hx hb dX11_swap_18 (by decide) (fun c5 => ?_) (fun c5 => ?_)
      · have hf := of_neg hf c5
        refine lv_aload_n hx hb dX11_swap_23 rfl (lv_at hl 0 rfl) ?_
        obtain ⟨⟨r_24_5_x0_49, r_24_5_x0_50, r_24_5_a2⟩, hc_r_24_5, hf⟩ := of_bnd hf
        refine cl_Vv (w2 := (wW_X11_swap G h0 h1 h2 h3 y0_2 y0_3 y0_4 y0_6 y0_18 y0_21 y0_22 y0_23 y0_24 y0_25 y0_26 y0_33 y0_34 y0_38 y0_39 y0_40 y0_41 y0_42 y0_43 y0_45 y0_47 y0_48 x0_5 x0_7 x0_8 x0_9 x0_10 x0_11 x0_12 x0_13 x0_14 x0_15 x0_16 x0_17 x0_19 x0_20 x0_27 x0_28 x0_29 x0_30 x0_31 x0_32 x0_35 x0_36 x0_37 x0_44 r_24_5_x0_49 r_24_5_x0_50 a1 a2 r_24_5_a2)) (As := []) (rest := []) ⟨hx, hb, hml, hown, ht0⟩ (c_X11_keepAct l G h0 h1 h3 h2 y0_2 y0_3 y0_4 y0_6 y0_18 y0_21 y0_22 y0_23 y0_24 y0_25 y0_26 y0_33 y0_34 y0_38 y0_39 y0_40 y0_41 y0_42 y0_43 y0_45 y0_47 y0_48 _ x0_5 x0_7 x0_8 x0_9 x0_10 x0_11 x0_12 x0_13 x0_14 x0_15 x0_16 x0_17 x0_19 x0_20 x0_27 x0_28 x0_29 x0_30 x0_31 x0_32 x0_35 x0_36 x0_37 x0_44 x0_49 x0_50 a1 a3 F _ _ _ hc_r_24_5) yk_X11_keepAct wd_1595 ⟨rfl, rfl, by decide, by decide⟩ ⟨Nat.le_refl _, Nat.le_refl _⟩ hX hK hP hD hS hA [0, 1, 3] [2] [1, 2, 0, 3] (va_recv hK hP (ci := 11) (q0 := 0) rfl rfl) rfl rfl (by decide) rfl rfl rfl rfl rfl hl.1 rfl (Nat.le_of_ble_eq_true rfl) dX11_swap_24 (fun H locs hP hD hS => ?_)
        refine lv_aload_n hx hb dX11_swap_27 rfl (lv_at hl 0 rfl) ?_
        refine lv_iload_n hx hb dX11_swap_28 rfl (lv_at hl 1 rfl) ?_
        refine lv_iload_n hx hb dX11_swap_29 rfl (lv_at hl 2 rfl) ?_
        obtain ⟨r_30_6_a1, hc_r_30_6, hf⟩ := of_bnd hf
        refine cl_Vv (w2 := (wW_X11_swap G h0 h1 h2 h3 y0_2 y0_3 y0_4 y0_6 y0_18 y0_21 y0_22 y0_23 y0_24 y0_25 y0_26 y0_33 y0_34 y0_38 y0_39 y0_40 y0_41 y0_42 y0_43 y0_45 y0_47 y0_48 x0_5 x0_7 x0_8 x0_9 x0_10 x0_11 x0_12 x0_13 x0_14 x0_15 x0_16 x0_17 x0_19 x0_20 x0_27 x0_28 x0_29 x0_30 x0_31 x0_32 x0_35 x0_36 x0_37 x0_44 r_24_5_x0_49 r_24_5_x0_50 r_30_6_a1 a2 r_24_5_a2)) (As := [.int b1, .int b2]) (rest := []) ⟨hx, hb, hml, hown, ht0⟩ (c_X11_exchangeAt l G h0 h1 h2 y0_2 y0_3 y0_4 y0_6 y0_18 y0_21 y0_22 y0_23 y0_24 y0_25 y0_26 y0_33 y0_34 y0_38 y0_39 y0_40 y0_41 y0_42 y0_43 y0_45 h3 y0_47 y0_48 _ x0_5 x0_7 x0_8 x0_9 x0_10 x0_11 x0_12 x0_13 x0_14 x0_15 x0_16 x0_17 x0_19 x0_20 x0_27 x0_28 x0_29 x0_30 x0_31 x0_32 x0_35 x0_36 x0_37 x0_44 r_24_5_x0_49 r_24_5_x0_50 a1 F b1 b2 _ hc_r_30_6) yk_X11_exchangeAt wd_1754 ⟨rfl, rfl, by decide, by decide⟩ ⟨Nat.le_refl _, Nat.le_refl _⟩ hX hK hP hD hS hA [0, 1] [2, 3] [2, 3, 0, 1] (va_recv hK hP (ci := 11) (q0 := 0) rfl rfl) rfl rfl (by decide) rfl rfl rfl rfl rfl hl.1 rfl (Nat.le_of_ble_eq_true rfl) dX11_swap_30 (fun H locs hP hD hS => ?_)
        refine lv_aload_n hx hb dX11_swap_33 rfl (lv_at hl 0 rfl) ?_
        obtain ⟨r_34_7_a1, hc_r_34_7, hf⟩ := of_bnd hf
        refine cl_Vv (w2 := (wW_X11_swap G h0 h1 h2 h3 y0_2 y0_3 y0_4 y0_6 y0_18 y0_21 y0_22 y0_23 y0_24 y0_25 y0_26 y0_33 y0_34 y0_38 y0_39 y0_40 y0_41 y0_42 y0_43 y0_45 y0_47 y0_48 x0_5 x0_7 x0_8 x0_9 x0_10 x0_11 x0_12 x0_13 x0_14 x0_15 x0_16 x0_17 x0_19 x0_20 x0_27 x0_28 x0_29 x0_30 x0_31 x0_32 x0_35 x0_36 x0_37 x0_44 r_24_5_x0_49 r_24_5_x0_50 r_34_7_a1 a2 r_24_5_a2)) (As := []) (rest := []) ⟨hx, hb, hml, hown, ht0⟩ (c_X11_writeAnew l G h0 h1 h2 y0_2 y0_3 y0_4 y0_6 y0_18 y0_21 y0_22 y0_23 y0_24 y0_25 y0_26 y0_33 y0_34 y0_38 y0_39 y0_40 y0_41 y0_42 y0_43 y0_45 h3 y0_47 y0_48 _ x0_5 x0_7 x0_8 x0_9 x0_10 x0_11 x0_12 x0_13 x0_14 x0_15 x0_16 x0_17 x0_19 x0_20 x0_27 x0_28 x0_29 x0_30 x0_31 x0_32 x0_35 x0_36 x0_37 x0_44 r_24_5_x0_49 r_24_5_x0_50 r_30_6_a1 a2 F _ hc_r_34_7) yk_X11_writeAnew wd_1746 ⟨rfl, rfl, by decide, by decide⟩ ⟨Nat.le_refl _, Nat.le_refl _⟩ hX hK hP hD hS hA [0, 1, 2] [3] [1, 2, 3, 0] (va_recv hK hP (ci := 11) (q0 := 0) rfl rfl) rfl rfl (by decide) rfl rfl rfl rfl rfl hl.1 rfl (Nat.le_of_ble_eq_true rfl) dX11_swap_34 (fun H locs hP hD hS => ?_)
        refine lv_iconst (v := (1 : Int32)) hx hb dX11_swap_37 (by decide) ?_
        cases hf
        exact ret_z hx hb hr hlk hK hP hD hS (by decide) dX11_swap_38
      · have hf := of_pos hf c5
        refine lv_iconst (v := (0 : Int32)) hx hb dX11_swap_21 (by decide) ?_
        cases hf
        exact ret_z hx hb hr hlk hK hP hD hS (by decide) dX11_swap_22
theorem yk_X11_swap : ykV yX11_swap RX11 cX11_swap 3 (some .boolean) 2 := ⟨wd_1751, wd_1752, wd_142, wd_1753, rfl, by decide +kernel, by decide +kernel, by decide +kernel⟩
theorem dX11_way_0 : decode cX11_way 0 = .ok (.iload_n 1, 1) := by decide +kernel
theorem dX11_way_1 : decode cX11_way 1 = .ok (.iconst 0, 1) := by decide +kernel
theorem dX11_way_2 : decode cX11_way 2 = .ok (.iconst 2, 1) := by decide +kernel
theorem dX11_way_3 : decode cX11_way 3 = .ok (.invokestatic 163, 3) := by decide +kernel
theorem dX11_way_6 : decode cX11_way 6 = .ok (.ifCond .eq 19, 3) := by decide +kernel
theorem dX11_way_9 : decode cX11_way 9 = .ok (.aload_n 0, 1) := by decide +kernel
theorem dX11_way_10 : decode cX11_way 10 = .ok (.aload_n 0, 1) := by decide +kernel
theorem dX11_way_11 : decode cX11_way 11 = .ok (.invokevirtual 221, 3) := by decide +kernel
theorem dX11_way_14 : decode cX11_way 14 = .ok (.aload_n 0, 1) := by decide +kernel
theorem dX11_way_15 : decode cX11_way 15 = .ok (.invokevirtual 224, 3) := by decide +kernel
theorem dX11_way_18 : decode cX11_way 18 = .ok (.iload_n 1, 1) := by decide +kernel
theorem dX11_way_19 : decode cX11_way 19 = .ok (.invokevirtual 189, 3) := by decide +kernel
theorem dX11_way_22 : decode cX11_way 22 = .ok (.ifCond .ne 5, 3) := by decide +kernel
theorem dX11_way_25 : decode cX11_way 25 = .ok (.iconst 0, 1) := by decide +kernel
theorem dX11_way_26 : decode cX11_way 26 = .ok (.ireturn, 1) := by decide +kernel
theorem dX11_way_27 : decode cX11_way 27 = .ok (.aload_n 0, 1) := by decide +kernel
theorem dX11_way_28 : decode cX11_way 28 = .ok (.invokevirtual 356, 3) := by decide +kernel
theorem dX11_way_31 : decode cX11_way 31 = .ok (.iconst 0, 1) := by decide +kernel
theorem dX11_way_32 : decode cX11_way 32 = .ok (.istore_n 2, 1) := by decide +kernel
theorem dX11_way_33 : decode cX11_way 33 = .ok (.iconst 0, 1) := by decide +kernel
theorem dX11_way_34 : decode cX11_way 34 = .ok (.istore_n 3, 1) := by decide +kernel
theorem dX11_way_35 : decode cX11_way 35 = .ok (.iload_n 3, 1) := by decide +kernel
theorem dX11_way_36 : decode cX11_way 36 = .ok (.aload_n 0, 1) := by decide +kernel
theorem dX11_way_37 : decode cX11_way 37 = .ok (.invokevirtual 221, 3) := by decide +kernel
theorem dX11_way_40 : decode cX11_way 40 = .ok (.if_icmp .ge 47, 3) := by decide +kernel
theorem dX11_way_43 : decode cX11_way 43 = .ok (.iload_n 2, 1) := by decide +kernel
theorem dX11_way_44 : decode cX11_way 44 = .ok (.ifCond .ne 17, 3) := by decide +kernel
theorem dX11_way_47 : decode cX11_way 47 = .ok (.aload_n 0, 1) := by decide +kernel
theorem dX11_way_48 : decode cX11_way 48 = .ok (.iload_n 3, 1) := by decide +kernel
theorem dX11_way_49 : decode cX11_way 49 = .ok (.invokevirtual 269, 3) := by decide +kernel
theorem dX11_way_52 : decode cX11_way 52 = .ok (.aload_n 0, 1) := by decide +kernel
theorem dX11_way_53 : decode cX11_way 53 = .ok (.getfield 39, 3) := by decide +kernel
theorem dX11_way_56 : decode cX11_way 56 = .ok (.iload_n 3, 1) := by decide +kernel
theorem dX11_way_57 : decode cX11_way 57 = .ok (.iaload, 1) := by decide +kernel
theorem dX11_way_58 : decode cX11_way 58 = .ok (.if_icmp .eq 7, 3) := by decide +kernel
theorem dX11_way_61 : decode cX11_way 61 = .ok (.iconst 1, 1) := by decide +kernel
theorem dX11_way_62 : decode cX11_way 62 = .ok (.goto 4, 3) := by decide +kernel
theorem dX11_way_65 : decode cX11_way 65 = .ok (.iconst 0, 1) := by decide +kernel
theorem dX11_way_66 : decode cX11_way 66 = .ok (.istore_n 2, 1) := by decide +kernel
theorem dX11_way_67 : decode cX11_way 67 = .ok (.aload_n 0, 1) := by decide +kernel
theorem dX11_way_68 : decode cX11_way 68 = .ok (.getfield 7, 3) := by decide +kernel
theorem dX11_way_71 : decode cX11_way 71 = .ok (.iconst 0, 1) := by decide +kernel
theorem dX11_way_72 : decode cX11_way 72 = .ok (.iload_n 3, 1) := by decide +kernel
theorem dX11_way_73 : decode cX11_way 73 = .ok (.iadd, 1) := by decide +kernel
theorem dX11_way_74 : decode cX11_way 74 = .ok (.aload_n 0, 1) := by decide +kernel
theorem dX11_way_75 : decode cX11_way 75 = .ok (.getfield 39, 3) := by decide +kernel
theorem dX11_way_78 : decode cX11_way 78 = .ok (.iload_n 3, 1) := by decide +kernel
theorem dX11_way_79 : decode cX11_way 79 = .ok (.iaload, 1) := by decide +kernel
theorem dX11_way_80 : decode cX11_way 80 = .ok (.iastore, 1) := by decide +kernel
theorem dX11_way_81 : decode cX11_way 81 = .ok (.iinc 3 1, 3) := by decide +kernel
theorem dX11_way_84 : decode cX11_way 84 = .ok (.goto (-49), 3) := by decide +kernel
theorem dX11_way_87 : decode cX11_way 87 = .ok (.iload_n 2, 1) := by decide +kernel
theorem dX11_way_88 : decode cX11_way 88 = .ok (.ifCond .eq 7, 3) := by decide +kernel
theorem dX11_way_91 : decode cX11_way 91 = .ok (.aload_n 0, 1) := by decide +kernel
theorem dX11_way_92 : decode cX11_way 92 = .ok (.invokevirtual 378, 3) := by decide +kernel
theorem dX11_way_95 : decode cX11_way 95 = .ok (.iconst 1, 1) := by decide +kernel
theorem dX11_way_96 : decode cX11_way 96 = .ok (.ireturn, 1) := by decide +kernel
def wW_X11_way (G : GG) (h0 h1 h2 h3 h4 h5 h6 h7 h8 h9 h10 y0_3 y0_4 y0_6 y0_18 y0_33 y0_34 y0_38 y0_39 y0_40 y0_41 y0_42 y0_43 y0_45 y0_47 y0_48 : Nat) (x0_5 : Int32) (x0_7 : Int32) (x0_8 : Int32) (x0_9 : Int32) (x0_10 : Int32) (x0_11 : Int32) (x0_12 : Int32) (x0_13 : Int32) (x0_14 : Int32) (x0_15 : Int32) (x0_16 : Int32) (x0_17 : Int32) (x0_19 : Int32) (x0_20 : Int32) (x0_27 : Int32) (x0_28 : Int32) (x0_29 : Int32) (x0_30 : Int32) (x0_31 : Int32) (x0_32 : Int32) (x0_35 : Int32) (x0_36 : Int32) (x0_37 : Int32) (x0_44 : Int32) (x0_49 : Int32) (x0_50 : Int32) (a1 : Nat → Int32) (a2 : Nat → Int32) (a3 : Nat → Int32) (a4 : Nat → Int32) (a5 : Nat → Int32) (a6 : Nat → Int32) (a7 : Nat → Int32) (a8 : Nat → Int32) (a9 : Nat → Int32) (a10 : Nat → Int32) : va_W := [(h0, .inr (11, [.ref h1, .ref h2, .ref h3, .ref y0_3, .ref y0_4, .int x0_5, .ref y0_6, .int x0_7, .int x0_8, .int x0_9, .int x0_10, .int x0_11, .int x0_12, .int x0_13, .int x0_14, .int x0_15, .int x0_16, .int x0_17, .ref y0_18, .int x0_19, .int x0_20, .ref h4, .ref h5, .ref h6, .ref h7, .ref h8, .ref h9, .int x0_27, .int x0_28, .int x0_29, .int x0_30, .int x0_31, .int x0_32, .ref y0_33, .ref y0_34, .int x0_35, .int x0_36, .int x0_37, .ref y0_38, .ref y0_39, .ref y0_40, .ref y0_41, .ref y0_42, .ref y0_43, .int x0_44, .ref y0_45, .ref h10, .ref y0_47, .ref y0_48, .int x0_49, .int x0_50])), (h1, .inl (G.2.1, 121, .inl a1)), (h2, .inl (G.2.1, 2, .inl a2)), (h3, .inl (G.2.1, 2, .inl a3)), (h4, .inl (G.2.1, 128, .inl a4)), (h5, .inl (G.2.1, 32, .inl a5)), (h6, .inl (G.2.1, 32, .inl a6)), (h7, .inl (G.2.1, 8, .inl a7)), (h8, .inl (G.2.2.1, 256, .inl a8)), (h9, .inl (G.2.2.1, 256, .inl a9)), (h10, .inl (G.2.1, 1573, .inl a10))]
set_option maxHeartbeats 4000000 in
set_option maxRecDepth 100000 in
theorem c_X11_way (l : Launch) (G : GG) (h0 h1 h2 h3 h4 h5 h6 h7 h8 h9 h10 y0_3 y0_4 y0_6 y0_18 y0_33 y0_34 y0_38 y0_39 y0_40 y0_41 y0_42 y0_43 y0_45 y0_47 y0_48 : Nat) (sz : Nat) (x0_5 : Int32) (x0_7 : Int32) (x0_8 : Int32) (x0_9 : Int32) (x0_10 : Int32) (x0_11 : Int32) (x0_12 : Int32) (x0_13 : Int32) (x0_14 : Int32) (x0_15 : Int32) (x0_16 : Int32) (x0_17 : Int32) (x0_19 : Int32) (x0_20 : Int32) (x0_27 : Int32) (x0_28 : Int32) (x0_29 : Int32) (x0_30 : Int32) (x0_31 : Int32) (x0_32 : Int32) (x0_35 : Int32) (x0_36 : Int32) (x0_37 : Int32) (x0_44 : Int32) (x0_49 : Int32) (x0_50 : Int32) (a1 : Nat → Int32) (a2 : Nat → Int32) (a3 : Nat → Int32) (a4 : Nat → Int32) (a5 : Nat → Int32) (a6 : Nat → Int32) (a7 : Nat → Int32) (a8 : Nat → Int32) (a9 : Nat → Int32) (a10 : Nat → Int32) (F : Nat) (b1 : Int32)  (r0 : Int32) (e_x0_27 : Int32) (e_x0_28 : Int32) (e_x0_49 : Int32) (e_x0_50 : Int32) (e_a1 : Nat → Int32) (e_a4 : Nat → Int32) (e_a5 : Nat → Int32) (e_a6 : Nat → Int32) (e_a7 : Nat → Int32) (e_a8 : Nat → Int32) (e_a9 : Nat → Int32) (e_a10 : Nat → Int32) (hf : p_X11_way F x0_5 x0_27 x0_28 x0_49 x0_50 a1 a2 a3 a4 a5 a6 a7 a8 a9 a10 b1 = some (r0, e_x0_27, e_x0_28, e_x0_49, e_x0_50, e_a1, e_a4, e_a5, e_a6, e_a7, e_a8, e_a9, e_a10)) : Met l yX11_way (.code yX11_way cX11_way 4 (some .boolean) :: gtbl) ({ frames := 7, cells := 0, slots := 0, locals := 158 } : Room) (PcS G [.ref h0, .int b1] (wW_X11_way G h0 h1 h2 h3 h4 h5 h6 h7 h8 h9 h10 y0_3 y0_4 y0_6 y0_18 y0_33 y0_34 y0_38 y0_39 y0_40 y0_41 y0_42 y0_43 y0_45 y0_47 y0_48 x0_5 x0_7 x0_8 x0_9 x0_10 x0_11 x0_12 x0_13 x0_14 x0_15 x0_16 x0_17 x0_19 x0_20 x0_27 x0_28 x0_29 x0_30 x0_31 x0_32 x0_35 x0_36 x0_37 x0_44 x0_49 x0_50 a1 a2 a3 a4 a5 a6 a7 a8 a9 a10) sz) (QiS G r0 (va_A (wW_X11_way G h0 h1 h2 h3 h4 h5 h6 h7 h8 h9 h10 y0_3 y0_4 y0_6 y0_18 y0_33 y0_34 y0_38 y0_39 y0_40 y0_41 y0_42 y0_43 y0_45 y0_47 y0_48 x0_5 x0_7 x0_8 x0_9 x0_10 x0_11 x0_12 x0_13 x0_14 x0_15 x0_16 x0_17 x0_19 x0_20 x0_27 x0_28 x0_29 x0_30 x0_31 x0_32 x0_35 x0_36 x0_37 x0_44 x0_49 x0_50 a1 a2 a3 a4 a5 a6 a7 a8 a9 a10) sz) (wW_X11_way G h0 h1 h2 h3 h4 h5 h6 h7 h8 h9 h10 y0_3 y0_4 y0_6 y0_18 y0_33 y0_34 y0_38 y0_39 y0_40 y0_41 y0_42 y0_43 y0_45 y0_47 y0_48 x0_5 x0_7 x0_8 x0_9 x0_10 x0_11 x0_12 x0_13 x0_14 x0_15 x0_16 x0_17 x0_19 x0_20 e_x0_27 e_x0_28 x0_29 x0_30 x0_31 x0_32 x0_35 x0_36 x0_37 x0_44 e_x0_49 e_x0_50 e_a1 a2 a3 e_a4 e_a5 e_a6 e_a7 e_a8 e_a9 e_a10)) 0 0 (va_A (wW_X11_way G h0 h1 h2 h3 h4 h5 h6 h7 h8 h9 h10 y0_3 y0_4 y0_6 y0_18 y0_33 y0_34 y0_38 y0_39 y0_40 y0_41 y0_42 y0_43 y0_45 y0_47 y0_48 x0_5 x0_7 x0_8 x0_9 x0_10 x0_11 x0_12 x0_13 x0_14 x0_15 x0_16 x0_17 x0_19 x0_20 x0_27 x0_28 x0_29 x0_30 x0_31 x0_32 x0_35 x0_36 x0_37 x0_44 x0_49 x0_50 a1 a2 a3 a4 a5 a6 a7 a8 a9 a10) sz) := by
  refine met_start (by decide) (Nat.le_of_ble_eq_true rfl) ?_
  intro p e s m below meth c hC hr hlk hnm hK hP hD hA hS hX ls hl
  obtain ⟨hx, hb, hml, hown, ht0⟩ := hC
  have hown : s.vm.findClass RX11 = some m.cls := hown
  generalize va_A (wW_X11_way G h0 h1 h2 h3 h4 h5 h6 h7 h8 h9 h10 y0_3 y0_4 y0_6 y0_18 y0_33 y0_34 y0_38 y0_39 y0_40 y0_41 y0_42 y0_43 y0_45 y0_47 y0_48 x0_5 x0_7 x0_8 x0_9 x0_10 x0_11 x0_12 x0_13 x0_14 x0_15 x0_16 x0_17 x0_19 x0_20 x0_27 x0_28 x0_29 x0_30 x0_31 x0_32 x0_35 x0_36 x0_37 x0_44 x0_49 x0_50 a1 a2 a3 a4 a5 a6 a7 a8 a9 a10) sz = A at hD hA hS hX ⊢
  have hl : lv_has ls 4 [(0, .ref h0), (1, .int b1)] := hl
  have hf : p_X11_way F x0_5 x0_27 x0_28 x0_49 x0_50 a1 a2 a3 a4 a5 a6 a7 a8 a9 a10 b1 = some (r0, e_x0_27, e_x0_28, e_x0_49, e_x0_50, e_a1, e_a4, e_a5, e_a6, e_a7, e_a8, e_a9, e_a10) := hf
  have kL35 : ∀ (n35 : Nat) (u35_2 : Int32) (u35_3 : Int32) (x0_27_35 : Int32) (x0_28_35 : Int32) (x0_49_35 : Int32) (x0_50_35 : Int32) (a1_35 : Nat → Int32) (a4_35 : Nat → Int32) (a5_35 : Nat → Int32) (a6_35 : Nat → Int32) (a7_35 : Nat → Int32) (a8_35 : Nat → Int32) (a9_35 : Nat → Int32) (a10_35 : Nat → Int32), p_X11_way_L35 F x0_5 a2 a3 n35 u35_2 u35_3 x0_27_35 x0_28_35 x0_49_35 x0_50_35 a1_35 a4_35 a5_35 a6_35 a7_35 a8_35 a9_35 a10_35 = some (r0, e_x0_27, e_x0_28, e_x0_49, e_x0_50, e_a1, e_a4, e_a5, e_a6, e_a7, e_a8, e_a9, e_a10) → ∀ (H : Heap) (locs : List Loc), va_P G.1 vwCl (wW_X11_way G h0 h1 h2 h3 h4 h5 h6 h7 h8 h9 h10 y0_3 y0_4 y0_6 y0_18 y0_33 y0_34 y0_38 y0_39 y0_40 y0_41 y0_42 y0_43 y0_45 y0_47 y0_48 x0_5 x0_7 x0_8 x0_9 x0_10 x0_11 x0_12 x0_13 x0_14 x0_15 x0_16 x0_17 x0_19 x0_20 x0_27_35 x0_28_35 x0_29 x0_30 x0_31 x0_32 x0_35 x0_36 x0_37 x0_44 x0_49_35 x0_50_35 a1_35 a2 a3 a4_35 a5_35 a6_35 a7_35 a8_35 a9_35 a10_35) H → va_D A (wW_X11_way G h0 h1 h2 h3 h4 h5 h6 h7 h8 h9 h10 y0_3 y0_4 y0_6 y0_18 y0_33 y0_34 y0_38 y0_39 y0_40 y0_41 y0_42 y0_43 y0_45 y0_47 y0_48 x0_5 x0_7 x0_8 x0_9 x0_10 x0_11 x0_12 x0_13 x0_14 x0_15 x0_16 x0_17 x0_19 x0_20 x0_27_35 x0_28_35 x0_29 x0_30 x0_31 x0_32 x0_35 x0_36 x0_37 x0_44 x0_49_35 x0_50_35 a1_35 a2 a3 a4_35 a5_35 a6_35 a7_35 a8_35 a9_35 a10_35) → va_S A s.heap H locs → ∀ ls : Array Slot, lv_has ls 4 [(0, .ref h0), (2, .int u35_2), (3, .int u35_3)] → W p l e ({ frames := 7, cells := 0, slots := 0, locals := 158 } : Room) s m (List.toArray [.ref h0, .int b1]) below meth c H locs 0 0 (MQ below (QiS G r0 A (wW_X11_way G h0 h1 h2 h3 h4 h5 h6 h7 h8 h9 h10 y0_3 y0_4 y0_6 y0_18 y0_33 y0_34 y0_38 y0_39 y0_40 y0_41 y0_42 y0_43 y0_45 y0_47 y0_48 x0_5 x0_7 x0_8 x0_9 x0_10 x0_11 x0_12 x0_13 x0_14 x0_15 x0_16 x0_17 x0_19 x0_20 e_x0_27 e_x0_28 x0_29 x0_30 x0_31 x0_32 x0_35 x0_36 x0_37 x0_44 e_x0_49 e_x0_50 e_a1 a2 a3 e_a4 e_a5 e_a6 e_a7 e_a8 e_a9 e_a10)) (List.toArray [.ref h0, .int b1]) s 0 0 A) (F0 m 35 ls []) := by
    intro n35
    induction n35 with
    | zero =>
      intro u35_2 u35_3 x0_27_35 x0_28_35 x0_49_35 x0_50_35 a1_35 a4_35 a5_35 a6_35 a7_35 a8_35 a9_35 a10_35 hf
      cases hf
    | succ n35 ih35 =>
      have kJ66 : ∀ (u66_3 : Int32) (s66_0 : Int32) (x0_27_66 : Int32) (x0_28_66 : Int32) (x0_49_66 : Int32) (x0_50_66 : Int32) (a1_66 : Nat → Int32) (a4_66 : Nat → Int32) (a5_66 : Nat → Int32) (a6_66 : Nat → Int32) (a7_66 : Nat → Int32) (a8_66 : Nat → Int32) (a9_66 : Nat → Int32) (a10_66 : Nat → Int32), p_X11_way_J66 F x0_5 a2 a3 (p_X11_way_L35 F x0_5 a2 a3 n35) u66_3 s66_0 x0_27_66 x0_28_66 x0_49_66 x0_50_66 a1_66 a4_66 a5_66 a6_66 a7_66 a8_66 a9_66 a10_66 = some (r0, e_x0_27, e_x0_28, e_x0_49, e_x0_50, e_a1, e_a4, e_a5, e_a6, e_a7, e_a8, e_a9, e_a10) → ∀ (H : Heap) (locs : List Loc), va_P G.1 vwCl (wW_X11_way G h0 h1 h2 h3 h4 h5 h6 h7 h8 h9 h10 y0_3 y0_4 y0_6 y0_18 y0_33 y0_34 y0_38 y0_39 y0_40 y0_41 y0_42 y0_43 y0_45 y0_47 y0_48 x0_5 x0_7 x0_8 x0_9 x0_10 x0_11 x0_12 x0_13 x0_14 x0_15 x0_16 x0_17 x0_19 x0_20 x0_27_66 x0_28_66 x0_29 x0_30 x0_31 x0_32 x0_35 x0_36 x0_37 x0_44 x0_49_66 x0_50_66 a1_66 a2 a3 a4_66 a5_66 a6_66 a7_66 a8_66 a9_66 a10_66) H → va_D A (wW_X11_way G h0 h1 h2 h3 h4 h5 h6 h7 h8 h9 h10 y0_3 y0_4 y0_6 y0_18 y0_33 y0_34 y0_38 y0_39 y0_40 y0_41 y0_42 y0_43 y0_45 y0_47 y0_48 x0_5 x0_7 x0_8 x0_9 x0_10 x0_11 x0_12 x0_13 x0_14 x0_15 x0_16 x0_17 x0_19 x0_20 x0_27_66 x0_28_66 x0_29 x0_30 x0_31 x0_32 x0_35 x0_36 x0_37 x0_44 x0_49_66 x0_50_66 a1_66 a2 a3 a4_66 a5_66 a6_66 a7_66 a8_66 a9_66 a10_66) → va_S A s.heap H locs → ∀ ls : Array Slot, lv_has ls 4 [(0, .ref h0), (3, .int u66_3)] → W p l e ({ frames := 7, cells := 0, slots := 0, locals := 158 } : Room) s m (List.toArray [.ref h0, .int b1]) below meth c H locs 0 0 (MQ below (QiS G r0 A (wW_X11_way G h0 h1 h2 h3 h4 h5 h6 h7 h8 h9 h10 y0_3 y0_4 y0_6 y0_18 y0_33 y0_34 y0_38 y0_39 y0_40 y0_41 y0_42 y0_43 y0_45 y0_47 y0_48 x0_5 x0_7 x0_8 x0_9 x0_10 x0_11 x0_12 x0_13 x0_14 x0_15 x0_16 x0_17 x0_19 x0_20 e_x0_27 e_x0_28 x0_29 x0_30 x0_31 x0_32 x0_35 x0_36 x0_37 x0_44 e_x0_49 e_x0_50 e_a1 a2 a3 e_a4 e_a5 e_a6 e_a7 e_a8 e_a9 e_a10)) (List.toArray [.ref h0, .int b1]) s 0 0 A) (F0 m 66 ls [.int s66_0]) := by
        intro u66_3 s66_0 x0_27_66 x0_28_66 x0_49_66 x0_50_66 a1_66 a4_66 a5_66 a6_66 a7_66 a8_66 a9_66 a10_66 hf H locs hP hD hS ls hl
        refine lv_istore_n (lv' := [(2, .int s66_0), (0, .ref h0), (3, .int u66_3)]) hx hb dX11_way_66 rfl hl (by decide) rfl (fun ls hl => ?_)
        refine lv_aload_n hx hb dX11_way_67 rfl (lv_at hl 1 rfl) ?_
        refine va_get (ci := 11) (v := .ref h1) (C := RX11) (T := TX11) (N := 51) hx hb ht0 iX11 hown hK hP 0 rfl rfl 0 (by decide) (ht0 _ wd_1406) (fun _ h9 => h9) rfl dX11_way_68 ?_
        refine lv_iconst (v := (0 : Int32)) hx hb dX11_way_71 (by decide) ?_
        refine lv_iload_n hx hb dX11_way_72 rfl (lv_at hl 2 rfl) ?_
        refine lv_iadd hx hb dX11_way_73 ?_
        refine lv_aload_n hx hb dX11_way_74 rfl (lv_at hl 1 rfl) ?_
        refine va_get (ci := 11) (v := .ref h5) (C := RX11) (T := TX11) (N := 51) hx hb ht0 iX11 hown hK hP 0 rfl rfl 22 (by decide) (ht0 _ wd_1428) (fun _ h9 => h9) rfl dX11_way_75 ?_
        refine lv_iload_n hx hb dX11_way_78 rfl (lv_at hl 2 rfl) ?_
        obtain ⟨g1, hf⟩ := of_grd hf
        refine va_iald hx hb hK hP 5 0 rfl rfl g1 dX11_way_79 ?_
        obtain ⟨g2, hf⟩ := of_grd hf
        refine va_iast hx hb hK hP hD hS 1 0 rfl rfl g2 dX11_way_80 (fun H locs hP hD hS => ?_)
        have hP : va_P G.1 vwCl (wW_X11_way G h0 h1 h2 h3 h4 h5 h6 h7 h8 h9 h10 y0_3 y0_4 y0_6 y0_18 y0_33 y0_34 y0_38 y0_39 y0_40 y0_41 y0_42 y0_43 y0_45 y0_47 y0_48 x0_5 x0_7 x0_8 x0_9 x0_10 x0_11 x0_12 x0_13 x0_14 x0_15 x0_16 x0_17 x0_19 x0_20 x0_27_66 x0_28_66 x0_29 x0_30 x0_31 x0_32 x0_35 x0_36 x0_37 x0_44 x0_49_66 x0_50_66 (upd a1_66 ((0 : Int32) + u66_3).toNatClampNeg (a5_66 u66_3.toNatClampNeg)) a2 a3 a4_66 a5_66 a6_66 a7_66 a8_66 a9_66 a10_66) H := hP
        have hD : va_D A (wW_X11_way G h0 h1 h2 h3 h4 h5 h6 h7 h8 h9 h10 y0_3 y0_4 y0_6 y0_18 y0_33 y0_34 y0_38 y0_39 y0_40 y0_41 y0_42 y0_43 y0_45 y0_47 y0_48 x0_5 x0_7 x0_8 x0_9 x0_10 x0_11 x0_12 x0_13 x0_14 x0_15 x0_16 x0_17 x0_19 x0_20 x0_27_66 x0_28_66 x0_29 x0_30 x0_31 x0_32 x0_35 x0_36 x0_37 x0_44 x0_49_66 x0_50_66 (upd a1_66 ((0 : Int32) + u66_3).toNatClampNeg (a5_66 u66_3.toNatClampNeg)) a2 a3 a4_66 a5_66 a6_66 a7_66 a8_66 a9_66 a10_66) := hD
        refine lv_iinc (v := u66_3 + (1 : Int32)) (lv' := [(3, .int (u66_3 + (1 : Int32))), (2, .int s66_0), (0, .ref h0)]) hx hb dX11_way_81 hl (k := 2) rfl (by rfl) (by decide) rfl (fun ls hl => ?_)
        refine lv_goto (tgt := 35) hx hb dX11_way_84 (by decide) ?_
        exact ih35 _ _ _ _ _ _ _ _ _ _ _ _ _ _ hf _ _ hP hD hS _ (lv_sub hl [2, 1, 0] rfl)
      have kJ61 : ∀ (u61_3 : Int32) (x0_27_61 : Int32) (x0_28_61 : Int32) (x0_49_61 : Int32) (x0_50_61 : Int32) (a1_61 : Nat → Int32) (a4_61 : Nat → Int32) (a5_61 : Nat → Int32) (a6_61 : Nat → Int32) (a7_61 : Nat → Int32) (a8_61 : Nat → Int32) (a9_61 : Nat → Int32) (a10_61 : Nat → Int32), p_X11_way_J61 F x0_5 a2 a3 (p_X11_way_L35 F x0_5 a2 a3 n35) u61_3 x0_27_61 x0_28_61 x0_49_61 x0_50_61 a1_61 a4_61 a5_61 a6_61 a7_61 a8_61 a9_61 a10_61 = some (r0, e_x0_27, e_x0_28, e_x0_49, e_x0_50, e_a1, e_a4, e_a5, e_a6, e_a7, e_a8, e_a9, e_a10) → ∀ (H : Heap) (locs : List Loc), va_P G.1 vwCl (wW_X11_way G h0 h1 h2 h3 h4 h5 h6 h7 h8 h9 h10 y0_3 y0_4 y0_6 y0_18 y0_33 y0_34 y0_38 y0_39 y0_40 y0_41 y0_42 y0_43 y0_45 y0_47 y0_48 x0_5 x0_7 x0_8 x0_9 x0_10 x0_11 x0_12 x0_13 x0_14 x0_15 x0_16 x0_17 x0_19 x0_20 x0_27_61 x0_28_61 x0_29 x0_30 x0_31 x0_32 x0_35 x0_36 x0_37 x0_44 x0_49_61 x0_50_61 a1_61 a2 a3 a4_61 a5_61 a6_61 a7_61 a8_61 a9_61 a10_61) H → va_D A (wW_X11_way G h0 h1 h2 h3 h4 h5 h6 h7 h8 h9 h10 y0_3 y0_4 y0_6 y0_18 y0_33 y0_34 y0_38 y0_39 y0_40 y0_41 y0_42 y0_43 y0_45 y0_47 y0_48 x0_5 x0_7 x0_8 x0_9 x0_10 x0_11 x0_12 x0_13 x0_14 x0_15 x0_16 x0_17 x0_19 x0_20 x0_27_61 x0_28_61 x0_29 x0_30 x0_31 x0_32 x0_35 x0_36 x0_37 x0_44 x0_49_61 x0_50_61 a1_61 a2 a3 a4_61 a5_61 a6_61 a7_61 a8_61 a9_61 a10_61) → va_S A s.heap H locs → ∀ ls : Array Slot, lv_has ls 4 [(0, .ref h0), (3, .int u61_3)] → W p l e ({ frames := 7, cells := 0, slots := 0, locals := 158 } : Room) s m (List.toArray [.ref h0, .int b1]) below meth c H locs 0 0 (MQ below (QiS G r0 A (wW_X11_way G h0 h1 h2 h3 h4 h5 h6 h7 h8 h9 h10 y0_3 y0_4 y0_6 y0_18 y0_33 y0_34 y0_38 y0_39 y0_40 y0_41 y0_42 y0_43 y0_45 y0_47 y0_48 x0_5 x0_7 x0_8 x0_9 x0_10 x0_11 x0_12 x0_13 x0_14 x0_15 x0_16 x0_17 x0_19 x0_20 e_x0_27 e_x0_28 x0_29 x0_30 x0_31 x0_32 x0_35 x0_36 x0_37 x0_44 e_x0_49 e_x0_50 e_a1 a2 a3 e_a4 e_a5 e_a6 e_a7 e_a8 e_a9 e_a10)) (List.toArray [.ref h0, .int b1]) s 0 0 A) (F0 m 61 ls []) := by
        intro u61_3 x0_27_61 x0_28_61 x0_49_61 x0_50_61 a1_61 a4_61 a5_61 a6_61 a7_61 a8_61 a9_61 a10_61 hf H locs hP hD hS ls hl
        refine lv_iconst (v := (1 : Int32)) hx hb dX11_way_61 (by decide) ?_
        refine lv_goto (tgt := 66) hx hb dX11_way_62 (by decide) ?_
        exact kJ66 _ _ _ _ _ _ _ _ _ _ _ _ _ _ hf _ _ hP hD hS _ (lv_sub hl [0, 1] rfl)
      intro u35_2 u35_3 x0_27_35 x0_28_35 x0_49_35 x0_50_35 a1_35 a4_35 a5_35 a6_35 a7_35 a8_35 a9_35 a10_35 hf H locs hP hD hS ls hl
      have hf : p_X11_way_L35b F x0_5 a2 a3 (p_X11_way_L35 F x0_5 a2 a3 n35) u35_2 u35_3 x0_27_35 x0_28_35 x0_49_35 x0_50_35 a1_35 a4_35 a5_35 a6_35 a7_35 a8_35 a9_35 a10_35 = some (r0, e_x0_27, e_x0_28, e_x0_49, e_x0_50, e_a1, e_a4, e_a5, e_a6, e_a7, e_a8, e_a9, e_a10) := hf
      refine lv_iload_n hx hb dX11_way_35 rfl (lv_at hl 2 rfl) ?_
      refine lv_aload_n hx hb dX11_way_36 rfl (lv_at hl 0 rfl) ?_
      obtain ⟨r_37_2, hc_r_37_2, hf⟩ := of_bnd hf
      refine cl_Vi (w2 := (wW_X11_way G h0 h1 h2 h3 h4 h5 h6 h7 h8 h9 h10 y0_3 y0_4 y0_6 y0_18 y0_33 y0_34 y0_38 y0_39 y0_40 y0_41 y0_42 y0_43 y0_45 y0_47 y0_48 x0_5 x0_7 x0_8 x0_9 x0_10 x0_11 x0_12 x0_13 x0_14 x0_15 x0_16 x0_17 x0_19 x0_20 x0_27_35 x0_28_35 x0_29 x0_30 x0_31 x0_32 x0_35 x0_36 x0_37 x0_44 x0_49_35 x0_50_35 a1_35 a2 a3 a4_35 a5_35 a6_35 a7_35 a8_35 a9_35 a10_35)) (As := []) (rest := [.int u35_3]) ⟨hx, hb, hml, hown, ht0⟩ (c_X11_dataNow l G h0 h2 h1 h3 y0_3 y0_4 y0_6 y0_18 h4 h5 h6 h7 h8 h9 y0_33 y0_34 y0_38 y0_39 y0_40 y0_41 y0_42 y0_43 y0_45 h10 y0_47 y0_48 _ x0_5 x0_7 x0_8 x0_9 x0_10 x0_11 x0_12 x0_13 x0_14 x0_15 x0_16 x0_17 x0_19 x0_20 x0_27_35 x0_28_35 x0_29 x0_30 x0_31 x0_32 x0_35 x0_36 x0_37 x0_44 x0_49_35 x0_50_35 a2 F _ hc_r_37_2) yk_X11_dataNow wd_1398 ⟨rfl, rfl, by decide, by decide⟩ ⟨Nat.le_refl _, Nat.le_refl _⟩ hX hK hP hD hS hA [0, 2] [1, 3, 4, 5, 6, 7, 8, 9, 10] [9, 0, 10, 1, 2, 3, 4, 5, 6, 7, 8] (va_recv hK hP (ci := 11) (q0 := 0) rfl rfl) rfl rfl (by decide) rfl rfl rfl rfl rfl hl.1 rfl (Nat.le_of_ble_eq_true rfl) dX11_way_37 (fun H locs hP hD hS => ?_)
      refine lv_icmp_ge (tgt := 87) hx hb dX11_way_40 (by decide) (fun c4 => ?_) (fun c4 => ?_)
      · have hf := of_pos hf c4
        refine lv_iload_n hx hb dX11_way_87 rfl (lv_at hl 1 rfl) ?_
        refine lv_if_eq (tgt := 95) hx hb dX11_way_88 (by decide) (fun c5 => ?_) (fun c5 => ?_)
        · have hf := of_pos hf c5
          refine lv_iconst (v := (1 : Int32)) hx hb dX11_way_95 (by decide) ?_
          cases hf
          exact ret_z hx hb hr hlk hK hP hD hS (by decide) dX11_way_96
        · have hf := of_neg hf c5
          refine lv_aload_n hx hb dX11_way_91 rfl (lv_at hl 0 rfl) ?_
          obtain ⟨r_92_5_a1, hc_r_92_5, hf⟩ := of_bnd hf
          refine cl_Vv (w2 := (wW_X11_way G h0 h1 h2 h3 h4 h5 h6 h7 h8 h9 h10 y0_3 y0_4 y0_6 y0_18 y0_33 y0_34 y0_38 y0_39 y0_40 y0_41 y0_42 y0_43 y0_45 y0_47 y0_48 x0_5 x0_7 x0_8 x0_9 x0_10 x0_11 x0_12 x0_13 x0_14 x0_15 x0_16 x0_17 x0_19 x0_20 x0_27_35 x0_28_35 x0_29 x0_30 x0_31 x0_32 x0_35 x0_36 x0_37 x0_44 x0_49_35 x0_50_35 r_92_5_a1 a2 a3 a4_35 a5_35 a6_35 a7_35 a8_35 a9_35 a10_35)) (As := []) (rest := []) ⟨hx, hb, hml, hown, ht0⟩ (c_X11_writeAnew l G h0 h1 h2 h3 y0_3 y0_4 y0_6 y0_18 h4 h5 h6 h7 h8 h9 y0_33 y0_34 y0_38 y0_39 y0_40 y0_41 y0_42 y0_43 y0_45 h10 y0_47 y0_48 _ x0_5 x0_7 x0_8 x0_9 x0_10 x0_11 x0_12 x0_13 x0_14 x0_15 x0_16 x0_17 x0_19 x0_20 x0_27_35 x0_28_35 x0_29 x0_30 x0_31 x0_32 x0_35 x0_36 x0_37 x0_44 x0_49_35 x0_50_35 a1_35 a2 F _ hc_r_92_5) yk_X11_writeAnew wd_1746 ⟨rfl, rfl, by decide, by decide⟩ ⟨Nat.le_refl _, Nat.le_refl _⟩ hX hK hP hD hS hA [0, 1, 2] [3, 4, 5, 6, 7, 8, 9, 10] [8, 9, 10, 0, 1, 2, 3, 4, 5, 6, 7] (va_recv hK hP (ci := 11) (q0 := 0) rfl rfl) rfl rfl (by decide) rfl rfl rfl rfl rfl hl.1 rfl (Nat.le_of_ble_eq_true rfl) dX11_way_92 (fun H locs hP hD hS => ?_)
          refine lv_iconst (v := (1 : Int32)) hx hb dX11_way_95 (by decide) ?_
          cases hf
          exact ret_z hx hb hr hlk hK hP hD hS (by decide) dX11_way_96
      · have hf := of_neg hf c4
        refine lv_iload_n hx hb dX11_way_43 rfl (lv_at hl 1 rfl) ?_
        refine lv_if_ne (tgt := 61) hx hb dX11_way_44 (by decide) (fun c7 => ?_) (fun c7 => ?_)
        · have hf := of_neg hf c7
          exact kJ61 _ _ _ _ _ _ _ _ _ _ _ _ _ hf _ _ hP hD hS _ (lv_sub hl [0, 2] rfl)
        · have hf := of_pos hf c7
          refine lv_aload_n hx hb dX11_way_47 rfl (lv_at hl 0 rfl) ?_
          refine lv_iload_n hx hb dX11_way_48 rfl (lv_at hl 2 rfl) ?_
          obtain ⟨r_49_7, hc_r_49_7, hf⟩ := of_bnd hf
          refine cl_Vi (w2 := (wW_X11_way G h0 h1 h2 h3 h4 h5 h6 h7 h8 h9 h10 y0_3 y0_4 y0_6 y0_18 y0_33 y0_34 y0_38 y0_39 y0_40 y0_41 y0_42 y0_43 y0_45 y0_47 y0_48 x0_5 x0_7 x0_8 x0_9 x0_10 x0_11 x0_12 x0_13 x0_14 x0_15 x0_16 x0_17 x0_19 x0_20 x0_27_35 x0_28_35 x0_29 x0_30 x0_31 x0_32 x0_35 x0_36 x0_37 x0_44 x0_49_35 x0_50_35 a1_35 a2 a3 a4_35 a5_35 a6_35 a7_35 a8_35 a9_35 a10_35)) (As := [.int u35_3]) (rest := []) ⟨hx, hb, hml, hown, ht0⟩ (c_X11_columnAt l G h0 h1 h2 h3 y0_3 y0_4 y0_6 y0_18 h4 h5 h6 h7 h8 h9 y0_33 y0_34 y0_38 y0_39 y0_40 y0_41 y0_42 y0_43 y0_45 h10 y0_47 y0_48 _ x0_5 x0_7 x0_8 x0_9 x0_10 x0_11 x0_12 x0_13 x0_14 x0_15 x0_16 x0_17 x0_19 x0_20 x0_27_35 x0_28_35 x0_29 x0_30 x0_31 x0_32 x0_35 x0_36 x0_37 x0_44 x0_49_35 x0_50_35 a1_35 F u35_3 _ hc_r_49_7) yk_X11_columnAt wd_1402 ⟨rfl, rfl, by decide, by decide⟩ ⟨Nat.le_refl _, Nat.le_refl _⟩ hX hK hP hD hS hA [0, 1] [2, 3, 4, 5, 6, 7, 8, 9, 10] [9, 10, 0, 1, 2, 3, 4, 5, 6, 7, 8] (va_recv hK hP (ci := 11) (q0 := 0) rfl rfl) rfl rfl (by decide) rfl rfl rfl rfl rfl hl.1 rfl (Nat.le_of_ble_eq_true rfl) dX11_way_49 (fun H locs hP hD hS => ?_)
          refine lv_aload_n hx hb dX11_way_52 rfl (lv_at hl 0 rfl) ?_
          refine va_get (ci := 11) (v := .ref h5) (C := RX11) (T := TX11) (N := 51) hx hb ht0 iX11 hown hK hP 0 rfl rfl 22 (by decide) (ht0 _ wd_1428) (fun _ h9 => h9) rfl dX11_way_53 ?_
          refine lv_iload_n hx hb dX11_way_56 rfl (lv_at hl 2 rfl) ?_
          obtain ⟨g9, hf⟩ := of_grd hf
          refine va_iald hx hb hK hP 5 0 rfl rfl g9 dX11_way_57 ?_
          refine lv_icmp_eq (tgt := 65) hx hb dX11_way_58 (by decide) (fun c10 => ?_) (fun c10 => ?_)
          · have hf := of_pos hf c10
            refine lv_iconst (v := (0 : Int32)) hx hb dX11_way_65 (by decide) ?_
            exact kJ66 _ _ _ _ _ _ _ _ _ _ _ _ _ _ hf _ _ hP hD hS _ (lv_sub hl [0, 2] rfl)
          · have hf := of_neg hf c10
            exact kJ61 _ _ _ _ _ _ _ _ _ _ _ _ _ hf _ _ hP hD hS _ (lv_sub hl [0, 2] rfl)
  refine lv_iload_n hx hb dX11_way_0 rfl (lv_at hl 1 rfl) ?_
  refine lv_iconst (v := (0 : Int32)) hx hb dX11_way_1 (by decide) ?_
  refine lv_iconst (v := (2 : Int32)) hx hb dX11_way_2 (by decide) ?_
  obtain ⟨r_3_10, hc_r_3_10, hf⟩ := of_bnd hf
  refine cl_Si (w2 := (wW_X11_way G h0 h1 h2 h3 h4 h5 h6 h7 h8 h9 h10 y0_3 y0_4 y0_6 y0_18 y0_33 y0_34 y0_38 y0_39 y0_40 y0_41 y0_42 y0_43 y0_45 y0_47 y0_48 x0_5 x0_7 x0_8 x0_9 x0_10 x0_11 x0_12 x0_13 x0_14 x0_15 x0_16 x0_17 x0_19 x0_20 x0_27 x0_28 x0_29 x0_30 x0_31 x0_32 x0_35 x0_36 x0_37 x0_44 x0_49 x0_50 a1 a2 a3 a4 a5 a6 a7 a8 a9 a10)) (As := [.int b1, .int (0 : Int32), .int (2 : Int32)]) (rest := []) ⟨hx, hb, hml, hown, ht0⟩ (c_X11_isIn l G _ F b1 (0 : Int32) (2 : Int32) _ hc_r_3_10) yk_X11_isIn wd_1321 ⟨rfl, rfl, by decide, by decide⟩ ⟨Nat.le_refl _, Nat.le_refl _⟩ hX hK hP hD hS hA [] [0, 1, 2, 3, 4, 5, 6, 7, 8, 9, 10] [0, 1, 2, 3, 4, 5, 6, 7, 8, 9, 10] rfl rfl (by decide) rfl rfl rfl rfl rfl hl.1 rfl (Nat.le_of_ble_eq_true rfl) dX11_way_3 (fun H locs hP hD hS => ?_)
  refine lv_if_eq (tgt := 25) hx hb dX11_way_6 (by decide) (fun c12 => ?_) (fun c12 => ?_)
  · have hf := of_pos hf c12
    refine lv_iconst (v := (0 : Int32)) hx hb dX11_way_25 (by decide) ?_
    cases hf
    exact ret_z hx hb hr hlk hK hP hD hS (by decide) dX11_way_26
  · have hf := of_neg hf c12
    refine lv_aload_n hx hb dX11_way_9 rfl (lv_at hl 0 rfl) ?_
    refine lv_aload_n hx hb dX11_way_10 rfl (lv_at hl 0 rfl) ?_
    obtain ⟨r_11_12, hc_r_11_12, hf⟩ := of_bnd hf
    refine cl_Vi (w2 := (wW_X11_way G h0 h1 h2 h3 h4 h5 h6 h7 h8 h9 h10 y0_3 y0_4 y0_6 y0_18 y0_33 y0_34 y0_38 y0_39 y0_40 y0_41 y0_42 y0_43 y0_45 y0_47 y0_48 x0_5 x0_7 x0_8 x0_9 x0_10 x0_11 x0_12 x0_13 x0_14 x0_15 x0_16 x0_17 x0_19 x0_20 x0_27 x0_28 x0_29 x0_30 x0_31 x0_32 x0_35 x0_36 x0_37 x0_44 x0_49 x0_50 a1 a2 a3 a4 a5 a6 a7 a8 a9 a10)) (As := []) (rest := [.ref h0]) ⟨hx, hb, hml, hown, ht0⟩ (c_X11_dataNow l G h0 h2 h1 h3 y0_3 y0_4 y0_6 y0_18 h4 h5 h6 h7 h8 h9 y0_33 y0_34 y0_38 y0_39 y0_40 y0_41 y0_42 y0_43 y0_45 h10 y0_47 y0_48 _ x0_5 x0_7 x0_8 x0_9 x0_10 x0_11 x0_12 x0_13 x0_14 x0_15 x0_16 x0_17 x0_19 x0_20 x0_27 x0_28 x0_29 x0_30 x0_31 x0_32 x0_35 x0_36 x0_37 x0_44 x0_49 x0_50 a2 F _ hc_r_11_12) yk_X11_dataNow wd_1398 ⟨rfl, rfl, by decide, by decide⟩ ⟨Nat.le_refl _, Nat.le_refl _⟩ hX hK hP hD hS hA [0, 2] [1, 3, 4, 5, 6, 7, 8, 9, 10] [9, 0, 10, 1, 2, 3, 4, 5, 6, 7, 8] (va_recv hK hP (ci := 11) (q0 := 0) rfl rfl) rfl rfl (by decide) rfl rfl rfl rfl rfl hl.1 rfl (Nat.le_of_ble_eq_true rfl) dX11_way_11 (fun H locs hP hD hS => ?_)
    refine lv_aload_n hx hb dX11_way_14 rfl (lv_at hl 0 rfl) ?_
    obtain ⟨r_15_13, hc_r_15_13, hf⟩ := of_bnd hf
    refine cl_Vi (w2 := (wW_X11_way G h0 h1 h2 h3 h4 h5 h6 h7 h8 h9 h10 y0_3 y0_4 y0_6 y0_18 y0_33 y0_34 y0_38 y0_39 y0_40 y0_41 y0_42 y0_43 y0_45 y0_47 y0_48 x0_5 x0_7 x0_8 x0_9 x0_10 x0_11 x0_12 x0_13 x0_14 x0_15 x0_16 x0_17 x0_19 x0_20 x0_27 x0_28 x0_29 x0_30 x0_31 x0_32 x0_35 x0_36 x0_37 x0_44 x0_49 x0_50 a1 a2 a3 a4 a5 a6 a7 a8 a9 a10)) (As := []) (rest := [.int r_11_12, .ref h0]) ⟨hx, hb, hml, hown, ht0⟩ (c_X11_checksNow l G h0 h3 h1 h2 y0_3 y0_4 y0_6 y0_18 h4 h5 h6 h7 h8 h9 y0_33 y0_34 y0_38 y0_39 y0_40 y0_41 y0_42 y0_43 y0_45 h10 y0_47 y0_48 _ x0_5 x0_7 x0_8 x0_9 x0_10 x0_11 x0_12 x0_13 x0_14 x0_15 x0_16 x0_17 x0_19 x0_20 x0_27 x0_28 x0_29 x0_30 x0_31 x0_32 x0_35 x0_36 x0_37 x0_44 x0_49 x0_50 a3 F _ hc_r_15_13) yk_X11_checksNow wd_1576 ⟨rfl, rfl, by decide, by decide⟩ ⟨Nat.le_refl _, Nat.le_refl _⟩ hX hK hP hD hS hA [0, 3] [1, 2, 4, 5, 6, 7, 8, 9, 10] [9, 0, 1, 10, 2, 3, 4, 5, 6, 7, 8] (va_recv hK hP (ci := 11) (q0 := 0) rfl rfl) rfl rfl (by decide) rfl rfl rfl rfl rfl hl.1 rfl (Nat.le_of_ble_eq_true rfl) dX11_way_15 (fun H locs hP hD hS => ?_)
    refine lv_iload_n hx hb dX11_way_18 rfl (lv_at hl 1 rfl) ?_
    obtain ⟨⟨r_19_14, r_19_14_x0_27, r_19_14_x0_28, r_19_14_a1, r_19_14_a2, r_19_14_a3, r_19_14_a4, r_19_14_a5, r_19_14_a6⟩, hc_r_19_14, hf⟩ := of_bnd hf
    refine cl_Vi (w2 := (wW_X11_way G h0 h1 h2 h3 h4 h5 h6 h7 h8 h9 h10 y0_3 y0_4 y0_6 y0_18 y0_33 y0_34 y0_38 y0_39 y0_40 y0_41 y0_42 y0_43 y0_45 y0_47 y0_48 x0_5 x0_7 x0_8 x0_9 x0_10 x0_11 x0_12 x0_13 x0_14 x0_15 x0_16 x0_17 x0_19 x0_20 r_19_14_x0_27 r_19_14_x0_28 x0_29 x0_30 x0_31 x0_32 x0_35 x0_36 x0_37 x0_44 x0_49 x0_50 a1 a2 a3 r_19_14_a1 r_19_14_a2 r_19_14_a3 r_19_14_a4 r_19_14_a5 r_19_14_a6 a10)) (As := [.int r_11_12, .int r_15_13, .int b1]) (rest := []) ⟨hx, hb, hml, hown, ht0⟩ (c_X11_choose l G h0 h4 h5 h6 h7 h8 h9 h1 h2 h3 y0_3 y0_4 y0_6 y0_18 y0_33 y0_34 y0_38 y0_39 y0_40 y0_41 y0_42 y0_43 y0_45 h10 y0_47 y0_48 _ x0_5 x0_7 x0_8 x0_9 x0_10 x0_11 x0_12 x0_13 x0_14 x0_15 x0_16 x0_17 x0_19 x0_20 x0_27 x0_28 x0_29 x0_30 x0_31 x0_32 x0_35 x0_36 x0_37 x0_44 x0_49 x0_50 a4 a5 a6 a7 a8 a9 F r_11_12 r_15_13 b1 _ _ _ _ _ _ _ _ _ hc_r_19_14) yk_X11_choose wd_1336 ⟨rfl, rfl, by decide, by decide⟩ ⟨Nat.le_refl _, Nat.le_refl _⟩ hX hK hP hD hS hA [0, 4, 5, 6, 7, 8, 9] [1, 2, 3, 10] [4, 0, 1, 2, 5, 6, 7, 8, 9, 10, 3] (va_recv hK hP (ci := 11) (q0 := 0) rfl rfl) rfl rfl (by decide) rfl rfl rfl rfl rfl hl.1 rfl (Nat.le_of_ble_eq_true rfl) dX11_way_19 (fun H locs hP hD hS => ?_)
    refine lv_if_ne (tgt := 27) hx hb dX11_way_22 (by decide) (fun c16 => ?_) (fun c16 => ?_)
    · have hf := of_neg hf c16
      refine lv_aload_n hx hb dX11_way_27 rfl (lv_at hl 0 rfl) ?_
      obtain ⟨⟨r_28_16_x0_49, r_28_16_x0_50, r_28_16_a2⟩, hc_r_28_16, hf⟩ := of_bnd hf
      refine cl_Vv (w2 := (wW_X11_way G h0 h1 h2 h3 h4 h5 h6 h7 h8 h9 h10 y0_3 y0_4 y0_6 y0_18 y0_33 y0_34 y0_38 y0_39 y0_40 y0_41 y0_42 y0_43 y0_45 y0_47 y0_48 x0_5 x0_7 x0_8 x0_9 x0_10 x0_11 x0_12 x0_13 x0_14 x0_15 x0_16 x0_17 x0_19 x0_20 r_19_14_x0_27 r_19_14_x0_28 x0_29 x0_30 x0_31 x0_32 x0_35 x0_36 x0_37 x0_44 r_28_16_x0_49 r_28_16_x0_50 a1 a2 a3 r_19_14_a1 r_19_14_a2 r_19_14_a3 r_19_14_a4 r_19_14_a5 r_19_14_a6 r_28_16_a2)) (As := []) (rest := []) ⟨hx, hb, hml, hown, ht0⟩ (c_X11_keepAct l G h0 h1 h10 h2 h3 y0_3 y0_4 y0_6 y0_18 h4 h5 h6 h7 h8 h9 y0_33 y0_34 y0_38 y0_39 y0_40 y0_41 y0_42 y0_43 y0_45 y0_47 y0_48 _ x0_5 x0_7 x0_8 x0_9 x0_10 x0_11 x0_12 x0_13 x0_14 x0_15 x0_16 x0_17 x0_19 x0_20 r_19_14_x0_27 r_19_14_x0_28 x0_29 x0_30 x0_31 x0_32 x0_35 x0_36 x0_37 x0_44 x0_49 x0_50 a1 a10 F _ _ _ hc_r_28_16) yk_X11_keepAct wd_1595 ⟨rfl, rfl, by decide, by decide⟩ ⟨Nat.le_refl _, Nat.le_refl _⟩ hX hK hP hD hS hA [0, 1, 10] [2, 3, 4, 5, 6, 7, 8, 9] [8, 9, 0, 1, 2, 3, 4, 5, 6, 7, 10] (va_recv hK hP (ci := 11) (q0 := 0) rfl rfl) rfl rfl (by decide) rfl rfl rfl rfl rfl hl.1 rfl (Nat.le_of_ble_eq_true rfl) dX11_way_28 (fun H locs hP hD hS => ?_)
      refine lv_iconst (v := (0 : Int32)) hx hb dX11_way_31 (by decide) ?_
      refine lv_istore_n (lv' := [(2, .int (0 : Int32)), (0, .ref h0), (1, .int b1)]) hx hb dX11_way_32 rfl hl (by decide) rfl (fun ls hl => ?_)
      refine lv_iconst (v := (0 : Int32)) hx hb dX11_way_33 (by decide) ?_
      refine lv_istore_n (lv' := [(3, .int (0 : Int32)), (2, .int (0 : Int32)), (0, .ref h0), (1, .int b1)]) hx hb dX11_way_34 rfl hl (by decide) rfl (fun ls hl => ?_)
      exact kL35 _ _ _ _ _ _ _ _ _ _ _ _ _ _ _ hf _ _ hP hD hS _ (lv_sub hl [2, 1, 0] rfl)
    · have hf := of_pos hf c16
      refine lv_iconst (v := (0 : Int32)) hx hb dX11_way_25 (by decide) ?_
      cases hf
      exact ret_z hx hb hr hlk hK hP hD hS (by decide) dX11_way_26
theorem yk_X11_way : ykV yX11_way RX11 cX11_way 4 (some .boolean) 1 := ⟨wd_1759, wd_1760, wd_142, wd_1761, rfl, by decide +kernel, by decide +kernel, by decide +kernel⟩
theorem dX11_pairs_0 : decode cX11_pairs 0 = .ok (.aload_n 0, 1) := by decide +kernel
theorem dX11_pairs_1 : decode cX11_pairs 1 = .ok (.getfield 7, 3) := by decide +kernel
theorem dX11_pairs_4 : decode cX11_pairs 4 = .ok (.bipush 32, 2) := by decide +kernel
theorem dX11_pairs_6 : decode cX11_pairs 6 = .ok (.iaload, 1) := by decide +kernel
theorem dX11_pairs_7 : decode cX11_pairs 7 = .ok (.iconst 1, 1) := by decide +kernel
theorem dX11_pairs_8 : decode cX11_pairs 8 = .ok (.if_icmp .ne 7, 3) := by decide +kernel
theorem dX11_pairs_11 : decode cX11_pairs 11 = .ok (.iconst 1, 1) := by decide +kernel
theorem dX11_pairs_12 : decode cX11_pairs 12 = .ok (.goto 4, 3) := by decide +kernel
theorem dX11_pairs_15 : decode cX11_pairs 15 = .ok (.iconst 0, 1) := by decide +kernel
theorem dX11_pairs_16 : decode cX11_pairs 16 = .ok (.iload_n 1, 1) := by decide +kernel
theorem dX11_pairs_17 : decode cX11_pairs 17 = .ok (.if_icmp .ne 5, 3) := by decide +kernel
theorem dX11_pairs_20 : decode cX11_pairs 20 = .ok (.iconst 0, 1) := by decide +kernel
theorem dX11_pairs_21 : decode cX11_pairs 21 = .ok (.ireturn, 1) := by decide +kernel
theorem dX11_pairs_22 : decode cX11_pairs 22 = .ok (.aload_n 0, 1) := by decide +kernel
theorem dX11_pairs_23 : decode cX11_pairs 23 = .ok (.invokevirtual 356, 3) := by decide +kernel
theorem dX11_pairs_26 : decode cX11_pairs 26 = .ok (.aload_n 0, 1) := by decide +kernel
theorem dX11_pairs_27 : decode cX11_pairs 27 = .ok (.getfield 7, 3) := by decide +kernel
theorem dX11_pairs_30 : decode cX11_pairs 30 = .ok (.bipush 32, 2) := by decide +kernel
theorem dX11_pairs_32 : decode cX11_pairs 32 = .ok (.iload_n 1, 1) := by decide +kernel
theorem dX11_pairs_33 : decode cX11_pairs 33 = .ok (.ifCond .eq 7, 3) := by decide +kernel
theorem dX11_pairs_36 : decode cX11_pairs 36 = .ok (.iconst 1, 1) := by decide +kernel
theorem dX11_pairs_37 : decode cX11_pairs 37 = .ok (.goto 4, 3) := by decide +kernel
theorem dX11_pairs_40 : decode cX11_pairs 40 = .ok (.iconst 0, 1) := by decide +kernel
theorem dX11_pairs_41 : decode cX11_pairs 41 = .ok (.iastore, 1) := by decide +kernel
theorem dX11_pairs_42 : decode cX11_pairs 42 = .ok (.iconst 1, 1) := by decide +kernel
theorem dX11_pairs_43 : decode cX11_pairs 43 = .ok (.ireturn, 1) := by decide +kernel
def wW_X11_pairs (G : GG) (h0 h1 h2 y0_1 y0_2 y0_3 y0_4 y0_6 y0_18 y0_21 y0_22 y0_23 y0_24 y0_25 y0_26 y0_33 y0_34 y0_38 y0_39 y0_40 y0_41 y0_42 y0_43 y0_45 y0_47 y0_48 : Nat) (x0_5 : Int32) (x0_7 : Int32) (x0_8 : Int32) (x0_9 : Int32) (x0_10 : Int32) (x0_11 : Int32) (x0_12 : Int32) (x0_13 : Int32) (x0_14 : Int32) (x0_15 : Int32) (x0_16 : Int32) (x0_17 : Int32) (x0_19 : Int32) (x0_20 : Int32) (x0_27 : Int32) (x0_28 : Int32) (x0_29 : Int32) (x0_30 : Int32) (x0_31 : Int32) (x0_32 : Int32) (x0_35 : Int32) (x0_36 : Int32) (x0_37 : Int32) (x0_44 : Int32) (x0_49 : Int32) (x0_50 : Int32) (a1 : Nat → Int32) (a2 : Nat → Int32) : va_W := [(h0, .inr (11, [.ref h1, .ref y0_1, .ref y0_2, .ref y0_3, .ref y0_4, .int x0_5, .ref y0_6, .int x0_7, .int x0_8, .int x0_9, .int x0_10, .int x0_11, .int x0_12, .int x0_13, .int x0_14, .int x0_15, .int x0_16, .int x0_17, .ref y0_18, .int x0_19, .int x0_20, .ref y0_21, .ref y0_22, .ref y0_23, .ref y0_24, .ref y0_25, .ref y0_26, .int x0_27, .int x0_28, .int x0_29, .int x0_30, .int x0_31, .int x0_32, .ref y0_33, .ref y0_34, .int x0_35, .int x0_36, .int x0_37, .ref y0_38, .ref y0_39, .ref y0_40, .ref y0_41, .ref y0_42, .ref y0_43, .int x0_44, .ref y0_45, .ref h2, .ref y0_47, .ref y0_48, .int x0_49, .int x0_50])), (h1, .inl (G.2.1, 121, .inl a1)), (h2, .inl (G.2.1, 1573, .inl a2))]
set_option maxHeartbeats 4000000 in
set_option maxRecDepth 100000 in
theorem c_X11_pairs (l : Launch) (G : GG) (h0 h1 h2 y0_1 y0_2 y0_3 y0_4 y0_6 y0_18 y0_21 y0_22 y0_23 y0_24 y0_25 y0_26 y0_33 y0_34 y0_38 y0_39 y0_40 y0_41 y0_42 y0_43 y0_45 y0_47 y0_48 : Nat) (sz : Nat) (x0_5 : Int32) (x0_7 : Int32) (x0_8 : Int32) (x0_9 : Int32) (x0_10 : Int32) (x0_11 : Int32) (x0_12 : Int32) (x0_13 : Int32) (x0_14 : Int32) (x0_15 : Int32) (x0_16 : Int32) (x0_17 : Int32) (x0_19 : Int32) (x0_20 : Int32) (x0_27 : Int32) (x0_28 : Int32) (x0_29 : Int32) (x0_30 : Int32) (x0_31 : Int32) (x0_32 : Int32) (x0_35 : Int32) (x0_36 : Int32) (x0_37 : Int32) (x0_44 : Int32) (x0_49 : Int32) (x0_50 : Int32) (a1 : Nat → Int32) (a2 : Nat → Int32) (F : Nat) (b1 : Int32)  (r0 : Int32) (e_x0_49 : Int32) (e_x0_50 : Int32) (e_a1 : Nat → Int32) (e_a2 : Nat → Int32) (hf : p_X11_pairs F x0_49 x0_50 a1 a2 b1 = some (r0, e_x0_49, e_x0_50, e_a1, e_a2)) : Met l yX11_pairs (.code yX11_pairs cX11_pairs 2 (some .boolean) :: gtbl) ({ frames := 1, cells := 0, slots := 0, locals := 21 } : Room) (PcS G [.ref h0, .int b1] (wW_X11_pairs G h0 h1 h2 y0_1 y0_2 y0_3 y0_4 y0_6 y0_18 y0_21 y0_22 y0_23 y0_24 y0_25 y0_26 y0_33 y0_34 y0_38 y0_39 y0_40 y0_41 y0_42 y0_43 y0_45 y0_47 y0_48 x0_5 x0_7 x0_8 x0_9 x0_10 x0_11 x0_12 x0_13 x0_14 x0_15 x0_16 x0_17 x0_19 x0_20 x0_27 x0_28 x0_29 x0_30 x0_31 x0_32 x0_35 x0_36 x0_37 x0_44 x0_49 x0_50 a1 a2) sz) (QiS G r0 (va_A (wW_X11_pairs G h0 h1 h2 y0_1 y0_2 y0_3 y0_4 y0_6 y0_18 y0_21 y0_22 y0_23 y0_24 y0_25 y0_26 y0_33 y0_34 y0_38 y0_39 y0_40 y0_41 y0_42 y0_43 y0_45 y0_47 y0_48 x0_5 x0_7 x0_8 x0_9 x0_10 x0_11 x0_12 x0_13 x0_14 x0_15 x0_16 x0_17 x0_19 x0_20 x0_27 x0_28 x0_29 x0_30 x0_31 x0_32 x0_35 x0_36 x0_37 x0_44 x0_49 x0_50 a1 a2) sz) (wW_X11_pairs G h0 h1 h2 y0_1 y0_2 y0_3 y0_4 y0_6 y0_18 y0_21 y0_22 y0_23 y0_24 y0_25 y0_26 y0_33 y0_34 y0_38 y0_39 y0_40 y0_41 y0_42 y0_43 y0_45 y0_47 y0_48 x0_5 x0_7 x0_8 x0_9 x0_10 x0_11 x0_12 x0_13 x0_14 x0_15 x0_16 x0_17 x0_19 x0_20 x0_27 x0_28 x0_29 x0_30 x0_31 x0_32 x0_35 x0_36 x0_37 x0_44 e_x0_49 e_x0_50 e_a1 e_a2)) 0 0 (va_A (wW_X11_pairs G h0 h1 h2 y0_1 y0_2 y0_3 y0_4 y0_6 y0_18 y0_21 y0_22 y0_23 y0_24 y0_25 y0_26 y0_33 y0_34 y0_38 y0_39 y0_40 y0_41 y0_42 y0_43 y0_45 y0_47 y0_48 x0_5 x0_7 x0_8 x0_9 x0_10 x0_11 x0_12 x0_13 x0_14 x0_15 x0_16 x0_17 x0_19 x0_20 x0_27 x0_28 x0_29 x0_30 x0_31 x0_32 x0_35 x0_36 x0_37 x0_44 x0_49 x0_50 a1 a2) sz) := by
  refine met_start (by decide) (Nat.le_of_ble_eq_true rfl) ?_
  intro p e s m below meth c hC hr hlk hnm hK hP hD hA hS hX ls hl
  obtain ⟨hx, hb, hml, hown, ht0⟩ := hC
  have hown : s.vm.findClass RX11 = some m.cls := hown
  generalize va_A (wW_X11_pairs G h0 h1 h2 y0_1 y0_2 y0_3 y0_4 y0_6 y0_18 y0_21 y0_22 y0_23 y0_24 y0_25 y0_26 y0_33 y0_34 y0_38 y0_39 y0_40 y0_41 y0_42 y0_43 y0_45 y0_47 y0_48 x0_5 x0_7 x0_8 x0_9 x0_10 x0_11 x0_12 x0_13 x0_14 x0_15 x0_16 x0_17 x0_19 x0_20 x0_27 x0_28 x0_29 x0_30 x0_31 x0_32 x0_35 x0_36 x0_37 x0_44 x0_49 x0_50 a1 a2) sz = A at hD hA hS hX ⊢
  have hl : lv_has ls 2 [(0, .ref h0), (1, .int b1)] := hl
  have hf : p_X11_pairs F x0_49 x0_50 a1 a2 b1 = some (r0, e_x0_49, e_x0_50, e_a1, e_a2) := hf
  have kJ41 : ∀ (s41_1 : Int32) (s41_2 : Int32) (x0_49_41 : Int32) (x0_50_41 : Int32) (a1_41 : Nat → Int32) (a2_41 : Nat → Int32), p_X11_pairs_J41 F s41_1 s41_2 x0_49_41 x0_50_41 a1_41 a2_41 = some (r0, e_x0_49, e_x0_50, e_a1, e_a2) → ∀ (H : Heap) (locs : List Loc), va_P G.1 vwCl (wW_X11_pairs G h0 h1 h2 y0_1 y0_2 y0_3 y0_4 y0_6 y0_18 y0_21 y0_22 y0_23 y0_24 y0_25 y0_26 y0_33 y0_34 y0_38 y0_39 y0_40 y0_41 y0_42 y0_43 y0_45 y0_47 y0_48 x0_5 x0_7 x0_8 x0_9 x0_10 x0_11 x0_12 x0_13 x0_14 x0_15 x0_16 x0_17 x0_19 x0_20 x0_27 x0_28 x0_29 x0_30 x0_31 x0_32 x0_35 x0_36 x0_37 x0_44 x0_49_41 x0_50_41 a1_41 a2_41) H → va_D A (wW_X11_pairs G h0 h1 h2 y0_1 y0_2 y0_3 y0_4 y0_6 y0_18 y0_21 y0_22 y0_23 y0_24 y0_25 y0_26 y0_33 y0_34 y0_38 y0_39 y0_40 y0_41 y0_42 y0_43 y0_45 y0_47 y0_48 x0_5 x0_7 x0_8 x0_9 x0_10 x0_11 x0_12 x0_13 x0_14 x0_15 x0_16 x0_17 x0_19 x0_20 x0_27 x0_28 x0_29 x0_30 x0_31 x0_32 x0_35 x0_36 x0_37 x0_44 x0_49_41 x0_50_41 a1_41 a2_41) → va_S A s.heap H locs → ∀ ls : Array Slot, lv_has ls 2 [] → W p l e ({ frames := 1, cells := 0, slots := 0, locals := 21 } : Room) s m (List.toArray [.ref h0, .int b1]) below meth c H locs 0 0 (MQ below (QiS G r0 A (wW_X11_pairs G h0 h1 h2 y0_1 y0_2 y0_3 y0_4 y0_6 y0_18 y0_21 y0_22 y0_23 y0_24 y0_25 y0_26 y0_33 y0_34 y0_38 y0_39 y0_40 y0_41 y0_42 y0_43 y0_45 y0_47 y0_48 x0_5 x0_7 x0_8 x0_9 x0_10 x0_11 x0_12 x0_13 x0_14 x0_15 x0_16 x0_17 x0_19 x0_20 x0_27 x0_28 x0_29 x0_30 x0_31 x0_32 x0_35 x0_36 x0_37 x0_44 e_x0_49 e_x0_50 e_a1 e_a2)) (List.toArray [.ref h0, .int b1]) s 0 0 A) (F0 m 41 ls [.int s41_2, .int s41_1, .ref h1]) := by
    intro s41_1 s41_2 x0_49_41 x0_50_41 a1_41 a2_41 hf H locs hP hD hS ls hl
    obtain ⟨g1, hf⟩ := of_grd hf
    refine va_iast hx hb hK hP hD hS 1 0 rfl rfl g1 dX11_pairs_41 (fun H locs hP hD hS => ?_)
    have hP : va_P G.1 vwCl (wW_X11_pairs G h0 h1 h2 y0_1 y0_2 y0_3 y0_4 y0_6 y0_18 y0_21 y0_22 y0_23 y0_24 y0_25 y0_26 y0_33 y0_34 y0_38 y0_39 y0_40 y0_41 y0_42 y0_43 y0_45 y0_47 y0_48 x0_5 x0_7 x0_8 x0_9 x0_10 x0_11 x0_12 x0_13 x0_14 x0_15 x0_16 x0_17 x0_19 x0_20 x0_27 x0_28 x0_29 x0_30 x0_31 x0_32 x0_35 x0_36 x0_37 x0_44 x0_49_41 x0_50_41 (upd a1_41 s41_1.toNatClampNeg s41_2) a2_41) H := hP
    have hD : va_D A (wW_X11_pairs G h0 h1 h2 y0_1 y0_2 y0_3 y0_4 y0_6 y0_18 y0_21 y0_22 y0_23 y0_24 y0_25 y0_26 y0_33 y0_34 y0_38 y0_39 y0_40 y0_41 y0_42 y0_43 y0_45 y0_47 y0_48 x0_5 x0_7 x0_8 x0_9 x0_10 x0_11 x0_12 x0_13 x0_14 x0_15 x0_16 x0_17 x0_19 x0_20 x0_27 x0_28 x0_29 x0_30 x0_31 x0_32 x0_35 x0_36 x0_37 x0_44 x0_49_41 x0_50_41 (upd a1_41 s41_1.toNatClampNeg s41_2) a2_41) := hD
    refine lv_iconst (v := (1 : Int32)) hx hb dX11_pairs_42 (by decide) ?_
    cases hf
    exact ret_z hx hb hr hlk hK hP hD hS (by decide) dX11_pairs_43
  have kJ16 : ∀ (u16_1 : Int32) (s16_0 : Int32) (x0_49_16 : Int32) (x0_50_16 : Int32) (a1_16 : Nat → Int32) (a2_16 : Nat → Int32), p_X11_pairs_J16 F u16_1 s16_0 x0_49_16 x0_50_16 a1_16 a2_16 = some (r0, e_x0_49, e_x0_50, e_a1, e_a2) → ∀ (H : Heap) (locs : List Loc), va_P G.1 vwCl (wW_X11_pairs G h0 h1 h2 y0_1 y0_2 y0_3 y0_4 y0_6 y0_18 y0_21 y0_22 y0_23 y0_24 y0_25 y0_26 y0_33 y0_34 y0_38 y0_39 y0_40 y0_41 y0_42 y0_43 y0_45 y0_47 y0_48 x0_5 x0_7 x0_8 x0_9 x0_10 x0_11 x0_12 x0_13 x0_14 x0_15 x0_16 x0_17 x0_19 x0_20 x0_27 x0_28 x0_29 x0_30 x0_31 x0_32 x0_35 x0_36 x0_37 x0_44 x0_49_16 x0_50_16 a1_16 a2_16) H → va_D A (wW_X11_pairs G h0 h1 h2 y0_1 y0_2 y0_3 y0_4 y0_6 y0_18 y0_21 y0_22 y0_23 y0_24 y0_25 y0_26 y0_33 y0_34 y0_38 y0_39 y0_40 y0_41 y0_42 y0_43 y0_45 y0_47 y0_48 x0_5 x0_7 x0_8 x0_9 x0_10 x0_11 x0_12 x0_13 x0_14 x0_15 x0_16 x0_17 x0_19 x0_20 x0_27 x0_28 x0_29 x0_30 x0_31 x0_32 x0_35 x0_36 x0_37 x0_44 x0_49_16 x0_50_16 a1_16 a2_16) → va_S A s.heap H locs → ∀ ls : Array Slot, lv_has ls 2 [(0, .ref h0), (1, .int u16_1)] → W p l e ({ frames := 1, cells := 0, slots := 0, locals := 21 } : Room) s m (List.toArray [.ref h0, .int b1]) below meth c H locs 0 0 (MQ below (QiS G r0 A (wW_X11_pairs G h0 h1 h2 y0_1 y0_2 y0_3 y0_4 y0_6 y0_18 y0_21 y0_22 y0_23 y0_24 y0_25 y0_26 y0_33 y0_34 y0_38 y0_39 y0_40 y0_41 y0_42 y0_43 y0_45 y0_47 y0_48 x0_5 x0_7 x0_8 x0_9 x0_10 x0_11 x0_12 x0_13 x0_14 x0_15 x0_16 x0_17 x0_19 x0_20 x0_27 x0_28 x0_29 x0_30 x0_31 x0_32 x0_35 x0_36 x0_37 x0_44 e_x0_49 e_x0_50 e_a1 e_a2)) (List.toArray [.ref h0, .int b1]) s 0 0 A) (F0 m 16 ls [.int s16_0]) := by
    intro u16_1 s16_0 x0_49_16 x0_50_16 a1_16 a2_16 hf H locs hP hD hS ls hl
    refine lv_iload_n hx hb dX11_pairs_16 rfl (lv_at hl 1 rfl) ?_
    refine lv_icmp_ne (tgt := 22) hx hb dX11_pairs_17 (by decide) (fun c2 => ?_) (fun c2 => ?_)
    · have hf := of_neg hf c2
      refine lv_aload_n hx hb dX11_pairs_22 rfl (lv_at hl 0 rfl) ?_
      obtain ⟨⟨r_23_2_x0_49, r_23_2_x0_50, r_23_2_a2⟩, hc_r_23_2, hf⟩ := of_bnd hf
      refine cl_Vv (w2 := (wW_X11_pairs G h0 h1 h2 y0_1 y0_2 y0_3 y0_4 y0_6 y0_18 y0_21 y0_22 y0_23 y0_24 y0_25 y0_26 y0_33 y0_34 y0_38 y0_39 y0_40 y0_41 y0_42 y0_43 y0_45 y0_47 y0_48 x0_5 x0_7 x0_8 x0_9 x0_10 x0_11 x0_12 x0_13 x0_14 x0_15 x0_16 x0_17 x0_19 x0_20 x0_27 x0_28 x0_29 x0_30 x0_31 x0_32 x0_35 x0_36 x0_37 x0_44 r_23_2_x0_49 r_23_2_x0_50 a1_16 r_23_2_a2)) (As := []) (rest := []) ⟨hx, hb, hml, hown, ht0⟩ (c_X11_keepAct l G h0 h1 h2 y0_1 y0_2 y0_3 y0_4 y0_6 y0_18 y0_21 y0_22 y0_23 y0_24 y0_25 y0_26 y0_33 y0_34 y0_38 y0_39 y0_40 y0_41 y0_42 y0_43 y0_45 y0_47 y0_48 _ x0_5 x0_7 x0_8 x0_9 x0_10 x0_11 x0_12 x0_13 x0_14 x0_15 x0_16 x0_17 x0_19 x0_20 x0_27 x0_28 x0_29 x0_30 x0_31 x0_32 x0_35 x0_36 x0_37 x0_44 x0_49_16 x0_50_16 a1_16 a2_16 F _ _ _ hc_r_23_2) yk_X11_keepAct wd_1595 ⟨rfl, rfl, by decide, by decide⟩ ⟨Nat.le_refl _, Nat.le_refl _⟩ hX hK hP hD hS hA [0, 1, 2] [] [0, 1, 2] (va_recv hK hP (ci := 11) (q0 := 0) rfl rfl) rfl rfl (by decide) rfl rfl rfl rfl rfl hl.1 rfl (Nat.le_of_ble_eq_true rfl) dX11_pairs_23 (fun H locs hP hD hS => ?_)
      refine lv_aload_n hx hb dX11_pairs_26 rfl (lv_at hl 0 rfl) ?_
      refine va_get (ci := 11) (v := .ref h1) (C := RX11) (T := TX11) (N := 51) hx hb ht0 iX11 hown hK hP 0 rfl rfl 0 (by decide) (ht0 _ wd_1406) (fun _ h9 => h9) rfl dX11_pairs_27 ?_
      refine lv_bipush (v := (32 : Int32)) hx hb dX11_pairs_30 (by decide) ?_
      refine lv_iload_n hx hb dX11_pairs_32 rfl (lv_at hl 1 rfl) ?_
      refine lv_if_eq (tgt := 40) hx hb dX11_pairs_33 (by decide) (fun c4 => ?_) (fun c4 => ?_)
      · have hf := of_pos hf c4
        refine lv_iconst (v := (0 : Int32)) hx hb dX11_pairs_40 (by decide) ?_
        exact kJ41 _ _ _ _ _ _ hf _ _ hP hD hS _ (lv_sub hl [] rfl)
      · have hf := of_neg hf c4
        refine lv_iconst (v := (1 : Int32)) hx hb dX11_pairs_36 (by decide) ?_
        refine lv_goto (tgt := 41) hx hb dX11_pairs_37 (by decide) ?_
        exact kJ41 _ _ _ _ _ _ hf _ _ hP hD hS _ (lv_sub hl [] rfl)
    · have hf := of_pos hf c2
      refine lv_iconst (v := (0 : Int32)) hx hb dX11_pairs_20 (by decide) ?_
      cases hf
      exact ret_z hx hb hr hlk hK hP hD hS (by decide) dX11_pairs_21
  refine lv_aload_n hx hb dX11_pairs_0 rfl (lv_at hl 0 rfl) ?_
  refine va_get (ci := 11) (v := .ref h1) (C := RX11) (T := TX11) (N := 51) hx hb ht0 iX11 hown hK hP 0 rfl rfl 0 (by decide) (ht0 _ wd_1406) (fun _ h9 => h9) rfl dX11_pairs_1 ?_
  refine lv_bipush (v := (32 : Int32)) hx hb dX11_pairs_4 (by decide) ?_
  refine va_iald hx hb hK hP 1 0 rfl rfl (show ¬ ixBad (32 : Int32) 121 by decide) dX11_pairs_6 ?_
  refine lv_iconst (v := (1 : Int32)) hx hb dX11_pairs_7 (by decide) ?_
  refine lv_icmp_ne (tgt := 15) hx hb dX11_pairs_8 (by decide) (fun c5 => ?_) (fun c5 => ?_)
  · have hf := of_neg hf c5
    refine lv_iconst (v := (0 : Int32)) hx hb dX11_pairs_15 (by decide) ?_
    exact kJ16 _ _ _ _ _ _ hf _ _ hP hD hS _ (lv_sub hl [0, 1] rfl)
  · have hf := of_pos hf c5
    refine lv_iconst (v := (1 : Int32)) hx hb dX11_pairs_11 (by decide) ?_
    refine lv_goto (tgt := 16) hx hb dX11_pairs_12 (by decide) ?_
    exact kJ16 _ _ _ _ _ _ hf _ _ hP hD hS _ (lv_sub hl [0, 1] rfl)
theorem yk_X11_pairs : ykV yX11_pairs RX11 cX11_pairs 2 (some .boolean) 1 := ⟨wd_1763, wd_1764, wd_142, wd_1765, rfl, by decide +kernel, by decide +kernel, by decide +kernel⟩
theorem dX11_layThrees_0 : decode cX11_layThrees 0 = .ok (.iconst 0, 1) := by decide +kernel
theorem dX11_layThrees_1 : decode cX11_layThrees 1 = .ok (.istore_n 2, 1) := by decide +kernel
theorem dX11_layThrees_2 : decode cX11_layThrees 2 = .ok (.iload_n 2, 1) := by decide +kernel
theorem dX11_layThrees_3 : decode cX11_layThrees 3 = .ok (.sipush 256, 3) := by decide +kernel
theorem dX11_layThrees_6 : decode cX11_layThrees 6 = .ok (.if_icmp .ge 16, 3) := by decide +kernel
theorem dX11_layThrees_9 : decode cX11_layThrees 9 = .ok (.aload_n 0, 1) := by decide +kernel
theorem dX11_layThrees_10 : decode cX11_layThrees 10 = .ok (.getfield 58, 3) := by decide +kernel
theorem dX11_layThrees_13 : decode cX11_layThrees 13 = .ok (.iload_n 2, 1) := by decide +kernel
theorem dX11_layThrees_14 : decode cX11_layThrees 14 = .ok (.iconst 0, 1) := by decide +kernel
theorem dX11_layThrees_15 : decode cX11_layThrees 15 = .ok (.iastore, 1) := by decide +kernel
theorem dX11_layThrees_16 : decode cX11_layThrees 16 = .ok (.iinc 2 1, 3) := by decide +kernel
theorem dX11_layThrees_19 : decode cX11_layThrees 19 = .ok (.goto (-17), 3) := by decide +kernel
theorem dX11_layThrees_22 : decode cX11_layThrees 22 = .ok (.aload_n 0, 1) := by decide +kernel
theorem dX11_layThrees_23 : decode cX11_layThrees 23 = .ok (.invokevirtual 217, 3) := by decide +kernel
theorem dX11_layThrees_26 : decode cX11_layThrees 26 = .ok (.istore_n 2, 1) := by decide +kernel
theorem dX11_layThrees_27 : decode cX11_layThrees 27 = .ok (.iconst 0, 1) := by decide +kernel
theorem dX11_layThrees_28 : decode cX11_layThrees 28 = .ok (.istore_n 3, 1) := by decide +kernel
theorem dX11_layThrees_29 : decode cX11_layThrees 29 = .ok (.iload_n 3, 1) := by decide +kernel
theorem dX11_layThrees_30 : decode cX11_layThrees 30 = .ok (.iload_n 2, 1) := by decide +kernel
theorem dX11_layThrees_31 : decode cX11_layThrees 31 = .ok (.if_icmp .ge 89, 3) := by decide +kernel
theorem dX11_layThrees_34 : decode cX11_layThrees 34 = .ok (.iload_n 3, 1) := by decide +kernel
theorem dX11_layThrees_35 : decode cX11_layThrees 35 = .ok (.iconst 1, 1) := by decide +kernel
theorem dX11_layThrees_36 : decode cX11_layThrees 36 = .ok (.iadd, 1) := by decide +kernel
theorem dX11_layThrees_37 : decode cX11_layThrees 37 = .ok (.istore 4, 2) := by decide +kernel
theorem dX11_layThrees_39 : decode cX11_layThrees 39 = .ok (.iload 4, 2) := by decide +kernel
theorem dX11_layThrees_41 : decode cX11_layThrees 41 = .ok (.iload_n 2, 1) := by decide +kernel
theorem dX11_layThrees_42 : decode cX11_layThrees 42 = .ok (.if_icmp .ge 72, 3) := by decide +kernel
theorem dX11_layThrees_45 : decode cX11_layThrees 45 = .ok (.iload 4, 2) := by decide +kernel
theorem dX11_layThrees_47 : decode cX11_layThrees 47 = .ok (.iconst 1, 1) := by decide +kernel
theorem dX11_layThrees_48 : decode cX11_layThrees 48 = .ok (.iadd, 1) := by decide +kernel
theorem dX11_layThrees_49 : decode cX11_layThrees 49 = .ok (.istore 5, 2) := by decide +kernel
theorem dX11_layThrees_51 : decode cX11_layThrees 51 = .ok (.iload 5, 2) := by decide +kernel
theorem dX11_layThrees_53 : decode cX11_layThrees 53 = .ok (.iload_n 2, 1) := by decide +kernel
theorem dX11_layThrees_54 : decode cX11_layThrees 54 = .ok (.if_icmp .ge 54, 3) := by decide +kernel
theorem dX11_layThrees_57 : decode cX11_layThrees 57 = .ok (.iload_n 3, 1) := by decide +kernel
theorem dX11_layThrees_58 : decode cX11_layThrees 58 = .ok (.iload_n 1, 1) := by decide +kernel
theorem dX11_layThrees_59 : decode cX11_layThrees 59 = .ok (.if_icmp .eq 43, 3) := by decide +kernel
theorem dX11_layThrees_62 : decode cX11_layThrees 62 = .ok (.iload 4, 2) := by decide +kernel
theorem dX11_layThrees_64 : decode cX11_layThrees 64 = .ok (.iload_n 1, 1) := by decide +kernel
theorem dX11_layThrees_65 : decode cX11_layThrees 65 = .ok (.if_icmp .eq 37, 3) := by decide +kernel
theorem dX11_layThrees_68 : decode cX11_layThrees 68 = .ok (.iload 5, 2) := by decide +kernel
theorem dX11_layThrees_70 : decode cX11_layThrees 70 = .ok (.iload_n 1, 1) := by decide +kernel
theorem dX11_layThrees_71 : decode cX11_layThrees 71 = .ok (.if_icmp .eq 31, 3) := by decide +kernel
theorem dX11_layThrees_74 : decode cX11_layThrees 74 = .ok (.aload_n 0, 1) := by decide +kernel
theorem dX11_layThrees_75 : decode cX11_layThrees 75 = .ok (.getfield 58, 3) := by decide +kernel
theorem dX11_layThrees_78 : decode cX11_layThrees 78 = .ok (.aload_n 0, 1) := by decide +kernel
theorem dX11_layThrees_79 : decode cX11_layThrees 79 = .ok (.iload_n 3, 1) := by decide +kernel
theorem dX11_layThrees_80 : decode cX11_layThrees 80 = .ok (.invokevirtual 269, 3) := by decide +kernel
theorem dX11_layThrees_83 : decode cX11_layThrees 83 = .ok (.aload_n 0, 1) := by decide +kernel
theorem dX11_layThrees_84 : decode cX11_layThrees 84 = .ok (.iload 4, 2) := by decide +kernel
theorem dX11_layThrees_86 : decode cX11_layThrees 86 = .ok (.invokevirtual 269, 3) := by decide +kernel
theorem dX11_layThrees_89 : decode cX11_layThrees 89 = .ok (.ixor, 1) := by decide +kernel
theorem dX11_layThrees_90 : decode cX11_layThrees 90 = .ok (.aload_n 0, 1) := by decide +kernel
theorem dX11_layThrees_91 : decode cX11_layThrees 91 = .ok (.iload 5, 2) := by decide +kernel
theorem dX11_layThrees_93 : decode cX11_layThrees 93 = .ok (.invokevirtual 269, 3) := by decide +kernel
theorem dX11_layThrees_96 : decode cX11_layThrees 96 = .ok (.ixor, 1) := by decide +kernel
theorem dX11_layThrees_97 : decode cX11_layThrees 97 = .ok (.dup2, 1) := by decide +kernel
theorem dX11_layThrees_98 : decode cX11_layThrees 98 = .ok (.iaload, 1) := by decide +kernel
theorem dX11_layThrees_99 : decode cX11_layThrees 99 = .ok (.iconst 1, 1) := by decide +kernel
theorem dX11_layThrees_100 : decode cX11_layThrees 100 = .ok (.iadd, 1) := by decide +kernel
theorem dX11_layThrees_101 : decode cX11_layThrees 101 = .ok (.iastore, 1) := by decide +kernel
theorem dX11_layThrees_102 : decode cX11_layThrees 102 = .ok (.iinc 5 1, 3) := by decide +kernel
theorem dX11_layThrees_105 : decode cX11_layThrees 105 = .ok (.goto (-54), 3) := by decide +kernel
theorem dX11_layThrees_108 : decode cX11_layThrees 108 = .ok (.iinc 4 1, 3) := by decide +kernel
theorem dX11_layThrees_111 : decode cX11_layThrees 111 = .ok (.goto (-72), 3) := by decide +kernel
theorem dX11_layThrees_114 : decode cX11_layThrees 114 = .ok (.iinc 3 1, 3) := by decide +kernel
theorem dX11_layThrees_117 : decode cX11_layThrees 117 = .ok (.goto (-88), 3) := by decide +kernel
theorem dX11_layThrees_120 : decode cX11_layThrees 120 = .ok (.return_, 1) := by decide +kernel
def wW_X11_layThrees (G : GG) (h0 h1 h2 h3 h4 y0_3 y0_4 y0_6 y0_18 y0_21 y0_22 y0_23 y0_24 y0_25 y0_26 y0_33 y0_38 y0_39 y0_40 y0_41 y0_42 y0_43 y0_45 y0_46 y0_47 y0_48 : Nat) (x0_5 : Int32) (x0_7 : Int32) (x0_8 : Int32) (x0_9 : Int32) (x0_10 : Int32) (x0_11 : Int32) (x0_12 : Int32) (x0_13 : Int32) (x0_14 : Int32) (x0_15 : Int32) (x0_16 : Int32) (x0_17 : Int32) (x0_19 : Int32) (x0_20 : Int32) (x0_27 : Int32) (x0_28 : Int32) (x0_29 : Int32) (x0_30 : Int32) (x0_31 : Int32) (x0_32 : Int32) (x0_35 : Int32) (x0_36 : Int32) (x0_37 : Int32) (x0_44 : Int32) (x0_49 : Int32) (x0_50 : Int32) (a1 : Nat → Int32) (a2 : Nat → Int32) (a3 : Nat → Int32) (a4 : Nat → Int32) : va_W := [(h0, .inr (11, [.ref h1, .ref h2, .ref h3, .ref y0_3, .ref y0_4, .int x0_5, .ref y0_6, .int x0_7, .int x0_8, .int x0_9, .int x0_10, .int x0_11, .int x0_12, .int x0_13, .int x0_14, .int x0_15, .int x0_16, .int x0_17, .ref y0_18, .int x0_19, .int x0_20, .ref y0_21, .ref y0_22, .ref y0_23, .ref y0_24, .ref y0_25, .ref y0_26, .int x0_27, .int x0_28, .int x0_29, .int x0_30, .int x0_31, .int x0_32, .ref y0_33, .ref h4, .int x0_35, .int x0_36, .int x0_37, .ref y0_38, .ref y0_39, .ref y0_40, .ref y0_41, .ref y0_42, .ref y0_43, .int x0_44, .ref y0_45, .ref y0_46, .ref y0_47, .ref y0_48, .int x0_49, .int x0_50])), (h1, .inl (G.2.1, 121, .inl a1)), (h2, .inl (G.2.1, 2, .inl a2)), (h3, .inl (G.2.1, 2, .inl a3)), (h4, .inl (G.2.1, 256, .inl a4))]
set_option maxHeartbeats 4000000 in
set_option maxRecDepth 100000 in
theorem c_X11_layThrees (l : Launch) (G : GG) (h0 h1 h2 h3 h4 y0_3 y0_4 y0_6 y0_18 y0_21 y0_22 y0_23 y0_24 y0_25 y0_26 y0_33 y0_38 y0_39 y0_40 y0_41 y0_42 y0_43 y0_45 y0_46 y0_47 y0_48 : Nat) (sz : Nat) (x0_5 : Int32) (x0_7 : Int32) (x0_8 : Int32) (x0_9 : Int32) (x0_10 : Int32) (x0_11 : Int32) (x0_12 : Int32) (x0_13 : Int32) (x0_14 : Int32) (x0_15 : Int32) (x0_16 : Int32) (x0_17 : Int32) (x0_19 : Int32) (x0_20 : Int32) (x0_27 : Int32) (x0_28 : Int32) (x0_29 : Int32) (x0_30 : Int32) (x0_31 : Int32) (x0_32 : Int32) (x0_35 : Int32) (x0_36 : Int32) (x0_37 : Int32) (x0_44 : Int32) (x0_49 : Int32) (x0_50 : Int32) (a1 : Nat → Int32) (a2 : Nat → Int32) (a3 : Nat → Int32) (a4 : Nat → Int32) (F : Nat) (b1 : Int32)  (e_a4 : Nat → Int32) (hf : p_X11_layThrees F x0_5 a1 a2 a3 a4 b1 = some e_a4) : Met l yX11_layThrees (.code yX11_layThrees cX11_layThrees 6 none :: gtbl) ({ frames := 2, cells := 0, slots := 0, locals := 40 } : Room) (PcS G [.ref h0, .int b1] (wW_X11_layThrees G h0 h1 h2 h3 h4 y0_3 y0_4 y0_6 y0_18 y0_21 y0_22 y0_23 y0_24 y0_25 y0_26 y0_33 y0_38 y0_39 y0_40 y0_41 y0_42 y0_43 y0_45 y0_46 y0_47 y0_48 x0_5 x0_7 x0_8 x0_9 x0_10 x0_11 x0_12 x0_13 x0_14 x0_15 x0_16 x0_17 x0_19 x0_20 x0_27 x0_28 x0_29 x0_30 x0_31 x0_32 x0_35 x0_36 x0_37 x0_44 x0_49 x0_50 a1 a2 a3 a4) sz) (QvS G (va_A (wW_X11_layThrees G h0 h1 h2 h3 h4 y0_3 y0_4 y0_6 y0_18 y0_21 y0_22 y0_23 y0_24 y0_25 y0_26 y0_33 y0_38 y0_39 y0_40 y0_41 y0_42 y0_43 y0_45 y0_46 y0_47 y0_48 x0_5 x0_7 x0_8 x0_9 x0_10 x0_11 x0_12 x0_13 x0_14 x0_15 x0_16 x0_17 x0_19 x0_20 x0_27 x0_28 x0_29 x0_30 x0_31 x0_32 x0_35 x0_36 x0_37 x0_44 x0_49 x0_50 a1 a2 a3 a4) sz) (wW_X11_layThrees G h0 h1 h2 h3 h4 y0_3 y0_4 y0_6 y0_18 y0_21 y0_22 y0_23 y0_24 y0_25 y0_26 y0_33 y0_38 y0_39 y0_40 y0_41 y0_42 y0_43 y0_45 y0_46 y0_47 y0_48 x0_5 x0_7 x0_8 x0_9 x0_10 x0_11 x0_12 x0_13 x0_14 x0_15 x0_16 x0_17 x0_19 x0_20 x0_27 x0_28 x0_29 x0_30 x0_31 x0_32 x0_35 x0_36 x0_37 x0_44 x0_49 x0_50 a1 a2 a3 e_a4)) 0 0 (va_A (wW_X11_layThrees G h0 h1 h2 h3 h4 y0_3 y0_4 y0_6 y0_18 y0_21 y0_22 y0_23 y0_24 y0_25 y0_26 y0_33 y0_38 y0_39 y0_40 y0_41 y0_42 y0_43 y0_45 y0_46 y0_47 y0_48 x0_5 x0_7 x0_8 x0_9 x0_10 x0_11 x0_12 x0_13 x0_14 x0_15 x0_16 x0_17 x0_19 x0_20 x0_27 x0_28 x0_29 x0_30 x0_31 x0_32 x0_35 x0_36 x0_37 x0_44 x0_49 x0_50 a1 a2 a3 a4) sz) := by
  refine met_start (by decide) (Nat.le_of_ble_eq_true rfl) ?_
  intro p e s m below meth c hC hr hlk hnm hK hP hD hA hS hX ls hl
  obtain ⟨hx, hb, hml, hown, ht0⟩ := hC
  have hown : s.vm.findClass RX11 = some m.cls := hown
  generalize va_A (wW_X11_layThrees G h0 h1 h2 h3 h4 y0_3 y0_4 y0_6 y0_18 y0_21 y0_22 y0_23 y0_24 y0_25 y0_26 y0_33 y0_38 y0_39 y0_40 y0_41 y0_42 y0_43 y0_45 y0_46 y0_47 y0_48 x0_5 x0_7 x0_8 x0_9 x0_10 x0_11 x0_12 x0_13 x0_14 x0_15 x0_16 x0_17 x0_19 x0_20 x0_27 x0_28 x0_29 x0_30 x0_31 x0_32 x0_35 x0_36 x0_37 x0_44 x0_49 x0_50 a1 a2 a3 a4) sz = A at hD hA hS hX ⊢
  have hl : lv_has ls 6 [(0, .ref h0), (1, .int b1)] := hl
  have hf : p_X11_layThrees F x0_5 a1 a2 a3 a4 b1 = some e_a4 := hf
  have kL29 : ∀ (c29_1 : Int32) (c29_2 : Int32) (n29 : Nat) (u29_3 : Int32) (a4_29 : Nat → Int32), p_X11_layThrees_L29 F x0_5 a1 a2 a3 c29_1 c29_2 n29 u29_3 a4_29 = some e_a4 → ∀ (H : Heap) (locs : List Loc), va_P G.1 vwCl (wW_X11_layThrees G h0 h1 h2 h3 h4 y0_3 y0_4 y0_6 y0_18 y0_21 y0_22 y0_23 y0_24 y0_25 y0_26 y0_33 y0_38 y0_39 y0_40 y0_41 y0_42 y0_43 y0_45 y0_46 y0_47 y0_48 x0_5 x0_7 x0_8 x0_9 x0_10 x0_11 x0_12 x0_13 x0_14 x0_15 x0_16 x0_17 x0_19 x0_20 x0_27 x0_28 x0_29 x0_30 x0_31 x0_32 x0_35 x0_36 x0_37 x0_44 x0_49 x0_50 a1 a2 a3 a4_29) H → va_D A (wW_X11_layThrees G h0 h1 h2 h3 h4 y0_3 y0_4 y0_6 y0_18 y0_21 y0_22 y0_23 y0_24 y0_25 y0_26 y0_33 y0_38 y0_39 y0_40 y0_41 y0_42 y0_43 y0_45 y0_46 y0_47 y0_48 x0_5 x0_7 x0_8 x0_9 x0_10 x0_11 x0_12 x0_13 x0_14 x0_15 x0_16 x0_17 x0_19 x0_20 x0_27 x0_28 x0_29 x0_30 x0_31 x0_32 x0_35 x0_36 x0_37 x0_44 x0_49 x0_50 a1 a2 a3 a4_29) → va_S A s.heap H locs → ∀ ls : Array Slot, lv_has ls 6 [(0, .ref h0), (1, .int c29_1), (2, .int c29_2), (3, .int u29_3)] → W p l e ({ frames := 2, cells := 0, slots := 0, locals := 40 } : Room) s m (List.toArray [.ref h0, .int b1]) below meth c H locs 0 0 (MQ below (QvS G A (wW_X11_layThrees G h0 h1 h2 h3 h4 y0_3 y0_4 y0_6 y0_18 y0_21 y0_22 y0_23 y0_24 y0_25 y0_26 y0_33 y0_38 y0_39 y0_40 y0_41 y0_42 y0_43 y0_45 y0_46 y0_47 y0_48 x0_5 x0_7 x0_8 x0_9 x0_10 x0_11 x0_12 x0_13 x0_14 x0_15 x0_16 x0_17 x0_19 x0_20 x0_27 x0_28 x0_29 x0_30 x0_31 x0_32 x0_35 x0_36 x0_37 x0_44 x0_49 x0_50 a1 a2 a3 e_a4)) (List.toArray [.ref h0, .int b1]) s 0 0 A) (F0 m 29 ls []) := by
    intro c29_1 c29_2 n29
    induction n29 with
    | zero =>
      intro u29_3 a4_29 hf
      cases hf
    | succ n29 ih29 =>
      have kL39 : ∀ (c39_3 : Int32) (n39 : Nat) (u39_4 : Int32) (a4_39 : Nat → Int32), p_X11_layThrees_L39 F x0_5 a1 a2 a3 c29_1 c29_2 c39_3 (p_X11_layThrees_L29 F x0_5 a1 a2 a3 c29_1 c29_2 n29) n39 u39_4 a4_39 = some e_a4 → ∀ (H : Heap) (locs : List Loc), va_P G.1 vwCl (wW_X11_layThrees G h0 h1 h2 h3 h4 y0_3 y0_4 y0_6 y0_18 y0_21 y0_22 y0_23 y0_24 y0_25 y0_26 y0_33 y0_38 y0_39 y0_40 y0_41 y0_42 y0_43 y0_45 y0_46 y0_47 y0_48 x0_5 x0_7 x0_8 x0_9 x0_10 x0_11 x0_12 x0_13 x0_14 x0_15 x0_16 x0_17 x0_19 x0_20 x0_27 x0_28 x0_29 x0_30 x0_31 x0_32 x0_35 x0_36 x0_37 x0_44 x0_49 x0_50 a1 a2 a3 a4_39) H → va_D A (wW_X11_layThrees G h0 h1 h2 h3 h4 y0_3 y0_4 y0_6 y0_18 y0_21 y0_22 y0_23 y0_24 y0_25 y0_26 y0_33 y0_38 y0_39 y0_40 y0_41 y0_42 y0_43 y0_45 y0_46 y0_47 y0_48 x0_5 x0_7 x0_8 x0_9 x0_10 x0_11 x0_12 x0_13 x0_14 x0_15 x0_16 x0_17 x0_19 x0_20 x0_27 x0_28 x0_29 x0_30 x0_31 x0_32 x0_35 x0_36 x0_37 x0_44 x0_49 x0_50 a1 a2 a3 a4_39) → va_S A s.heap H locs → ∀ ls : Array Slot, lv_has ls 6 [(0, .ref h0), (1, .int c29_1), (2, .int c29_2), (3, .int c39_3), (4, .int u39_4)] → W p l e ({ frames := 2, cells := 0, slots := 0, locals := 40 } : Room) s m (List.toArray [.ref h0, .int b1]) below meth c H locs 0 0 (MQ below (QvS G A (wW_X11_layThrees G h0 h1 h2 h3 h4 y0_3 y0_4 y0_6 y0_18 y0_21 y0_22 y0_23 y0_24 y0_25 y0_26 y0_33 y0_38 y0_39 y0_40 y0_41 y0_42 y0_43 y0_45 y0_46 y0_47 y0_48 x0_5 x0_7 x0_8 x0_9 x0_10 x0_11 x0_12 x0_13 x0_14 x0_15 x0_16 x0_17 x0_19 x0_20 x0_27 x0_28 x0_29 x0_30 x0_31 x0_32 x0_35 x0_36 x0_37 x0_44 x0_49 x0_50 a1 a2 a3 e_a4)) (List.toArray [.ref h0, .int b1]) s 0 0 A) (F0 m 39 ls []) := by
        intro c39_3 n39
        induction n39 with
        | zero =>
          intro u39_4 a4_39 hf
          cases hf
        | succ n39 ih39 =>
          have kL51 : ∀ (c51_4 : Int32) (n51 : Nat) (u51_5 : Int32) (a4_51 : Nat → Int32), p_X11_layThrees_L51 F x0_5 a1 a2 a3 c29_1 c29_2 c39_3 c51_4 (p_X11_layThrees_L29 F x0_5 a1 a2 a3 c29_1 c29_2 n29) (p_X11_layThrees_L39 F x0_5 a1 a2 a3 c29_1 c29_2 c39_3 (p_X11_layThrees_L29 F x0_5 a1 a2 a3 c29_1 c29_2 n29) n39) n51 u51_5 a4_51 = some e_a4 → ∀ (H : Heap) (locs : List Loc), va_P G.1 vwCl (wW_X11_layThrees G h0 h1 h2 h3 h4 y0_3 y0_4 y0_6 y0_18 y0_21 y0_22 y0_23 y0_24 y0_25 y0_26 y0_33 y0_38 y0_39 y0_40 y0_41 y0_42 y0_43 y0_45 y0_46 y0_47 y0_48 x0_5 x0_7 x0_8 x0_9 x0_10 x0_11 x0_12 x0_13 x0_14 x0_15 x0_16 x0_17 x0_19 x0_20 x0_27 x0_28 x0_29 x0_30 x0_31 x0_32 x0_35 x0_36 x0_37 x0_44 x0_49 x0_50 a1 a2 a3 a4_51) H → va_D A (wW_X11_layThrees G h0 h1 h2 h3 h4 y0_3 y0_4 y0_6 y0_18 y0_21 y0_22 y0_23 y0_24 y0_25 y0_26 y0_33 y0_38 y0_39 y0_40 y0_41 y0_42 y0_43 y0_45 y0_46 y0_47 y0_48 x0_5 x0_7 x0_8 x0_9 x0_10 x0_11 x0_12 x0_13 x0_14 x0_15 x0_16 x0_17 x0_19 x0_20 x0_27 x0_28 x0_29 x0_30 x0_31 x0_32 x0_35 x0_36 x0_37 x0_44 x0_49 x0_50 a1 a2 a3 a4_51) → va_S A s.heap H locs → ∀ ls : Array Slot, lv_has ls 6 [(0, .ref h0), (1, .int c29_1), (2, .int c29_2), (3, .int c39_3), (4, .int c51_4), (5, .int u51_5)] → W p l e ({ frames := 2, cells := 0, slots := 0, locals := 40 } : Room) s m (List.toArray [.ref h0, .int b1]) below meth c H locs 0 0 (MQ below (QvS G A (wW_X11_layThrees G h0 h1 h2 h3 h4 y0_3 y0_4 y0_6 y0_18 y0_21 y0_22 y0_23 y0_24 y0_25 y0_26 y0_33 y0_38 y0_39 y0_40 y0_41 y0_42 y0_43 y0_45 y0_46 y0_47 y0_48 x0_5 x0_7 x0_8 x0_9 x0_10 x0_11 x0_12 x0_13 x0_14 x0_15 x0_16 x0_17 x0_19 x0_20 x0_27 x0_28 x0_29 x0_30 x0_31 x0_32 x0_35 x0_36 x0_37 x0_44 x0_49 x0_50 a1 a2 a3 e_a4)) (List.toArray [.ref h0, .int b1]) s 0 0 A) (F0 m 51 ls []) := by
            intro c51_4 n51
            induction n51 with
            | zero =>
              intro u51_5 a4_51 hf
              cases hf
            | succ n51 ih51 =>
              have kJ102 : ∀ (u102_5 : Int32) (a4_102 : Nat → Int32), p_X11_layThrees_J102 F x0_5 a1 a2 a3 c29_1 c29_2 c39_3 c51_4 (p_X11_layThrees_L29 F x0_5 a1 a2 a3 c29_1 c29_2 n29) (p_X11_layThrees_L39 F x0_5 a1 a2 a3 c29_1 c29_2 c39_3 (p_X11_layThrees_L29 F x0_5 a1 a2 a3 c29_1 c29_2 n29) n39) (p_X11_layThrees_L51 F x0_5 a1 a2 a3 c29_1 c29_2 c39_3 c51_4 (p_X11_layThrees_L29 F x0_5 a1 a2 a3 c29_1 c29_2 n29) (p_X11_layThrees_L39 F x0_5 a1 a2 a3 c29_1 c29_2 c39_3 (p_X11_layThrees_L29 F x0_5 a1 a2 a3 c29_1 c29_2 n29) n39) n51) u102_5 a4_102 = some e_a4 → ∀ (H : Heap) (locs : List Loc), va_P G.1 vwCl (wW_X11_layThrees G h0 h1 h2 h3 h4 y0_3 y0_4 y0_6 y0_18 y0_21 y0_22 y0_23 y0_24 y0_25 y0_26 y0_33 y0_38 y0_39 y0_40 y0_41 y0_42 y0_43 y0_45 y0_46 y0_47 y0_48 x0_5 x0_7 x0_8 x0_9 x0_10 x0_11 x0_12 x0_13 x0_14 x0_15 x0_16 x0_17 x0_19 x0_20 x0_27 x0_28 x0_29 x0_30 x0_31 x0_32 x0_35 x0_36 x0_37 x0_44 x0_49 x0_50 a1 a2 a3 a4_102) H → va_D A (wW_X11_layThrees G h0 h1 h2 h3 h4 y0_3 y0_4 y0_6 y0_18 y0_21 y0_22 y0_23 y0_24 y0_25 y0_26 y0_33 y0_38 y0_39 y0_40 y0_41 y0_42 y0_43 y0_45 y0_46 y0_47 y0_48 x0_5 x0_7 x0_8 x0_9 x0_10 x0_11 x0_12 x0_13 x0_14 x0_15 x0_16 x0_17 x0_19 x0_20 x0_27 x0_28 x0_29 x0_30 x0_31 x0_32 x0_35 x0_36 x0_37 x0_44 x0_49 x0_50 a1 a2 a3 a4_102) → va_S A s.heap H locs → ∀ ls : Array Slot, lv_has ls 6 [(0, .ref h0), (1, .int c29_1), (2, .int c29_2), (3, .int c39_3), (4, .int c51_4), (5, .int u102_5)] → W p l e ({ frames := 2, cells := 0, slots := 0, locals := 40 } : Room) s m (List.toArray [.ref h0, .int b1]) below meth c H locs 0 0 (MQ below (QvS G A (wW_X11_layThrees G h0 h1 h2 h3 h4 y0_3 y0_4 y0_6 y0_18 y0_21 y0_22 y0_23 y0_24 y0_25 y0_26 y0_33 y0_38 y0_39 y0_40 y0_41 y0_42 y0_43 y0_45 y0_46 y0_47 y0_48 x0_5 x0_7 x0_8 x0_9 x0_10 x0_11 x0_12 x0_13 x0_14 x0_15 x0_16 x0_17 x0_19 x0_20 x0_27 x0_28 x0_29 x0_30 x0_31 x0_32 x0_35 x0_36 x0_37 x0_44 x0_49 x0_50 a1 a2 a3 e_a4)) (List.toArray [.ref h0, .int b1]) s 0 0 A) (F0 m 102 ls []) := by
                intro u102_5 a4_102 hf H locs hP hD hS ls hl
                refine lv_iinc (v := u102_5 + (1 : Int32)) (lv' := [(5, .int (u102_5 + (1 : Int32))), (0, .ref h0), (1, .int c29_1), (2, .int c29_2), (3, .int c39_3), (4, .int c51_4)]) hx hb dX11_layThrees_102 hl (k := 5) rfl (by rfl) (by decide) rfl (fun ls hl => ?_)
                refine lv_goto (tgt := 51) hx hb dX11_layThrees_105 (by decide) ?_
                exact ih51 _ _ hf _ _ hP hD hS _ (lv_sub hl [1, 2, 3, 4, 5, 0] rfl)
              intro u51_5 a4_51 hf H locs hP hD hS ls hl
              have hf : p_X11_layThrees_L51b F x0_5 a1 a2 a3 c29_1 c29_2 c39_3 c51_4 (p_X11_layThrees_L29 F x0_5 a1 a2 a3 c29_1 c29_2 n29) (p_X11_layThrees_L39 F x0_5 a1 a2 a3 c29_1 c29_2 c39_3 (p_X11_layThrees_L29 F x0_5 a1 a2 a3 c29_1 c29_2 n29) n39) (p_X11_layThrees_L51 F x0_5 a1 a2 a3 c29_1 c29_2 c39_3 c51_4 (p_X11_layThrees_L29 F x0_5 a1 a2 a3 c29_1 c29_2 n29) (p_X11_layThrees_L39 F x0_5 a1 a2 a3 c29_1 c29_2 c39_3 (p_X11_layThrees_L29 F x0_5 a1 a2 a3 c29_1 c29_2 n29) n39) n51) u51_5 a4_51 = some e_a4 := hf
              refine lv_iload hx hb dX11_layThrees_51 (lv_at hl 5 rfl) ?_
              refine lv_iload_n hx hb dX11_layThrees_53 rfl (lv_at hl 2 rfl) ?_
              refine lv_icmp_ge (tgt := 108) hx hb dX11_layThrees_54 (by decide) (fun c1 => ?_) (fun c1 => ?_)
              · have hf := of_pos hf c1
                refine lv_iinc (v := c51_4 + (1 : Int32)) (lv' := [(4, .int (c51_4 + (1 : Int32))), (0, .ref h0), (1, .int c29_1), (2, .int c29_2), (3, .int c39_3), (5, .int u51_5)]) hx hb dX11_layThrees_108 hl (k := 4) rfl (by rfl) (by decide) rfl (fun ls hl => ?_)
                refine lv_goto (tgt := 39) hx hb dX11_layThrees_111 (by decide) ?_
                exact ih39 _ _ hf _ _ hP hD hS _ (lv_sub hl [1, 2, 3, 4, 0] rfl)
              · have hf := of_neg hf c1
                refine lv_iload_n hx hb dX11_layThrees_57 rfl (lv_at hl 3 rfl) ?_
                refine lv_iload_n hx hb dX11_layThrees_58 rfl (lv_at hl 1 rfl) ?_
                refine lv_icmp_eq (tgt := 102) hx hb dX11_layThrees_59 (by decide) (fun c2 => ?_) (fun c2 => ?_)
                · have hf := of_pos hf c2
                  exact kJ102 _ _ hf _ _ hP hD hS _ (lv_sub hl [0, 1, 2, 3, 4, 5] rfl)
                · have hf := of_neg hf c2
                  refine lv_iload hx hb dX11_layThrees_62 (lv_at hl 4 rfl) ?_
                  refine lv_iload_n hx hb dX11_layThrees_64 rfl (lv_at hl 1 rfl) ?_
                  refine lv_icmp_eq (tgt := 102) hx hb dX11_layThrees_65 (by decide) (fun c3 => ?_) (fun c3 => ?_)
                  · have hf := of_pos hf c3
                    exact kJ102 _ _ hf _ _ hP hD hS _ (lv_sub hl [0, 1, 2, 3, 4, 5] rfl)
                  · have hf := of_neg hf c3
                    refine lv_iload hx hb dX11_layThrees_68 (lv_at hl 5 rfl) ?_
                    refine lv_iload_n hx hb dX11_layThrees_70 rfl (lv_at hl 1 rfl) ?_
                    refine lv_icmp_eq (tgt := 102) hx hb dX11_layThrees_71 (by decide) (fun c4 => ?_) (fun c4 => ?_)
                    · have hf := of_pos hf c4
                      exact kJ102 _ _ hf _ _ hP hD hS _ (lv_sub hl [0, 1, 2, 3, 4, 5] rfl)
                    · have hf := of_neg hf c4
                      refine lv_aload_n hx hb dX11_layThrees_74 rfl (lv_at hl 0 rfl) ?_
                      refine va_get (ci := 11) (v := .ref h4) (C := RX11) (T := TX11) (N := 51) hx hb ht0 iX11 hown hK hP 0 rfl rfl 34 (by decide) (ht0 _ wd_1440) (fun _ h9 => h9) rfl dX11_layThrees_75 ?_
                      refine lv_aload_n hx hb dX11_layThrees_78 rfl (lv_at hl 0 rfl) ?_
                      refine lv_iload_n hx hb dX11_layThrees_79 rfl (lv_at hl 3 rfl) ?_
                      obtain ⟨r_80_4, hc_r_80_4, hf⟩ := of_bnd hf
                      refine cl_Vi (w2 := (wW_X11_layThrees G h0 h1 h2 h3 h4 y0_3 y0_4 y0_6 y0_18 y0_21 y0_22 y0_23 y0_24 y0_25 y0_26 y0_33 y0_38 y0_39 y0_40 y0_41 y0_42 y0_43 y0_45 y0_46 y0_47 y0_48 x0_5 x0_7 x0_8 x0_9 x0_10 x0_11 x0_12 x0_13 x0_14 x0_15 x0_16 x0_17 x0_19 x0_20 x0_27 x0_28 x0_29 x0_30 x0_31 x0_32 x0_35 x0_36 x0_37 x0_44 x0_49 x0_50 a1 a2 a3 a4_51)) (As := [.int c39_3]) (rest := [.ref h4]) ⟨hx, hb, hml, hown, ht0⟩ (c_X11_columnAt l G h0 h1 h2 h3 y0_3 y0_4 y0_6 y0_18 y0_21 y0_22 y0_23 y0_24 y0_25 y0_26 y0_33 h4 y0_38 y0_39 y0_40 y0_41 y0_42 y0_43 y0_45 y0_46 y0_47 y0_48 _ x0_5 x0_7 x0_8 x0_9 x0_10 x0_11 x0_12 x0_13 x0_14 x0_15 x0_16 x0_17 x0_19 x0_20 x0_27 x0_28 x0_29 x0_30 x0_31 x0_32 x0_35 x0_36 x0_37 x0_44 x0_49 x0_50 a1 F c39_3 _ hc_r_80_4) yk_X11_columnAt wd_1402 ⟨rfl, rfl, by decide, by decide⟩ ⟨Nat.le_refl _, Nat.le_refl _⟩ hX hK hP hD hS hA [0, 1] [2, 3, 4] [3, 4, 0, 1, 2] (va_recv hK hP (ci := 11) (q0 := 0) rfl rfl) rfl rfl (by decide) rfl rfl rfl rfl rfl hl.1 rfl (Nat.le_of_ble_eq_true rfl) dX11_layThrees_80 (fun H locs hP hD hS => ?_)
                      refine lv_aload_n hx hb dX11_layThrees_83 rfl (lv_at hl 0 rfl) ?_
                      refine lv_iload hx hb dX11_layThrees_84 (lv_at hl 4 rfl) ?_
                      obtain ⟨r_86_5, hc_r_86_5, hf⟩ := of_bnd hf
                      refine cl_Vi (w2 := (wW_X11_layThrees G h0 h1 h2 h3 h4 y0_3 y0_4 y0_6 y0_18 y0_21 y0_22 y0_23 y0_24 y0_25 y0_26 y0_33 y0_38 y0_39 y0_40 y0_41 y0_42 y0_43 y0_45 y0_46 y0_47 y0_48 x0_5 x0_7 x0_8 x0_9 x0_10 x0_11 x0_12 x0_13 x0_14 x0_15 x0_16 x0_17 x0_19 x0_20 x0_27 x0_28 x0_29 x0_30 x0_31 x0_32 x0_35 x0_36 x0_37 x0_44 x0_49 x0_50 a1 a2 a3 a4_51)) (As := [.int c51_4]) (rest := [.int r_80_4, .ref h4]) ⟨hx, hb, hml, hown, ht0⟩ (c_X11_columnAt l G h0 h1 h2 h3 y0_3 y0_4 y0_6 y0_18 y0_21 y0_22 y0_23 y0_24 y0_25 y0_26 y0_33 h4 y0_38 y0_39 y0_40 y0_41 y0_42 y0_43 y0_45 y0_46 y0_47 y0_48 _ x0_5 x0_7 x0_8 x0_9 x0_10 x0_11 x0_12 x0_13 x0_14 x0_15 x0_16 x0_17 x0_19 x0_20 x0_27 x0_28 x0_29 x0_30 x0_31 x0_32 x0_35 x0_36 x0_37 x0_44 x0_49 x0_50 a1 F c51_4 _ hc_r_86_5) yk_X11_columnAt wd_1402 ⟨rfl, rfl, by decide, by decide⟩ ⟨Nat.le_refl _, Nat.le_refl _⟩ hX hK hP hD hS hA [0, 1] [2, 3, 4] [3, 4, 0, 1, 2] (va_recv hK hP (ci := 11) (q0 := 0) rfl rfl) rfl rfl (by decide) rfl rfl rfl rfl rfl hl.1 rfl (Nat.le_of_ble_eq_true rfl) dX11_layThrees_86 (fun H locs hP hD hS => ?_)
                      refine lv_ixor hx hb dX11_layThrees_89 ?_
                      refine lv_aload_n hx hb dX11_layThrees_90 rfl (lv_at hl 0 rfl) ?_
                      refine lv_iload hx hb dX11_layThrees_91 (lv_at hl 5 rfl) ?_
                      obtain ⟨r_93_6, hc_r_93_6, hf⟩ := of_bnd hf
                      refine cl_Vi (w2 := (wW_X11_layThrees G h0 h1 h2 h3 h4 y0_3 y0_4 y0_6 y0_18 y0_21 y0_22 y0_23 y0_24 y0_25 y0_26 y0_33 y0_38 y0_39 y0_40 y0_41 y0_42 y0_43 y0_45 y0_46 y0_47 y0_48 x0_5 x0_7 x0_8 x0_9 x0_10 x0_11 x0_12 x0_13 x0_14 x0_15 x0_16 x0_17 x0_19 x0_20 x0_27 x0_28 x0_29 x0_30 x0_31 x0_32 x0_35 x0_36 x0_37 x0_44 x0_49 x0_50 a1 a2 a3 a4_51)) (As := [.int u51_5]) (rest := [.int (r_80_4 ^^^ r_86_5), .ref h4]) ⟨hx, hb, hml, hown, ht0⟩ (c_X11_columnAt l G h0 h1 h2 h3 y0_3 y0_4 y0_6 y0_18 y0_21 y0_22 y0_23 y0_24 y0_25 y0_26 y0_33 h4 y0_38 y0_39 y0_40 y0_41 y0_42 y0_43 y0_45 y0_46 y0_47 y0_48 _ x0_5 x0_7 x0_8 x0_9 x0_10 x0_11 x0_12 x0_13 x0_14 x0_15 x0_16 x0_17 x0_19 x0_20 x0_27 x0_28 x0_29 x0_30 x0_31 x0_32 x0_35 x0_36 x0_37 x0_44 x0_49 x0_50 a1 F u51_5 _ hc_r_93_6) yk_X11_columnAt wd_1402 ⟨rfl, rfl, by decide, by decide⟩ ⟨Nat.le_refl _, Nat.le_refl _⟩ hX hK hP hD hS hA [0, 1] [2, 3, 4] [3, 4, 0, 1, 2] (va_recv hK hP (ci := 11) (q0 := 0) rfl rfl) rfl rfl (by decide) rfl rfl rfl rfl rfl hl.1 rfl (Nat.le_of_ble_eq_true rfl) dX11_layThrees_93 (fun H locs hP hD hS => ?_)
                      refine lv_ixor hx hb dX11_layThrees_96 ?_
                      refine lv_dup2_11 hx hb dX11_layThrees_97 rfl rfl ?_
                      obtain ⟨g8, hf⟩ := of_grd hf
                      refine va_iald hx hb hK hP 4 0 rfl rfl g8 dX11_layThrees_98 ?_
                      refine lv_iconst (v := (1 : Int32)) hx hb dX11_layThrees_99 (by decide) ?_
                      refine lv_iadd hx hb dX11_layThrees_100 ?_
                      obtain ⟨g9, hf⟩ := of_grd hf
                      refine va_iast hx hb hK hP hD hS 4 0 rfl rfl g9 dX11_layThrees_101 (fun H locs hP hD hS => ?_)
                      have hP : va_P G.1 vwCl (wW_X11_layThrees G h0 h1 h2 h3 h4 y0_3 y0_4 y0_6 y0_18 y0_21 y0_22 y0_23 y0_24 y0_25 y0_26 y0_33 y0_38 y0_39 y0_40 y0_41 y0_42 y0_43 y0_45 y0_46 y0_47 y0_48 x0_5 x0_7 x0_8 x0_9 x0_10 x0_11 x0_12 x0_13 x0_14 x0_15 x0_16 x0_17 x0_19 x0_20 x0_27 x0_28 x0_29 x0_30 x0_31 x0_32 x0_35 x0_36 x0_37 x0_44 x0_49 x0_50 a1 a2 a3 (upd a4_51 ((r_80_4 ^^^ r_86_5) ^^^ r_93_6).toNatClampNeg ((a4_51 ((r_80_4 ^^^ r_86_5) ^^^ r_93_6).toNatClampNeg) + (1 : Int32)))) H := hP
                      have hD : va_D A (wW_X11_layThrees G h0 h1 h2 h3 h4 y0_3 y0_4 y0_6 y0_18 y0_21 y0_22 y0_23 y0_24 y0_25 y0_26 y0_33 y0_38 y0_39 y0_40 y0_41 y0_42 y0_43 y0_45 y0_46 y0_47 y0_48 x0_5 x0_7 x0_8 x0_9 x0_10 x0_11 x0_12 x0_13 x0_14 x0_15 x0_16 x0_17 x0_19 x0_20 x0_27 x0_28 x0_29 x0_30 x0_31 x0_32 x0_35 x0_36 x0_37 x0_44 x0_49 x0_50 a1 a2 a3 (upd a4_51 ((r_80_4 ^^^ r_86_5) ^^^ r_93_6).toNatClampNeg ((a4_51 ((r_80_4 ^^^ r_86_5) ^^^ r_93_6).toNatClampNeg) + (1 : Int32)))) := hD
                      exact kJ102 _ _ hf _ _ hP hD hS _ (lv_sub hl [0, 1, 2, 3, 4, 5] rfl)
          intro u39_4 a4_39 hf H locs hP hD hS ls hl
          have hf : p_X11_layThrees_L39b F x0_5 a1 a2 a3 c29_1 c29_2 c39_3 (p_X11_layThrees_L29 F x0_5 a1 a2 a3 c29_1 c29_2 n29) (p_X11_layThrees_L39 F x0_5 a1 a2 a3 c29_1 c29_2 c39_3 (p_X11_layThrees_L29 F x0_5 a1 a2 a3 c29_1 c29_2 n29) n39) u39_4 a4_39 = some e_a4 := hf
          refine lv_iload hx hb dX11_layThrees_39 (lv_at hl 4 rfl) ?_
          refine lv_iload_n hx hb dX11_layThrees_41 rfl (lv_at hl 2 rfl) ?_
          refine lv_icmp_ge (tgt := 114) hx hb dX11_layThrees_42 (by decide) (fun c10 => ?_) (fun c10 => ?_)
          · have hf := of_pos hf c10
            refine lv_iinc (v := c39_3 + (1 : Int32)) (lv' := [(3, .int (c39_3 + (1 : Int32))), (0, .ref h0), (1, .int c29_1), (2, .int c29_2), (4, .int u39_4)]) hx hb dX11_layThrees_114 hl (k := 3) rfl (by rfl) (by decide) rfl (fun ls hl => ?_)
            refine lv_goto (tgt := 29) hx hb dX11_layThrees_117 (by decide) ?_
            exact ih29 _ _ hf _ _ hP hD hS _ (lv_sub hl [1, 2, 3, 0] rfl)
          · have hf := of_neg hf c10
            refine lv_iload hx hb dX11_layThrees_45 (lv_at hl 4 rfl) ?_
            refine lv_iconst (v := (1 : Int32)) hx hb dX11_layThrees_47 (by decide) ?_
            refine lv_iadd hx hb dX11_layThrees_48 ?_
            refine lv_istore (lv' := [(5, .int (u39_4 + (1 : Int32))), (0, .ref h0), (1, .int c29_1), (2, .int c29_2), (3, .int c39_3), (4, .int u39_4)]) hx hb dX11_layThrees_49 hl (by decide) rfl (fun ls hl => ?_)
            exact kL51 _ _ _ _ hf _ _ hP hD hS _ (lv_sub hl [1, 2, 3, 4, 5, 0] rfl)
      intro u29_3 a4_29 hf H locs hP hD hS ls hl
      have hf : p_X11_layThrees_L29b F x0_5 a1 a2 a3 c29_1 c29_2 (p_X11_layThrees_L29 F x0_5 a1 a2 a3 c29_1 c29_2 n29) u29_3 a4_29 = some e_a4 := hf
      refine lv_iload_n hx hb dX11_layThrees_29 rfl (lv_at hl 3 rfl) ?_
      refine lv_iload_n hx hb dX11_layThrees_30 rfl (lv_at hl 2 rfl) ?_
      refine lv_icmp_ge (tgt := 120) hx hb dX11_layThrees_31 (by decide) (fun c11 => ?_) (fun c11 => ?_)
      · have hf := of_pos hf c11
        cases hf
        exact ret_v hx hb hr hlk hK hP hD hS dX11_layThrees_120
      · have hf := of_neg hf c11
        refine lv_iload_n hx hb dX11_layThrees_34 rfl (lv_at hl 3 rfl) ?_
        refine lv_iconst (v := (1 : Int32)) hx hb dX11_layThrees_35 (by decide) ?_
        refine lv_iadd hx hb dX11_layThrees_36 ?_
        refine lv_istore (lv' := [(4, .int (u29_3 + (1 : Int32))), (0, .ref h0), (1, .int c29_1), (2, .int c29_2), (3, .int u29_3)]) hx hb dX11_layThrees_37 hl (by decide) rfl (fun ls hl => ?_)
        exact kL39 _ _ _ _ hf _ _ hP hD hS _ (lv_sub hl [1, 2, 3, 4, 0] rfl)
  have kL2 : ∀ (c2_1 : Int32) (n2 : Nat) (u2_2 : Int32) (a4_2 : Nat → Int32), p_X11_layThrees_L2 F x0_5 a1 a2 a3 c2_1 n2 u2_2 a4_2 = some e_a4 → ∀ (H : Heap) (locs : List Loc), va_P G.1 vwCl (wW_X11_layThrees G h0 h1 h2 h3 h4 y0_3 y0_4 y0_6 y0_18 y0_21 y0_22 y0_23 y0_24 y0_25 y0_26 y0_33 y0_38 y0_39 y0_40 y0_41 y0_42 y0_43 y0_45 y0_46 y0_47 y0_48 x0_5 x0_7 x0_8 x0_9 x0_10 x0_11 x0_12 x0_13 x0_14 x0_15 x0_16 x0_17 x0_19 x0_20 x0_27 x0_28 x0_29 x0_30 x0_31 x0_32 x0_35 x0_36 x0_37 x0_44 x0_49 x0_50 a1 a2 a3 a4_2) H → va_D A (wW_X11_layThrees G h0 h1 h2 h3 h4 y0_3 y0_4 y0_6 y0_18 y0_21 y0_22 y0_23 y0_24 y0_25 y0_26 y0_33 y0_38 y0_39 y0_40 y0_41 y0_42 y0_43 y0_45 y0_46 y0_47 y0_48 x0_5 x0_7 x0_8 x0_9 x0_10 x0_11 x0_12 x0_13 x0_14 x0_15 x0_16 x0_17 x0_19 x0_20 x0_27 x0_28 x0_29 x0_30 x0_31 x0_32 x0_35 x0_36 x0_37 x0_44 x0_49 x0_50 a1 a2 a3 a4_2) → va_S A s.heap H locs → ∀ ls : Array Slot, lv_has ls 6 [(0, .ref h0), (1, .int c2_1), (2, .int u2_2)] → W p l e ({ frames := 2, cells := 0, slots := 0, locals := 40 } : Room) s m (List.toArray [.ref h0, .int b1]) below meth c H locs 0 0 (MQ below (QvS G A (wW_X11_layThrees G h0 h1 h2 h3 h4 y0_3 y0_4 y0_6 y0_18 y0_21 y0_22 y0_23 y0_24 y0_25 y0_26 y0_33 y0_38 y0_39 y0_40 y0_41 y0_42 y0_43 y0_45 y0_46 y0_47 y0_48 x0_5 x0_7 x0_8 x0_9 x0_10 x0_11 x0_12 x0_13 x0_14 x0_15 x0_16 x0_17 x0_19 x0_20 x0_27 x0_28 x0_29 x0_30 x0_31 x0_32 x0_35 x0_36 x0_37 x0_44 x0_49 x0_50 a1 a2 a3 e_a4)) (List.toArray [.ref h0, .int b1]) s 0 0 A) (F0 m 2 ls []) := by
    intro c2_1 n2
    induction n2 with
    | zero =>
      intro u2_2 a4_2 hf
      cases hf
    | succ n2 ih2 =>
      intro u2_2 a4_2 hf H locs hP hD hS ls hl
      have hf : p_X11_layThrees_L2b F x0_5 a1 a2 a3 c2_1 (p_X11_layThrees_L2 F x0_5 a1 a2 a3 c2_1 n2) u2_2 a4_2 = some e_a4 := hf
      refine lv_iload_n hx hb dX11_layThrees_2 rfl (lv_at hl 2 rfl) ?_
      refine lv_sipush (v := (256 : Int32)) hx hb dX11_layThrees_3 (by decide) ?_
      refine lv_icmp_ge (tgt := 22) hx hb dX11_layThrees_6 (by decide) (fun c12 => ?_) (fun c12 => ?_)
      · have hf := of_pos hf c12
        refine lv_aload_n hx hb dX11_layThrees_22 rfl (lv_at hl 0 rfl) ?_
        obtain ⟨r_23_12, hc_r_23_12, hf⟩ := of_bnd hf
        refine cl_Vi (w2 := (wW_X11_layThrees G h0 h1 h2 h3 h4 y0_3 y0_4 y0_6 y0_18 y0_21 y0_22 y0_23 y0_24 y0_25 y0_26 y0_33 y0_38 y0_39 y0_40 y0_41 y0_42 y0_43 y0_45 y0_46 y0_47 y0_48 x0_5 x0_7 x0_8 x0_9 x0_10 x0_11 x0_12 x0_13 x0_14 x0_15 x0_16 x0_17 x0_19 x0_20 x0_27 x0_28 x0_29 x0_30 x0_31 x0_32 x0_35 x0_36 x0_37 x0_44 x0_49 x0_50 a1 a2 a3 a4_2)) (As := []) (rest := []) ⟨hx, hb, hml, hown, ht0⟩ (c_X11_places l G h0 h2 h3 h1 y0_3 y0_4 y0_6 y0_18 y0_21 y0_22 y0_23 y0_24 y0_25 y0_26 y0_33 h4 y0_38 y0_39 y0_40 y0_41 y0_42 y0_43 y0_45 y0_46 y0_47 y0_48 _ x0_5 x0_7 x0_8 x0_9 x0_10 x0_11 x0_12 x0_13 x0_14 x0_15 x0_16 x0_17 x0_19 x0_20 x0_27 x0_28 x0_29 x0_30 x0_31 x0_32 x0_35 x0_36 x0_37 x0_44 x0_49 x0_50 a2 a3 F _ hc_r_23_12) yk_X11_places wd_1572 ⟨rfl, rfl, by decide, by decide⟩ ⟨Nat.le_refl _, Nat.le_refl _⟩ hX hK hP hD hS hA [0, 2, 3] [1, 4] [2, 0, 3, 4, 1] (va_recv hK hP (ci := 11) (q0 := 0) rfl rfl) rfl rfl (by decide) rfl rfl rfl rfl rfl hl.1 rfl (Nat.le_of_ble_eq_true rfl) dX11_layThrees_23 (fun H locs hP hD hS => ?_)
        refine lv_istore_n (lv' := [(2, .int r_23_12), (0, .ref h0), (1, .int c2_1)]) hx hb dX11_layThrees_26 rfl hl (by decide) rfl (fun ls hl => ?_)
        refine lv_iconst (v := (0 : Int32)) hx hb dX11_layThrees_27 (by decide) ?_
        refine lv_istore_n (lv' := [(3, .int (0 : Int32)), (2, .int r_23_12), (0, .ref h0), (1, .int c2_1)]) hx hb dX11_layThrees_28 rfl hl (by decide) rfl (fun ls hl => ?_)
        exact kL29 _ _ _ _ _ hf _ _ hP hD hS _ (lv_sub hl [2, 3, 1, 0] rfl)
      · have hf := of_neg hf c12
        refine lv_aload_n hx hb dX11_layThrees_9 rfl (lv_at hl 0 rfl) ?_
        refine va_get (ci := 11) (v := .ref h4) (C := RX11) (T := TX11) (N := 51) hx hb ht0 iX11 hown hK hP 0 rfl rfl 34 (by decide) (ht0 _ wd_1440) (fun _ h9 => h9) rfl dX11_layThrees_10 ?_
        refine lv_iload_n hx hb dX11_layThrees_13 rfl (lv_at hl 2 rfl) ?_
        refine lv_iconst (v := (0 : Int32)) hx hb dX11_layThrees_14 (by decide) ?_
        obtain ⟨g14, hf⟩ := of_grd hf
        refine va_iast hx hb hK hP hD hS 4 0 rfl rfl g14 dX11_layThrees_15 (fun H locs hP hD hS => ?_)
        have hP : va_P G.1 vwCl (wW_X11_layThrees G h0 h1 h2 h3 h4 y0_3 y0_4 y0_6 y0_18 y0_21 y0_22 y0_23 y0_24 y0_25 y0_26 y0_33 y0_38 y0_39 y0_40 y0_41 y0_42 y0_43 y0_45 y0_46 y0_47 y0_48 x0_5 x0_7 x0_8 x0_9 x0_10 x0_11 x0_12 x0_13 x0_14 x0_15 x0_16 x0_17 x0_19 x0_20 x0_27 x0_28 x0_29 x0_30 x0_31 x0_32 x0_35 x0_36 x0_37 x0_44 x0_49 x0_50 a1 a2 a3 (upd a4_2 u2_2.toNatClampNeg (0 : Int32))) H := hP
        have hD : va_D A (wW_X11_layThrees G h0 h1 h2 h3 h4 y0_3 y0_4 y0_6 y0_18 y0_21 y0_22 y0_23 y0_24 y0_25 y0_26 y0_33 y0_38 y0_39 y0_40 y0_41 y0_42 y0_43 y0_45 y0_46 y0_47 y0_48 x0_5 x0_7 x0_8 x0_9 x0_10 x0_11 x0_12 x0_13 x0_14 x0_15 x0_16 x0_17 x0_19 x0_20 x0_27 x0_28 x0_29 x0_30 x0_31 x0_32 x0_35 x0_36 x0_37 x0_44 x0_49 x0_50 a1 a2 a3 (upd a4_2 u2_2.toNatClampNeg (0 : Int32))) := hD
        refine lv_iinc (v := u2_2 + (1 : Int32)) (lv' := [(2, .int (u2_2 + (1 : Int32))), (0, .ref h0), (1, .int c2_1)]) hx hb dX11_layThrees_16 hl (k := 2) rfl (by rfl) (by decide) rfl (fun ls hl => ?_)
        refine lv_goto (tgt := 2) hx hb dX11_layThrees_19 (by decide) ?_
        exact ih2 _ _ hf _ _ hP hD hS _ (lv_sub hl [1, 2, 0] rfl)
  refine lv_iconst (v := (0 : Int32)) hx hb dX11_layThrees_0 (by decide) ?_
  refine lv_istore_n (lv' := [(2, .int (0 : Int32)), (0, .ref h0), (1, .int b1)]) hx hb dX11_layThrees_1 rfl hl (by decide) rfl (fun ls hl => ?_)
  exact kL2 _ _ _ _ hf _ _ hP hD hS _ (lv_sub hl [1, 2, 0] rfl)
theorem yk_X11_layThrees : ykV yX11_layThrees RX11 cX11_layThrees 6 none 1 := ⟨wd_1780, wd_105, wd_142, wd_1781, rfl, by decide +kernel, by decide +kernel, by decide +kernel⟩
theorem dX11_missed_0 : decode cX11_missed 0 = .ok (.iconst 0, 1) := by decide +kernel
theorem dX11_missed_1 : decode cX11_missed 1 = .ok (.istore_n 1, 1) := by decide +kernel
theorem dX11_missed_2 : decode cX11_missed 2 = .ok (.aload_n 0, 1) := by decide +kernel
theorem dX11_missed_3 : decode cX11_missed 3 = .ok (.iconst (-1), 1) := by decide +kernel
theorem dX11_missed_4 : decode cX11_missed 4 = .ok (.invokevirtual 411, 3) := by decide +kernel
theorem dX11_missed_7 : decode cX11_missed 7 = .ok (.iconst 0, 1) := by decide +kernel
theorem dX11_missed_8 : decode cX11_missed 8 = .ok (.istore_n 2, 1) := by decide +kernel
theorem dX11_missed_9 : decode cX11_missed 9 = .ok (.iload_n 2, 1) := by decide +kernel
theorem dX11_missed_10 : decode cX11_missed 10 = .ok (.aload_n 0, 1) := by decide +kernel
theorem dX11_missed_11 : decode cX11_missed 11 = .ok (.invokevirtual 217, 3) := by decide +kernel
theorem dX11_missed_14 : decode cX11_missed 14 = .ok (.if_icmp .ge 22, 3) := by decide +kernel
theorem dX11_missed_17 : decode cX11_missed 17 = .ok (.iload_n 1, 1) := by decide +kernel
theorem dX11_missed_18 : decode cX11_missed 18 = .ok (.aload_n 0, 1) := by decide +kernel
theorem dX11_missed_19 : decode cX11_missed 19 = .ok (.getfield 58, 3) := by decide +kernel
theorem dX11_missed_22 : decode cX11_missed 22 = .ok (.aload_n 0, 1) := by decide +kernel
theorem dX11_missed_23 : decode cX11_missed 23 = .ok (.iload_n 2, 1) := by decide +kernel
theorem dX11_missed_24 : decode cX11_missed 24 = .ok (.invokevirtual 269, 3) := by decide +kernel
theorem dX11_missed_27 : decode cX11_missed 27 = .ok (.iaload, 1) := by decide +kernel
theorem dX11_missed_28 : decode cX11_missed 28 = .ok (.iadd, 1) := by decide +kernel
theorem dX11_missed_29 : decode cX11_missed 29 = .ok (.istore_n 1, 1) := by decide +kernel
theorem dX11_missed_30 : decode cX11_missed 30 = .ok (.iinc 2 1, 3) := by decide +kernel
theorem dX11_missed_33 : decode cX11_missed 33 = .ok (.goto (-24), 3) := by decide +kernel
theorem dX11_missed_36 : decode cX11_missed 36 = .ok (.iload_n 1, 1) := by decide +kernel
theorem dX11_missed_37 : decode cX11_missed 37 = .ok (.ireturn, 1) := by decide +kernel
def wW_X11_missed (G : GG) (h0 h1 h2 h3 h4 y0_3 y0_4 y0_6 y0_18 y0_21 y0_22 y0_23 y0_24 y0_25 y0_26 y0_33 y0_38 y0_39 y0_40 y0_41 y0_42 y0_43 y0_45 y0_46 y0_47 y0_48 : Nat) (x0_5 : Int32) (x0_7 : Int32) (x0_8 : Int32) (x0_9 : Int32) (x0_10 : Int32) (x0_11 : Int32) (x0_12 : Int32) (x0_13 : Int32) (x0_14 : Int32) (x0_15 : Int32) (x0_16 : Int32) (x0_17 : Int32) (x0_19 : Int32) (x0_20 : Int32) (x0_27 : Int32) (x0_28 : Int32) (x0_29 : Int32) (x0_30 : Int32) (x0_31 : Int32) (x0_32 : Int32) (x0_35 : Int32) (x0_36 : Int32) (x0_37 : Int32) (x0_44 : Int32) (x0_49 : Int32) (x0_50 : Int32) (a1 : Nat → Int32) (a2 : Nat → Int32) (a3 : Nat → Int32) (a4 : Nat → Int32) : va_W := [(h0, .inr (11, [.ref h1, .ref h2, .ref h3, .ref y0_3, .ref y0_4, .int x0_5, .ref y0_6, .int x0_7, .int x0_8, .int x0_9, .int x0_10, .int x0_11, .int x0_12, .int x0_13, .int x0_14, .int x0_15, .int x0_16, .int x0_17, .ref y0_18, .int x0_19, .int x0_20, .ref y0_21, .ref y0_22, .ref y0_23, .ref y0_24, .ref y0_25, .ref y0_26, .int x0_27, .int x0_28, .int x0_29, .int x0_30, .int x0_31, .int x0_32, .ref y0_33, .ref h4, .int x0_35, .int x0_36, .int x0_37, .ref y0_38, .ref y0_39, .ref y0_40, .ref y0_41, .ref y0_42, .ref y0_43, .int x0_44, .ref y0_45, .ref y0_46, .ref y0_47, .ref y0_48, .int x0_49, .int x0_50])), (h1, .inl (G.2.1, 121, .inl a1)), (h2, .inl (G.2.1, 2, .inl a2)), (h3, .inl (G.2.1, 2, .inl a3)), (h4, .inl (G.2.1, 256, .inl a4))]
set_option maxHeartbeats 4000000 in
set_option maxRecDepth 100000 in
theorem c_X11_missed (l : Launch) (G : GG) (h0 h1 h2 h3 h4 y0_3 y0_4 y0_6 y0_18 y0_21 y0_22 y0_23 y0_24 y0_25 y0_26 y0_33 y0_38 y0_39 y0_40 y0_41 y0_42 y0_43 y0_45 y0_46 y0_47 y0_48 : Nat) (sz : Nat) (x0_5 : Int32) (x0_7 : Int32) (x0_8 : Int32) (x0_9 : Int32) (x0_10 : Int32) (x0_11 : Int32) (x0_12 : Int32) (x0_13 : Int32) (x0_14 : Int32) (x0_15 : Int32) (x0_16 : Int32) (x0_17 : Int32) (x0_19 : Int32) (x0_20 : Int32) (x0_27 : Int32) (x0_28 : Int32) (x0_29 : Int32) (x0_30 : Int32) (x0_31 : Int32) (x0_32 : Int32) (x0_35 : Int32) (x0_36 : Int32) (x0_37 : Int32) (x0_44 : Int32) (x0_49 : Int32) (x0_50 : Int32) (a1 : Nat → Int32) (a2 : Nat → Int32) (a3 : Nat → Int32) (a4 : Nat → Int32) (F : Nat)   (r0 : Int32) (e_a4 : Nat → Int32) (hf : p_X11_missed F x0_5 a1 a2 a3 a4  = some (r0, e_a4)) : Met l yX11_missed (.code yX11_missed cX11_missed 3 (some .int) :: gtbl) ({ frames := 3, cells := 0, slots := 0, locals := 65 } : Room) (PcS G [.ref h0] (wW_X11_missed G h0 h1 h2 h3 h4 y0_3 y0_4 y0_6 y0_18 y0_21 y0_22 y0_23 y0_24 y0_25 y0_26 y0_33 y0_38 y0_39 y0_40 y0_41 y0_42 y0_43 y0_45 y0_46 y0_47 y0_48 x0_5 x0_7 x0_8 x0_9 x0_10 x0_11 x0_12 x0_13 x0_14 x0_15 x0_16 x0_17 x0_19 x0_20 x0_27 x0_28 x0_29 x0_30 x0_31 x0_32 x0_35 x0_36 x0_37 x0_44 x0_49 x0_50 a1 a2 a3 a4) sz) (QiS G r0 (va_A (wW_X11_missed G h0 h1 h2 h3 h4 y0_3 y0_4 y0_6 y0_18 y0_21 y0_22 y0_23 y0_24 y0_25 y0_26 y0_33 y0_38 y0_39 y0_40 y0_41 y0_42 y0_43 y0_45 y0_46 y0_47 y0_48 x0_5 x0_7 x0_8 x0_9 x0_10 x0_11 x0_12 x0_13 x0_14 x0_15 x0_16 x0_17 x0_19 x0_20 x0_27 x0_28 x0_29 x0_30 x0_31 x0_32 x0_35 x0_36 x0_37 x0_44 x0_49 x0_50 a1 a2 a3 a4) sz) (wW_X11_missed G h0 h1 h2 h3 h4 y0_3 y0_4 y0_6 y0_18 y0_21 y0_22 y0_23 y0_24 y0_25 y0_26 y0_33 y0_38 y0_39 y0_40 y0_41 y0_42 y0_43 y0_45 y0_46 y0_47 y0_48 x0_5 x0_7 x0_8 x0_9 x0_10 x0_11 x0_12 x0_13 x0_14 x0_15 x0_16 x0_17 x0_19 x0_20 x0_27 x0_28 x0_29 x0_30 x0_31 x0_32 x0_35 x0_36 x0_37 x0_44 x0_49 x0_50 a1 a2 a3 e_a4)) 0 0 (va_A (wW_X11_missed G h0 h1 h2 h3 h4 y0_3 y0_4 y0_6 y0_18 y0_21 y0_22 y0_23 y0_24 y0_25 y0_26 y0_33 y0_38 y0_39 y0_40 y0_41 y0_42 y0_43 y0_45 y0_46 y0_47 y0_48 x0_5 x0_7 x0_8 x0_9 x0_10 x0_11 x0_12 x0_13 x0_14 x0_15 x0_16 x0_17 x0_19 x0_20 x0_27 x0_28 x0_29 x0_30 x0_31 x0_32 x0_35 x0_36 x0_37 x0_44 x0_49 x0_50 a1 a2 a3 a4) sz) := by
  refine met_start (by decide) (Nat.le_of_ble_eq_true rfl) ?_
  intro p e s m below meth c hC hr hlk hnm hK hP hD hA hS hX ls hl
  obtain ⟨hx, hb, hml, hown, ht0⟩ := hC
  have hown : s.vm.findClass RX11 = some m.cls := hown
  generalize va_A (wW_X11_missed G h0 h1 h2 h3 h4 y0_3 y0_4 y0_6 y0_18 y0_21 y0_22 y0_23 y0_24 y0_25 y0_26 y0_33 y0_38 y0_39 y0_40 y0_41 y0_42 y0_43 y0_45 y0_46 y0_47 y0_48 x0_5 x0_7 x0_8 x0_9 x0_10 x0_11 x0_12 x0_13 x0_14 x0_15 x0_16 x0_17 x0_19 x0_20 x0_27 x0_28 x0_29 x0_30 x0_31 x0_32 x0_35 x0_36 x0_37 x0_44 x0_49 x0_50 a1 a2 a3 a4) sz = A at hD hA hS hX ⊢
  have hl : lv_has ls 3 [(0, .ref h0)] := hl
  have hf : p_X11_missed F x0_5 a1 a2 a3 a4  = some (r0, e_a4) := hf
  have kL9 : ∀ (n9 : Nat) (u9_1 : Int32) (u9_2 : Int32) (a4_9 : Nat → Int32), p_X11_missed_L9 F x0_5 a1 a2 a3 n9 u9_1 u9_2 a4_9 = some (r0, e_a4) → ∀ (H : Heap) (locs : List Loc), va_P G.1 vwCl (wW_X11_missed G h0 h1 h2 h3 h4 y0_3 y0_4 y0_6 y0_18 y0_21 y0_22 y0_23 y0_24 y0_25 y0_26 y0_33 y0_38 y0_39 y0_40 y0_41 y0_42 y0_43 y0_45 y0_46 y0_47 y0_48 x0_5 x0_7 x0_8 x0_9 x0_10 x0_11 x0_12 x0_13 x0_14 x0_15 x0_16 x0_17 x0_19 x0_20 x0_27 x0_28 x0_29 x0_30 x0_31 x0_32 x0_35 x0_36 x0_37 x0_44 x0_49 x0_50 a1 a2 a3 a4_9) H → va_D A (wW_X11_missed G h0 h1 h2 h3 h4 y0_3 y0_4 y0_6 y0_18 y0_21 y0_22 y0_23 y0_24 y0_25 y0_26 y0_33 y0_38 y0_39 y0_40 y0_41 y0_42 y0_43 y0_45 y0_46 y0_47 y0_48 x0_5 x0_7 x0_8 x0_9 x0_10 x0_11 x0_12 x0_13 x0_14 x0_15 x0_16 x0_17 x0_19 x0_20 x0_27 x0_28 x0_29 x0_30 x0_31 x0_32 x0_35 x0_36 x0_37 x0_44 x0_49 x0_50 a1 a2 a3 a4_9) → va_S A s.heap H locs → ∀ ls : Array Slot, lv_has ls 3 [(0, .ref h0), (1, .int u9_1), (2, .int u9_2)] → W p l e ({ frames := 3, cells := 0, slots := 0, locals := 65 } : Room) s m (List.toArray [.ref h0]) below meth c H locs 0 0 (MQ below (QiS G r0 A (wW_X11_missed G h0 h1 h2 h3 h4 y0_3 y0_4 y0_6 y0_18 y0_21 y0_22 y0_23 y0_24 y0_25 y0_26 y0_33 y0_38 y0_39 y0_40 y0_41 y0_42 y0_43 y0_45 y0_46 y0_47 y0_48 x0_5 x0_7 x0_8 x0_9 x0_10 x0_11 x0_12 x0_13 x0_14 x0_15 x0_16 x0_17 x0_19 x0_20 x0_27 x0_28 x0_29 x0_30 x0_31 x0_32 x0_35 x0_36 x0_37 x0_44 x0_49 x0_50 a1 a2 a3 e_a4)) (List.toArray [.ref h0]) s 0 0 A) (F0 m 9 ls []) := by
    intro n9
    induction n9 with
    | zero =>
      intro u9_1 u9_2 a4_9 hf
      cases hf
    | succ n9 ih9 =>
      intro u9_1 u9_2 a4_9 hf H locs hP hD hS ls hl
      have hf : p_X11_missed_L9b F x0_5 a1 a2 a3 (p_X11_missed_L9 F x0_5 a1 a2 a3 n9) u9_1 u9_2 a4_9 = some (r0, e_a4) := hf
      refine lv_iload_n hx hb dX11_missed_9 rfl (lv_at hl 2 rfl) ?_
      refine lv_aload_n hx hb dX11_missed_10 rfl (lv_at hl 0 rfl) ?_
      obtain ⟨r_11_0, hc_r_11_0, hf⟩ := of_bnd hf
      refine cl_Vi (w2 := (wW_X11_missed G h0 h1 h2 h3 h4 y0_3 y0_4 y0_6 y0_18 y0_21 y0_22 y0_23 y0_24 y0_25 y0_26 y0_33 y0_38 y0_39 y0_40 y0_41 y0_42 y0_43 y0_45 y0_46 y0_47 y0_48 x0_5 x0_7 x0_8 x0_9 x0_10 x0_11 x0_12 x0_13 x0_14 x0_15 x0_16 x0_17 x0_19 x0_20 x0_27 x0_28 x0_29 x0_30 x0_31 x0_32 x0_35 x0_36 x0_37 x0_44 x0_49 x0_50 a1 a2 a3 a4_9)) (As := []) (rest := [.int u9_2]) ⟨hx, hb, hml, hown, ht0⟩ (c_X11_places l G h0 h2 h3 h1 y0_3 y0_4 y0_6 y0_18 y0_21 y0_22 y0_23 y0_24 y0_25 y0_26 y0_33 h4 y0_38 y0_39 y0_40 y0_41 y0_42 y0_43 y0_45 y0_46 y0_47 y0_48 _ x0_5 x0_7 x0_8 x0_9 x0_10 x0_11 x0_12 x0_13 x0_14 x0_15 x0_16 x0_17 x0_19 x0_20 x0_27 x0_28 x0_29 x0_30 x0_31 x0_32 x0_35 x0_36 x0_37 x0_44 x0_49 x0_50 a2 a3 F _ hc_r_11_0) yk_X11_places wd_1572 ⟨rfl, rfl, by decide, by decide⟩ ⟨Nat.le_refl _, Nat.le_refl _⟩ hX hK hP hD hS hA [0, 2, 3] [1, 4] [2, 0, 3, 4, 1] (va_recv hK hP (ci := 11) (q0 := 0) rfl rfl) rfl rfl (by decide) rfl rfl rfl rfl rfl hl.1 rfl (Nat.le_of_ble_eq_true rfl) dX11_missed_11 (fun H locs hP hD hS => ?_)
      refine lv_icmp_ge (tgt := 36) hx hb dX11_missed_14 (by decide) (fun c2 => ?_) (fun c2 => ?_)
      · have hf := of_pos hf c2
        refine lv_iload_n hx hb dX11_missed_36 rfl (lv_at hl 1 rfl) ?_
        cases hf
        exact ret_i hx hb hr hlk hK hP hD hS dX11_missed_37
      · have hf := of_neg hf c2
        refine lv_iload_n hx hb dX11_missed_17 rfl (lv_at hl 1 rfl) ?_
        refine lv_aload_n hx hb dX11_missed_18 rfl (lv_at hl 0 rfl) ?_
        refine va_get (ci := 11) (v := .ref h4) (C := RX11) (T := TX11) (N := 51) hx hb ht0 iX11 hown hK hP 0 rfl rfl 34 (by decide) (ht0 _ wd_1440) (fun _ h9 => h9) rfl dX11_missed_19 ?_
        refine lv_aload_n hx hb dX11_missed_22 rfl (lv_at hl 0 rfl) ?_
        refine lv_iload_n hx hb dX11_missed_23 rfl (lv_at hl 2 rfl) ?_
        obtain ⟨r_24_2, hc_r_24_2, hf⟩ := of_bnd hf
        refine cl_Vi (w2 := (wW_X11_missed G h0 h1 h2 h3 h4 y0_3 y0_4 y0_6 y0_18 y0_21 y0_22 y0_23 y0_24 y0_25 y0_26 y0_33 y0_38 y0_39 y0_40 y0_41 y0_42 y0_43 y0_45 y0_46 y0_47 y0_48 x0_5 x0_7 x0_8 x0_9 x0_10 x0_11 x0_12 x0_13 x0_14 x0_15 x0_16 x0_17 x0_19 x0_20 x0_27 x0_28 x0_29 x0_30 x0_31 x0_32 x0_35 x0_36 x0_37 x0_44 x0_49 x0_50 a1 a2 a3 a4_9)) (As := [.int u9_2]) (rest := [.ref h4, .int u9_1]) ⟨hx, hb, hml, hown, ht0⟩ (c_X11_columnAt l G h0 h1 h2 h3 y0_3 y0_4 y0_6 y0_18 y0_21 y0_22 y0_23 y0_24 y0_25 y0_26 y0_33 h4 y0_38 y0_39 y0_40 y0_41 y0_42 y0_43 y0_45 y0_46 y0_47 y0_48 _ x0_5 x0_7 x0_8 x0_9 x0_10 x0_11 x0_12 x0_13 x0_14 x0_15 x0_16 x0_17 x0_19 x0_20 x0_27 x0_28 x0_29 x0_30 x0_31 x0_32 x0_35 x0_36 x0_37 x0_44 x0_49 x0_50 a1 F u9_2 _ hc_r_24_2) yk_X11_columnAt wd_1402 ⟨rfl, rfl, by decide, by decide⟩ ⟨Nat.le_refl _, Nat.le_refl _⟩ hX hK hP hD hS hA [0, 1] [2, 3, 4] [3, 4, 0, 1, 2] (va_recv hK hP (ci := 11) (q0 := 0) rfl rfl) rfl rfl (by decide) rfl rfl rfl rfl rfl hl.1 rfl (Nat.le_of_ble_eq_true rfl) dX11_missed_24 (fun H locs hP hD hS => ?_)
        obtain ⟨g4, hf⟩ := of_grd hf
        refine va_iald hx hb hK hP 4 0 rfl rfl g4 dX11_missed_27 ?_
        refine lv_iadd hx hb dX11_missed_28 ?_
        refine lv_istore_n (lv' := [(1, .int (u9_1 + (a4_9 r_24_2.toNatClampNeg))), (0, .ref h0), (2, .int u9_2)]) hx hb dX11_missed_29 rfl hl (by decide) rfl (fun ls hl => ?_)
        refine lv_iinc (v := u9_2 + (1 : Int32)) (lv' := [(2, .int (u9_2 + (1 : Int32))), (1, .int (u9_1 + (a4_9 r_24_2.toNatClampNeg))), (0, .ref h0)]) hx hb dX11_missed_30 hl (k := 2) rfl (by rfl) (by decide) rfl (fun ls hl => ?_)
        refine lv_goto (tgt := 9) hx hb dX11_missed_33 (by decide) ?_
        exact ih9 _ _ _ hf _ _ hP hD hS _ (lv_sub hl [2, 1, 0] rfl)
  refine lv_iconst (v := (0 : Int32)) hx hb dX11_missed_0 (by decide) ?_
  refine lv_istore_n (lv' := [(1, .int (0 : Int32)), (0, .ref h0)]) hx hb dX11_missed_1 rfl hl (by decide) rfl (fun ls hl => ?_)
  refine lv_aload_n hx hb dX11_missed_2 rfl (lv_at hl 1 rfl) ?_
  refine lv_iconst (v := (-1 : Int32)) hx hb dX11_missed_3 (by decide) ?_
  obtain ⟨r_4_4_a4, hc_r_4_4, hf⟩ := of_bnd hf
  refine cl_Vv (w2 := (wW_X11_missed G h0 h1 h2 h3 h4 y0_3 y0_4 y0_6 y0_18 y0_21 y0_22 y0_23 y0_24 y0_25 y0_26 y0_33 y0_38 y0_39 y0_40 y0_41 y0_42 y0_43 y0_45 y0_46 y0_47 y0_48 x0_5 x0_7 x0_8 x0_9 x0_10 x0_11 x0_12 x0_13 x0_14 x0_15 x0_16 x0_17 x0_19 x0_20 x0_27 x0_28 x0_29 x0_30 x0_31 x0_32 x0_35 x0_36 x0_37 x0_44 x0_49 x0_50 a1 a2 a3 r_4_4_a4)) (As := [.int (-1 : Int32)]) (rest := []) ⟨hx, hb, hml, hown, ht0⟩ (c_X11_layThrees l G h0 h1 h2 h3 h4 y0_3 y0_4 y0_6 y0_18 y0_21 y0_22 y0_23 y0_24 y0_25 y0_26 y0_33 y0_38 y0_39 y0_40 y0_41 y0_42 y0_43 y0_45 y0_46 y0_47 y0_48 _ x0_5 x0_7 x0_8 x0_9 x0_10 x0_11 x0_12 x0_13 x0_14 x0_15 x0_16 x0_17 x0_19 x0_20 x0_27 x0_28 x0_29 x0_30 x0_31 x0_32 x0_35 x0_36 x0_37 x0_44 x0_49 x0_50 a1 a2 a3 a4 F (-1 : Int32) _ hc_r_4_4) yk_X11_layThrees wd_1778 ⟨rfl, rfl, by decide, by decide⟩ ⟨Nat.le_refl _, Nat.le_refl _⟩ hX hK hP hD hS hA [0, 1, 2, 3, 4] [] [0, 1, 2, 3, 4] (va_recv hK hP (ci := 11) (q0 := 0) rfl rfl) rfl rfl (by decide) rfl rfl rfl rfl rfl hl.1 rfl (Nat.le_of_ble_eq_true rfl) dX11_missed_4 (fun H locs hP hD hS => ?_)
  refine lv_iconst (v := (0 : Int32)) hx hb dX11_missed_7 (by decide) ?_
  refine lv_istore_n (lv' := [(2, .int (0 : Int32)), (1, .int (0 : Int32)), (0, .ref h0)]) hx hb dX11_missed_8 rfl hl (by decide) rfl (fun ls hl => ?_)
  exact kL9 _ _ _ _ hf _ _ hP hD hS _ (lv_sub hl [2, 1, 0] rfl)
theorem yk_X11_missed : ykV yX11_missed RX11 cX11_missed 3 (some .int) 0 := ⟨wd_1776, wd_104, wd_142, wd_1777, rfl, by decide +kernel, by decide +kernel, by decide +kernel⟩
theorem dX11_layChange_0 : decode cX11_layChange 0 = .ok (.aload_n 0, 1) := by decide +kernel
theorem dX11_layChange_1 : decode cX11_layChange 1 = .ok (.aload_n 0, 1) := by decide +kernel
theorem dX11_layChange_2 : decode cX11_layChange 2 = .ok (.invokevirtual 224, 3) := by decide +kernel
theorem dX11_layChange_5 : decode cX11_layChange 5 = .ok (.invokevirtual 239, 3) := by decide +kernel
theorem dX11_layChange_8 : decode cX11_layChange 8 = .ok (.aload_n 0, 1) := by decide +kernel
theorem dX11_layChange_9 : decode cX11_layChange 9 = .ok (.invokevirtual 414, 3) := by decide +kernel
theorem dX11_layChange_12 : decode cX11_layChange 12 = .ok (.istore_n 1, 1) := by decide +kernel
theorem dX11_layChange_13 : decode cX11_layChange 13 = .ok (.aload_n 0, 1) := by decide +kernel
theorem dX11_layChange_14 : decode cX11_layChange 14 = .ok (.iload_n 1, 1) := by decide +kernel
theorem dX11_layChange_15 : decode cX11_layChange 15 = .ok (.putfield 393, 3) := by decide +kernel
theorem dX11_layChange_18 : decode cX11_layChange 18 = .ok (.aload_n 0, 1) := by decide +kernel
theorem dX11_layChange_19 : decode cX11_layChange 19 = .ok (.iconst (-1), 1) := by decide +kernel
theorem dX11_layChange_20 : decode cX11_layChange 20 = .ok (.putfield 387, 3) := by decide +kernel
theorem dX11_layChange_23 : decode cX11_layChange 23 = .ok (.iconst 0, 1) := by decide +kernel
theorem dX11_layChange_24 : decode cX11_layChange 24 = .ok (.istore_n 2, 1) := by decide +kernel
theorem dX11_layChange_25 : decode cX11_layChange 25 = .ok (.iload_n 2, 1) := by decide +kernel
theorem dX11_layChange_26 : decode cX11_layChange 26 = .ok (.aload_n 0, 1) := by decide +kernel
theorem dX11_layChange_27 : decode cX11_layChange 27 = .ok (.invokevirtual 221, 3) := by decide +kernel
theorem dX11_layChange_30 : decode cX11_layChange 30 = .ok (.if_icmp .ge 101, 3) := by decide +kernel
theorem dX11_layChange_33 : decode cX11_layChange 33 = .ok (.aload_n 0, 1) := by decide +kernel
theorem dX11_layChange_34 : decode cX11_layChange 34 = .ok (.iload_n 2, 1) := by decide +kernel
theorem dX11_layChange_35 : decode cX11_layChange 35 = .ok (.invokevirtual 411, 3) := by decide +kernel
theorem dX11_layChange_38 : decode cX11_layChange 38 = .ok (.aload_n 0, 1) := by decide +kernel
theorem dX11_layChange_39 : decode cX11_layChange 39 = .ok (.getfield 58, 3) := by decide +kernel
theorem dX11_layChange_42 : decode cX11_layChange 42 = .ok (.aload_n 0, 1) := by decide +kernel
theorem dX11_layChange_43 : decode cX11_layChange 43 = .ok (.iload_n 2, 1) := by decide +kernel
theorem dX11_layChange_44 : decode cX11_layChange 44 = .ok (.invokevirtual 269, 3) := by decide +kernel
theorem dX11_layChange_47 : decode cX11_layChange 47 = .ok (.iaload, 1) := by decide +kernel
theorem dX11_layChange_48 : decode cX11_layChange 48 = .ok (.istore_n 3, 1) := by decide +kernel
theorem dX11_layChange_49 : decode cX11_layChange 49 = .ok (.iconst 0, 1) := by decide +kernel
theorem dX11_layChange_50 : decode cX11_layChange 50 = .ok (.istore 4, 2) := by decide +kernel
theorem dX11_layChange_52 : decode cX11_layChange 52 = .ok (.iload 4, 2) := by decide +kernel
theorem dX11_layChange_54 : decode cX11_layChange 54 = .ok (.iconst 1, 1) := by decide +kernel
theorem dX11_layChange_55 : decode cX11_layChange 55 = .ok (.aload_n 0, 1) := by decide +kernel
theorem dX11_layChange_56 : decode cX11_layChange 56 = .ok (.invokevirtual 224, 3) := by decide +kernel
theorem dX11_layChange_59 : decode cX11_layChange 59 = .ok (.ishl, 1) := by decide +kernel
theorem dX11_layChange_60 : decode cX11_layChange 60 = .ok (.if_icmp .ge 65, 3) := by decide +kernel
theorem dX11_layChange_63 : decode cX11_layChange 63 = .ok (.aload_n 0, 1) := by decide +kernel
theorem dX11_layChange_64 : decode cX11_layChange 64 = .ok (.iload 4, 2) := by decide +kernel
theorem dX11_layChange_66 : decode cX11_layChange 66 = .ok (.invokevirtual 375, 3) := by decide +kernel
theorem dX11_layChange_69 : decode cX11_layChange 69 = .ok (.ifCond .ne 6, 3) := by decide +kernel
theorem dX11_layChange_72 : decode cX11_layChange 72 = .ok (.goto 47, 3) := by decide +kernel
theorem dX11_layChange_75 : decode cX11_layChange 75 = .ok (.iload_n 1, 1) := by decide +kernel
theorem dX11_layChange_76 : decode cX11_layChange 76 = .ok (.iconst 4, 1) := by decide +kernel
theorem dX11_layChange_77 : decode cX11_layChange 77 = .ok (.aload_n 0, 1) := by decide +kernel
theorem dX11_layChange_78 : decode cX11_layChange 78 = .ok (.getfield 58, 3) := by decide +kernel
theorem dX11_layChange_81 : decode cX11_layChange 81 = .ok (.iload 4, 2) := by decide +kernel
theorem dX11_layChange_83 : decode cX11_layChange 83 = .ok (.iaload, 1) := by decide +kernel
theorem dX11_layChange_84 : decode cX11_layChange 84 = .ok (.iload_n 3, 1) := by decide +kernel
theorem dX11_layChange_85 : decode cX11_layChange 85 = .ok (.isub, 1) := by decide +kernel
theorem dX11_layChange_86 : decode cX11_layChange 86 = .ok (.imul, 1) := by decide +kernel
theorem dX11_layChange_87 : decode cX11_layChange 87 = .ok (.iadd, 1) := by decide +kernel
theorem dX11_layChange_88 : decode cX11_layChange 88 = .ok (.istore 5, 2) := by decide +kernel
theorem dX11_layChange_90 : decode cX11_layChange 90 = .ok (.iload 5, 2) := by decide +kernel
theorem dX11_layChange_92 : decode cX11_layChange 92 = .ok (.aload_n 0, 1) := by decide +kernel
theorem dX11_layChange_93 : decode cX11_layChange 93 = .ok (.getfield 393, 3) := by decide +kernel
theorem dX11_layChange_96 : decode cX11_layChange 96 = .ok (.if_icmp .lt 6, 3) := by decide +kernel
theorem dX11_layChange_99 : decode cX11_layChange 99 = .ok (.goto 20, 3) := by decide +kernel
theorem dX11_layChange_102 : decode cX11_layChange 102 = .ok (.aload_n 0, 1) := by decide +kernel
theorem dX11_layChange_103 : decode cX11_layChange 103 = .ok (.iload 5, 2) := by decide +kernel
theorem dX11_layChange_105 : decode cX11_layChange 105 = .ok (.putfield 393, 3) := by decide +kernel
theorem dX11_layChange_108 : decode cX11_layChange 108 = .ok (.aload_n 0, 1) := by decide +kernel
theorem dX11_layChange_109 : decode cX11_layChange 109 = .ok (.iload_n 2, 1) := by decide +kernel
theorem dX11_layChange_110 : decode cX11_layChange 110 = .ok (.putfield 387, 3) := by decide +kernel
theorem dX11_layChange_113 : decode cX11_layChange 113 = .ok (.aload_n 0, 1) := by decide +kernel
theorem dX11_layChange_114 : decode cX11_layChange 114 = .ok (.iload 4, 2) := by decide +kernel
theorem dX11_layChange_116 : decode cX11_layChange 116 = .ok (.putfield 390, 3) := by decide +kernel
theorem dX11_layChange_119 : decode cX11_layChange 119 = .ok (.iinc 4 1, 3) := by decide +kernel
theorem dX11_layChange_122 : decode cX11_layChange 122 = .ok (.goto (-70), 3) := by decide +kernel
theorem dX11_layChange_125 : decode cX11_layChange 125 = .ok (.iinc 2 1, 3) := by decide +kernel
theorem dX11_layChange_128 : decode cX11_layChange 128 = .ok (.goto (-103), 3) := by decide +kernel
theorem dX11_layChange_131 : decode cX11_layChange 131 = .ok (.aload_n 0, 1) := by decide +kernel
theorem dX11_layChange_132 : decode cX11_layChange 132 = .ok (.getfield 387, 3) := by decide +kernel
theorem dX11_layChange_135 : decode cX11_layChange 135 = .ok (.ifCond .lt 7, 3) := by decide +kernel
theorem dX11_layChange_138 : decode cX11_layChange 138 = .ok (.iconst 1, 1) := by decide +kernel
theorem dX11_layChange_139 : decode cX11_layChange 139 = .ok (.goto 4, 3) := by decide +kernel
theorem dX11_layChange_142 : decode cX11_layChange 142 = .ok (.iconst 0, 1) := by decide +kernel
theorem dX11_layChange_143 : decode cX11_layChange 143 = .ok (.ireturn, 1) := by decide +kernel
def wW_X11_layChange (G : GG) (h0 h1 h2 h3 h4 h5 y0_3 y0_4 y0_6 y0_18 y0_22 y0_23 y0_24 y0_25 y0_26 y0_33 y0_38 y0_39 y0_40 y0_41 y0_42 y0_43 y0_45 y0_46 y0_47 y0_48 : Nat) (x0_5 : Int32) (x0_7 : Int32) (x0_8 : Int32) (x0_9 : Int32) (x0_10 : Int32) (x0_11 : Int32) (x0_12 : Int32) (x0_13 : Int32) (x0_14 : Int32) (x0_15 : Int32) (x0_16 : Int32) (x0_17 : Int32) (x0_19 : Int32) (x0_20 : Int32) (x0_27 : Int32) (x0_28 : Int32) (x0_29 : Int32) (x0_30 : Int32) (x0_31 : Int32) (x0_32 : Int32) (x0_35 : Int32) (x0_36 : Int32) (x0_37 : Int32) (x0_44 : Int32) (x0_49 : Int32) (x0_50 : Int32) (a1 : Nat → Int32) (a2 : Nat → Int32) (a3 : Nat → Int32) (a4 : Nat → Int32) (a5 : Nat → Int32) : va_W := [(h0, .inr (11, [.ref h1, .ref h2, .ref h3, .ref y0_3, .ref y0_4, .int x0_5, .ref y0_6, .int x0_7, .int x0_8, .int x0_9, .int x0_10, .int x0_11, .int x0_12, .int x0_13, .int x0_14, .int x0_15, .int x0_16, .int x0_17, .ref y0_18, .int x0_19, .int x0_20, .ref h4, .ref y0_22, .ref y0_23, .ref y0_24, .ref y0_25, .ref y0_26, .int x0_27, .int x0_28, .int x0_29, .int x0_30, .int x0_31, .int x0_32, .ref y0_33, .ref h5, .int x0_35, .int x0_36, .int x0_37, .ref y0_38, .ref y0_39, .ref y0_40, .ref y0_41, .ref y0_42, .ref y0_43, .int x0_44, .ref y0_45, .ref y0_46, .ref y0_47, .ref y0_48, .int x0_49, .int x0_50])), (h1, .inl (G.2.1, 121, .inl a1)), (h2, .inl (G.2.1, 2, .inl a2)), (h3, .inl (G.2.1, 2, .inl a3)), (h4, .inl (G.2.1, 128, .inl a4)), (h5, .inl (G.2.1, 256, .inl a5))]
set_option maxHeartbeats 4000000 in
set_option maxRecDepth 100000 in
theorem c_X11_layChange (l : Launch) (G : GG) (h0 h1 h2 h3 h4 h5 y0_3 y0_4 y0_6 y0_18 y0_22 y0_23 y0_24 y0_25 y0_26 y0_33 y0_38 y0_39 y0_40 y0_41 y0_42 y0_43 y0_45 y0_46 y0_47 y0_48 : Nat) (sz : Nat) (x0_5 : Int32) (x0_7 : Int32) (x0_8 : Int32) (x0_9 : Int32) (x0_10 : Int32) (x0_11 : Int32) (x0_12 : Int32) (x0_13 : Int32) (x0_14 : Int32) (x0_15 : Int32) (x0_16 : Int32) (x0_17 : Int32) (x0_19 : Int32) (x0_20 : Int32) (x0_27 : Int32) (x0_28 : Int32) (x0_29 : Int32) (x0_30 : Int32) (x0_31 : Int32) (x0_32 : Int32) (x0_35 : Int32) (x0_36 : Int32) (x0_37 : Int32) (x0_44 : Int32) (x0_49 : Int32) (x0_50 : Int32) (a1 : Nat → Int32) (a2 : Nat → Int32) (a3 : Nat → Int32) (a4 : Nat → Int32) (a5 : Nat → Int32) (F : Nat)   (r0 : Int32) (e_x0_27 : Int32) (e_x0_35 : Int32) (e_x0_36 : Int32) (e_x0_37 : Int32) (e_a4 : Nat → Int32) (e_a5 : Nat → Int32) (hf : p_X11_layChange F x0_5 x0_27 x0_35 x0_36 x0_37 a1 a2 a3 a4 a5  = some (r0, e_x0_27, e_x0_35, e_x0_36, e_x0_37, e_a4, e_a5)) : Met l yX11_layChange (.code yX11_layChange cX11_layChange 6 (some .boolean) :: gtbl) ({ frames := 4, cells := 0, slots := 0, locals := 87 } : Room) (PcS G [.ref h0] (wW_X11_layChange G h0 h1 h2 h3 h4 h5 y0_3 y0_4 y0_6 y0_18 y0_22 y0_23 y0_24 y0_25 y0_26 y0_33 y0_38 y0_39 y0_40 y0_41 y0_42 y0_43 y0_45 y0_46 y0_47 y0_48 x0_5 x0_7 x0_8 x0_9 x0_10 x0_11 x0_12 x0_13 x0_14 x0_15 x0_16 x0_17 x0_19 x0_20 x0_27 x0_28 x0_29 x0_30 x0_31 x0_32 x0_35 x0_36 x0_37 x0_44 x0_49 x0_50 a1 a2 a3 a4 a5) sz) (QiS G r0 (va_A (wW_X11_layChange G h0 h1 h2 h3 h4 h5 y0_3 y0_4 y0_6 y0_18 y0_22 y0_23 y0_24 y0_25 y0_26 y0_33 y0_38 y0_39 y0_40 y0_41 y0_42 y0_43 y0_45 y0_46 y0_47 y0_48 x0_5 x0_7 x0_8 x0_9 x0_10 x0_11 x0_12 x0_13 x0_14 x0_15 x0_16 x0_17 x0_19 x0_20 x0_27 x0_28 x0_29 x0_30 x0_31 x0_32 x0_35 x0_36 x0_37 x0_44 x0_49 x0_50 a1 a2 a3 a4 a5) sz) (wW_X11_layChange G h0 h1 h2 h3 h4 h5 y0_3 y0_4 y0_6 y0_18 y0_22 y0_23 y0_24 y0_25 y0_26 y0_33 y0_38 y0_39 y0_40 y0_41 y0_42 y0_43 y0_45 y0_46 y0_47 y0_48 x0_5 x0_7 x0_8 x0_9 x0_10 x0_11 x0_12 x0_13 x0_14 x0_15 x0_16 x0_17 x0_19 x0_20 e_x0_27 x0_28 x0_29 x0_30 x0_31 x0_32 e_x0_35 e_x0_36 e_x0_37 x0_44 x0_49 x0_50 a1 a2 a3 e_a4 e_a5)) 0 0 (va_A (wW_X11_layChange G h0 h1 h2 h3 h4 h5 y0_3 y0_4 y0_6 y0_18 y0_22 y0_23 y0_24 y0_25 y0_26 y0_33 y0_38 y0_39 y0_40 y0_41 y0_42 y0_43 y0_45 y0_46 y0_47 y0_48 x0_5 x0_7 x0_8 x0_9 x0_10 x0_11 x0_12 x0_13 x0_14 x0_15 x0_16 x0_17 x0_19 x0_20 x0_27 x0_28 x0_29 x0_30 x0_31 x0_32 x0_35 x0_36 x0_37 x0_44 x0_49 x0_50 a1 a2 a3 a4 a5) sz) := by
  refine met_start (by decide) (Nat.le_of_ble_eq_true rfl) ?_
  intro p e s m below meth c hC hr hlk hnm hK hP hD hA hS hX ls hl
  obtain ⟨hx, hb, hml, hown, ht0⟩ := hC
  have hown : s.vm.findClass RX11 = some m.cls := hown
  generalize va_A (wW_X11_layChange G h0 h1 h2 h3 h4 h5 y0_3 y0_4 y0_6 y0_18 y0_22 y0_23 y0_24 y0_25 y0_26 y0_33 y0_38 y0_39 y0_40 y0_41 y0_42 y0_43 y0_45 y0_46 y0_47 y0_48 x0_5 x0_7 x0_8 x0_9 x0_10 x0_11 x0_12 x0_13 x0_14 x0_15 x0_16 x0_17 x0_19 x0_20 x0_27 x0_28 x0_29 x0_30 x0_31 x0_32 x0_35 x0_36 x0_37 x0_44 x0_49 x0_50 a1 a2 a3 a4 a5) sz = A at hD hA hS hX ⊢
  have hl : lv_has ls 6 [(0, .ref h0)] := hl
  have hf : p_X11_layChange F x0_5 x0_27 x0_35 x0_36 x0_37 a1 a2 a3 a4 a5  = some (r0, e_x0_27, e_x0_35, e_x0_36, e_x0_37, e_a4, e_a5) := hf
  have kL25 : ∀ (c25_1 : Int32) (n25 : Nat) (u25_2 : Int32) (x0_27_25 : Int32) (x0_35_25 : Int32) (x0_36_25 : Int32) (x0_37_25 : Int32) (a4_25 : Nat → Int32) (a5_25 : Nat → Int32), p_X11_layChange_L25 F x0_5 a1 a2 a3 c25_1 n25 u25_2 x0_27_25 x0_35_25 x0_36_25 x0_37_25 a4_25 a5_25 = some (r0, e_x0_27, e_x0_35, e_x0_36, e_x0_37, e_a4, e_a5) → ∀ (H : Heap) (locs : List Loc), va_P G.1 vwCl (wW_X11_layChange G h0 h1 h2 h3 h4 h5 y0_3 y0_4 y0_6 y0_18 y0_22 y0_23 y0_24 y0_25 y0_26 y0_33 y0_38 y0_39 y0_40 y0_41 y0_42 y0_43 y0_45 y0_46 y0_47 y0_48 x0_5 x0_7 x0_8 x0_9 x0_10 x0_11 x0_12 x0_13 x0_14 x0_15 x0_16 x0_17 x0_19 x0_20 x0_27_25 x0_28 x0_29 x0_30 x0_31 x0_32 x0_35_25 x0_36_25 x0_37_25 x0_44 x0_49 x0_50 a1 a2 a3 a4_25 a5_25) H → va_D A (wW_X11_layChange G h0 h1 h2 h3 h4 h5 y0_3 y0_4 y0_6 y0_18 y0_22 y0_23 y0_24 y0_25 y0_26 y0_33 y0_38 y0_39 y0_40 y0_41 y0_42 y0_43 y0_45 y0_46 y0_47 y0_48 x0_5 x0_7 x0_8 x0_9 x0_10 x0_11 x0_12 x0_13 x0_14 x0_15 x0_16 x0_17 x0_19 x0_20 x0_27_25 x0_28 x0_29 x0_30 x0_31 x0_32 x0_35_25 x0_36_25 x0_37_25 x0_44 x0_49 x0_50 a1 a2 a3 a4_25 a5_25) → va_S A s.heap H locs → ∀ ls : Array Slot, lv_has ls 6 [(0, .ref h0), (1, .int c25_1), (2, .int u25_2)] → W p l e ({ frames := 4, cells := 0, slots := 0, locals := 87 } : Room) s m (List.toArray [.ref h0]) below meth c H locs 0 0 (MQ below (QiS G r0 A (wW_X11_layChange G h0 h1 h2 h3 h4 h5 y0_3 y0_4 y0_6 y0_18 y0_22 y0_23 y0_24 y0_25 y0_26 y0_33 y0_38 y0_39 y0_40 y0_41 y0_42 y0_43 y0_45 y0_46 y0_47 y0_48 x0_5 x0_7 x0_8 x0_9 x0_10 x0_11 x0_12 x0_13 x0_14 x0_15 x0_16 x0_17 x0_19 x0_20 e_x0_27 x0_28 x0_29 x0_30 x0_31 x0_32 e_x0_35 e_x0_36 e_x0_37 x0_44 x0_49 x0_50 a1 a2 a3 e_a4 e_a5)) (List.toArray [.ref h0]) s 0 0 A) (F0 m 25 ls []) := by
    intro c25_1 n25
    induction n25 with
    | zero =>
      intro u25_2 x0_27_25 x0_35_25 x0_36_25 x0_37_25 a4_25 a5_25 hf
      cases hf
    | succ n25 ih25 =>
      have kL52 : ∀ (c52_2 : Int32) (c52_3 : Int32) (n52 : Nat) (u52_4 : Int32) (x0_27_52 : Int32) (x0_35_52 : Int32) (x0_36_52 : Int32) (x0_37_52 : Int32) (a4_52 : Nat → Int32) (a5_52 : Nat → Int32), p_X11_layChange_L52 F x0_5 a1 a2 a3 c25_1 c52_2 c52_3 (p_X11_layChange_L25 F x0_5 a1 a2 a3 c25_1 n25) n52 u52_4 x0_27_52 x0_35_52 x0_36_52 x0_37_52 a4_52 a5_52 = some (r0, e_x0_27, e_x0_35, e_x0_36, e_x0_37, e_a4, e_a5) → ∀ (H : Heap) (locs : List Loc), va_P G.1 vwCl (wW_X11_layChange G h0 h1 h2 h3 h4 h5 y0_3 y0_4 y0_6 y0_18 y0_22 y0_23 y0_24 y0_25 y0_26 y0_33 y0_38 y0_39 y0_40 y0_41 y0_42 y0_43 y0_45 y0_46 y0_47 y0_48 x0_5 x0_7 x0_8 x0_9 x0_10 x0_11 x0_12 x0_13 x0_14 x0_15 x0_16 x0_17 x0_19 x0_20 x0_27_52 x0_28 x0_29 x0_30 x0_31 x0_32 x0_35_52 x0_36_52 x0_37_52 x0_44 x0_49 x0_50 a1 a2 a3 a4_52 a5_52) H → va_D A (wW_X11_layChange G h0 h1 h2 h3 h4 h5 y0_3 y0_4 y0_6 y0_18 y0_22 y0_23 y0_24 y0_25 y0_26 y0_33 y0_38 y0_39 y0_40 y0_41 y0_42 y0_43 y0_45 y0_46 y0_47 y0_48 x0_5 x0_7 x0_8 x0_9 x0_10 x0_11 x0_12 x0_13 x0_14 x0_15 x0_16 x0_17 x0_19 x0_20 x0_27_52 x0_28 x0_29 x0_30 x0_31 x0_32 x0_35_52 x0_36_52 x0_37_52 x0_44 x0_49 x0_50 a1 a2 a3 a4_52 a5_52) → va_S A s.heap H locs → ∀ ls : Array Slot, lv_has ls 6 [(0, .ref h0), (1, .int c25_1), (2, .int c52_2), (3, .int c52_3), (4, .int u52_4)] → W p l e ({ frames := 4, cells := 0, slots := 0, locals := 87 } : Room) s m (List.toArray [.ref h0]) below meth c H locs 0 0 (MQ below (QiS G r0 A (wW_X11_layChange G h0 h1 h2 h3 h4 h5 y0_3 y0_4 y0_6 y0_18 y0_22 y0_23 y0_24 y0_25 y0_26 y0_33 y0_38 y0_39 y0_40 y0_41 y0_42 y0_43 y0_45 y0_46 y0_47 y0_48 x0_5 x0_7 x0_8 x0_9 x0_10 x0_11 x0_12 x0_13 x0_14 x0_15 x0_16 x0_17 x0_19 x0_20 e_x0_27 x0_28 x0_29 x0_30 x0_31 x0_32 e_x0_35 e_x0_36 e_x0_37 x0_44 x0_49 x0_50 a1 a2 a3 e_a4 e_a5)) (List.toArray [.ref h0]) s 0 0 A) (F0 m 52 ls []) := by
        intro c52_2 c52_3 n52
        induction n52 with
        | zero =>
          intro u52_4 x0_27_52 x0_35_52 x0_36_52 x0_37_52 a4_52 a5_52 hf
          cases hf
        | succ n52 ih52 =>
          have kJ119 : ∀ (u119_4 : Int32) (x0_27_119 : Int32) (x0_35_119 : Int32) (x0_36_119 : Int32) (x0_37_119 : Int32) (a4_119 : Nat → Int32) (a5_119 : Nat → Int32), p_X11_layChange_J119 F x0_5 a1 a2 a3 c25_1 c52_2 c52_3 (p_X11_layChange_L25 F x0_5 a1 a2 a3 c25_1 n25) (p_X11_layChange_L52 F x0_5 a1 a2 a3 c25_1 c52_2 c52_3 (p_X11_layChange_L25 F x0_5 a1 a2 a3 c25_1 n25) n52) u119_4 x0_27_119 x0_35_119 x0_36_119 x0_37_119 a4_119 a5_119 = some (r0, e_x0_27, e_x0_35, e_x0_36, e_x0_37, e_a4, e_a5) → ∀ (H : Heap) (locs : List Loc), va_P G.1 vwCl (wW_X11_layChange G h0 h1 h2 h3 h4 h5 y0_3 y0_4 y0_6 y0_18 y0_22 y0_23 y0_24 y0_25 y0_26 y0_33 y0_38 y0_39 y0_40 y0_41 y0_42 y0_43 y0_45 y0_46 y0_47 y0_48 x0_5 x0_7 x0_8 x0_9 x0_10 x0_11 x0_12 x0_13 x0_14 x0_15 x0_16 x0_17 x0_19 x0_20 x0_27_119 x0_28 x0_29 x0_30 x0_31 x0_32 x0_35_119 x0_36_119 x0_37_119 x0_44 x0_49 x0_50 a1 a2 a3 a4_119 a5_119) H → va_D A (wW_X11_layChange G h0 h1 h2 h3 h4 h5 y0_3 y0_4 y0_6 y0_18 y0_22 y0_23 y0_24 y0_25 y0_26 y0_33 y0_38 y0_39 y0_40 y0_41 y0_42 y0_43 y0_45 y0_46 y0_47 y0_48 x0_5 x0_7 x0_8 x0_9 x0_10 x0_11 x0_12 x0_13 x0_14 x0_15 x0_16 x0_17 x0_19 x0_20 x0_27_119 x0_28 x0_29 x0_30 x0_31 x0_32 x0_35_119 x0_36_119 x0_37_119 x0_44 x0_49 x0_50 a1 a2 a3 a4_119 a5_119) → va_S A s.heap H locs → ∀ ls : Array Slot, lv_has ls 6 [(0, .ref h0), (1, .int c25_1), (2, .int c52_2), (3, .int c52_3), (4, .int u119_4)] → W p l e ({ frames := 4, cells := 0, slots := 0, locals := 87 } : Room) s m (List.toArray [.ref h0]) below meth c H locs 0 0 (MQ below (QiS G r0 A (wW_X11_layChange G h0 h1 h2 h3 h4 h5 y0_3 y0_4 y0_6 y0_18 y0_22 y0_23 y0_24 y0_25 y0_26 y0_33 y0_38 y0_39 y0_40 y0_41 y0_42 y0_43 y0_45 y0_46 y0_47 y0_48 x0_5 x0_7 x0_8 x0_9 x0_10 x0_11 x0_12 x0_13 x0_14 x0_15 x0_16 x0_17 x0_19 x0_20 e_x0_27 x0_28 x0_29 x0_30 x0_31 x0_32 e_x0_35 e_x0_36 e_x0_37 x0_44 x0_49 x0_50 a1 a2 a3 e_a4 e_a5)) (List.toArray [.ref h0]) s 0 0 A) (F0 m 119 ls []) := by
            intro u119_4 x0_27_119 x0_35_119 x0_36_119 x0_37_119 a4_119 a5_119 hf H locs hP hD hS ls hl
            refine lv_iinc (v := u119_4 + (1 : Int32)) (lv' := [(4, .int (u119_4 + (1 : Int32))), (0, .ref h0), (1, .int c25_1), (2, .int c52_2), (3, .int c52_3)]) hx hb dX11_layChange_119 hl (k := 4) rfl (by rfl) (by decide) rfl (fun ls hl => ?_)
            refine lv_goto (tgt := 52) hx hb dX11_layChange_122 (by decide) ?_
            exact ih52 _ _ _ _ _ _ _ hf _ _ hP hD hS _ (lv_sub hl [1, 2, 3, 4, 0] rfl)
          intro u52_4 x0_27_52 x0_35_52 x0_36_52 x0_37_52 a4_52 a5_52 hf H locs hP hD hS ls hl
          have hf : p_X11_layChange_L52b F x0_5 a1 a2 a3 c25_1 c52_2 c52_3 (p_X11_layChange_L25 F x0_5 a1 a2 a3 c25_1 n25) (p_X11_layChange_L52 F x0_5 a1 a2 a3 c25_1 c52_2 c52_3 (p_X11_layChange_L25 F x0_5 a1 a2 a3 c25_1 n25) n52) u52_4 x0_27_52 x0_35_52 x0_36_52 x0_37_52 a4_52 a5_52 = some (r0, e_x0_27, e_x0_35, e_x0_36, e_x0_37, e_a4, e_a5) := hf
          refine lv_iload hx hb dX11_layChange_52 (lv_at hl 4 rfl) ?_
          refine lv_iconst (v := (1 : Int32)) hx hb dX11_layChange_54 (by decide) ?_
          refine lv_aload_n hx hb dX11_layChange_55 rfl (lv_at hl 0 rfl) ?_
          obtain ⟨r_56_0, hc_r_56_0, hf⟩ := of_bnd hf
          refine cl_Vi (w2 := (wW_X11_layChange G h0 h1 h2 h3 h4 h5 y0_3 y0_4 y0_6 y0_18 y0_22 y0_23 y0_24 y0_25 y0_26 y0_33 y0_38 y0_39 y0_40 y0_41 y0_42 y0_43 y0_45 y0_46 y0_47 y0_48 x0_5 x0_7 x0_8 x0_9 x0_10 x0_11 x0_12 x0_13 x0_14 x0_15 x0_16 x0_17 x0_19 x0_20 x0_27_52 x0_28 x0_29 x0_30 x0_31 x0_32 x0_35_52 x0_36_52 x0_37_52 x0_44 x0_49 x0_50 a1 a2 a3 a4_52 a5_52)) (As := []) (rest := [.int (1 : Int32), .int u52_4]) ⟨hx, hb, hml, hown, ht0⟩ (c_X11_checksNow l G h0 h3 h1 h2 y0_3 y0_4 y0_6 y0_18 h4 y0_22 y0_23 y0_24 y0_25 y0_26 y0_33 h5 y0_38 y0_39 y0_40 y0_41 y0_42 y0_43 y0_45 y0_46 y0_47 y0_48 _ x0_5 x0_7 x0_8 x0_9 x0_10 x0_11 x0_12 x0_13 x0_14 x0_15 x0_16 x0_17 x0_19 x0_20 x0_27_52 x0_28 x0_29 x0_30 x0_31 x0_32 x0_35_52 x0_36_52 x0_37_52 x0_44 x0_49 x0_50 a3 F _ hc_r_56_0) yk_X11_checksNow wd_1576 ⟨rfl, rfl, by decide, by decide⟩ ⟨Nat.le_refl _, Nat.le_refl _⟩ hX hK hP hD hS hA [0, 3] [1, 2, 4, 5] [4, 0, 1, 5, 2, 3] (va_recv hK hP (ci := 11) (q0 := 0) rfl rfl) rfl rfl (by decide) rfl rfl rfl rfl rfl hl.1 rfl (Nat.le_of_ble_eq_true rfl) dX11_layChange_56 (fun H locs hP hD hS => ?_)
          refine lv_ishl hx hb dX11_layChange_59 ?_
          refine lv_icmp_ge (tgt := 125) hx hb dX11_layChange_60 (by decide) (fun c2 => ?_) (fun c2 => ?_)
          · have hf := of_pos hf c2
            refine lv_iinc (v := c52_2 + (1 : Int32)) (lv' := [(2, .int (c52_2 + (1 : Int32))), (0, .ref h0), (1, .int c25_1), (3, .int c52_3), (4, .int u52_4)]) hx hb dX11_layChange_125 hl (k := 2) rfl (by rfl) (by decide) rfl (fun ls hl => ?_)
            refine lv_goto (tgt := 25) hx hb dX11_layChange_128 (by decide) ?_
            exact ih25 _ _ _ _ _ _ _ hf _ _ hP hD hS _ (lv_sub hl [1, 2, 0] rfl)
          · have hf := of_neg hf c2
            refine lv_aload_n hx hb dX11_layChange_63 rfl (lv_at hl 0 rfl) ?_
            refine lv_iload hx hb dX11_layChange_64 (lv_at hl 4 rfl) ?_
            obtain ⟨r_66_2, hc_r_66_2, hf⟩ := of_bnd hf
            refine cl_Vi (w2 := (wW_X11_layChange G h0 h1 h2 h3 h4 h5 y0_3 y0_4 y0_6 y0_18 y0_22 y0_23 y0_24 y0_25 y0_26 y0_33 y0_38 y0_39 y0_40 y0_41 y0_42 y0_43 y0_45 y0_46 y0_47 y0_48 x0_5 x0_7 x0_8 x0_9 x0_10 x0_11 x0_12 x0_13 x0_14 x0_15 x0_16 x0_17 x0_19 x0_20 x0_27_52 x0_28 x0_29 x0_30 x0_31 x0_32 x0_35_52 x0_36_52 x0_37_52 x0_44 x0_49 x0_50 a1 a2 a3 a4_52 a5_52)) (As := [.int u52_4]) (rest := []) ⟨hx, hb, hml, hown, ht0⟩ (c_X11_isFreeColumn l G h0 h1 h2 h3 y0_3 y0_4 y0_6 y0_18 h4 y0_22 y0_23 y0_24 y0_25 y0_26 y0_33 h5 y0_38 y0_39 y0_40 y0_41 y0_42 y0_43 y0_45 y0_46 y0_47 y0_48 _ x0_5 x0_7 x0_8 x0_9 x0_10 x0_11 x0_12 x0_13 x0_14 x0_15 x0_16 x0_17 x0_19 x0_20 x0_27_52 x0_28 x0_29 x0_30 x0_31 x0_32 x0_35_52 x0_36_52 x0_37_52 x0_44 x0_49 x0_50 a1 a2 a3 F u52_4 _ hc_r_66_2) yk_X11_isFreeColumn wd_1742 ⟨rfl, rfl, by decide, by decide⟩ ⟨Nat.le_refl _, Nat.le_refl _⟩ hX hK hP hD hS hA [0, 1, 2, 3] [4, 5] [2, 3, 4, 5, 0, 1] (va_recv hK hP (ci := 11) (q0 := 0) rfl rfl) rfl rfl (by decide) rfl rfl rfl rfl rfl hl.1 rfl (Nat.le_of_ble_eq_true rfl) dX11_layChange_66 (fun H locs hP hD hS => ?_)
            refine lv_if_ne (tgt := 75) hx hb dX11_layChange_69 (by decide) (fun c4 => ?_) (fun c4 => ?_)
            · have hf := of_neg hf c4
              refine lv_iload_n hx hb dX11_layChange_75 rfl (lv_at hl 1 rfl) ?_
              refine lv_iconst (v := (4 : Int32)) hx hb dX11_layChange_76 (by decide) ?_
              refine lv_aload_n hx hb dX11_layChange_77 rfl (lv_at hl 0 rfl) ?_
              refine va_get (ci := 11) (v := .ref h5) (C := RX11) (T := TX11) (N := 51) hx hb ht0 iX11 hown hK hP 0 rfl rfl 34 (by decide) (ht0 _ wd_1440) (fun _ h9 => h9) rfl dX11_layChange_78 ?_
              refine lv_iload hx hb dX11_layChange_81 (lv_at hl 4 rfl) ?_
              obtain ⟨g5, hf⟩ := of_grd hf
              refine va_iald hx hb hK hP 5 0 rfl rfl g5 dX11_layChange_83 ?_
              refine lv_iload_n hx hb dX11_layChange_84 rfl (lv_at hl 3 rfl) ?_
              refine lv_isub hx hb dX11_layChange_85 ?_
              refine lv_imul hx hb dX11_layChange_86 ?_
              refine lv_iadd hx hb dX11_layChange_87 ?_
              refine lv_topi (fun z6 ez6 => ?_)
              have hf := of_jlet hf ez6
              refine lv_istore (lv' := [(5, .int z6), (0, .ref h0), (1, .int c25_1), (2, .int c52_2), (3, .int c52_3), (4, .int u52_4)]) hx hb dX11_layChange_88 hl (by decide) rfl (fun ls hl => ?_)
              refine lv_iload hx hb dX11_layChange_90 (lv_at hl 0 rfl) ?_
              refine lv_aload_n hx hb dX11_layChange_92 rfl (lv_at hl 1 rfl) ?_
              refine va_get (ci := 11) (v := .int x0_37_52) (C := RX11) (T := TX11) (N := 51) hx hb ht0 iX11 hown hK hP 0 rfl rfl 37 (by decide) (ht0 _ wd_1443) (fun _ h9 => h9) rfl dX11_layChange_93 ?_
              refine lv_icmp_lt (tgt := 102) hx hb dX11_layChange_96 (by decide) (fun c7 => ?_) (fun c7 => ?_)
              · have hf := of_pos hf c7
                refine lv_aload_n hx hb dX11_layChange_102 rfl (lv_at hl 1 rfl) ?_
                refine lv_iload hx hb dX11_layChange_103 (lv_at hl 0 rfl) ?_
                refine va_put (ci := 11) (v := .int z6) (ty := .int) (C := RX11) (T := TX11) (N := 51) hx hb ht0 iX11 tyX11 tyX11_ok nmX11 hown hK hP hD hS 0 rfl rfl 37 (by decide) (ht0 _ wd_1443) (fun _ h9 => h9) rfl rfl rfl rfl (Nat.le_of_ble_eq_true rfl) dX11_layChange_105 (fun H locs hP hD hS => ?_)
                have hP : va_P G.1 vwCl (wW_X11_layChange G h0 h1 h2 h3 h4 h5 y0_3 y0_4 y0_6 y0_18 y0_22 y0_23 y0_24 y0_25 y0_26 y0_33 y0_38 y0_39 y0_40 y0_41 y0_42 y0_43 y0_45 y0_46 y0_47 y0_48 x0_5 x0_7 x0_8 x0_9 x0_10 x0_11 x0_12 x0_13 x0_14 x0_15 x0_16 x0_17 x0_19 x0_20 x0_27_52 x0_28 x0_29 x0_30 x0_31 x0_32 x0_35_52 x0_36_52 z6 x0_44 x0_49 x0_50 a1 a2 a3 a4_52 a5_52) H := hP
                have hD : va_D A (wW_X11_layChange G h0 h1 h2 h3 h4 h5 y0_3 y0_4 y0_6 y0_18 y0_22 y0_23 y0_24 y0_25 y0_26 y0_33 y0_38 y0_39 y0_40 y0_41 y0_42 y0_43 y0_45 y0_46 y0_47 y0_48 x0_5 x0_7 x0_8 x0_9 x0_10 x0_11 x0_12 x0_13 x0_14 x0_15 x0_16 x0_17 x0_19 x0_20 x0_27_52 x0_28 x0_29 x0_30 x0_31 x0_32 x0_35_52 x0_36_52 z6 x0_44 x0_49 x0_50 a1 a2 a3 a4_52 a5_52) := hD
                refine lv_aload_n hx hb dX11_layChange_108 rfl (lv_at hl 1 rfl) ?_
                refine lv_iload_n hx hb dX11_layChange_109 rfl (lv_at hl 3 rfl) ?_
                refine va_put (ci := 11) (v := .int c52_2) (ty := .int) (C := RX11) (T := TX11) (N := 51) hx hb ht0 iX11 tyX11 tyX11_ok nmX11 hown hK hP hD hS 0 rfl rfl 35 (by decide) (ht0 _ wd_1441) (fun _ h9 => h9) rfl rfl rfl rfl (Nat.le_of_ble_eq_true rfl) dX11_layChange_110 (fun H locs hP hD hS => ?_)
                have hP : va_P G.1 vwCl (wW_X11_layChange G h0 h1 h2 h3 h4 h5 y0_3 y0_4 y0_6 y0_18 y0_22 y0_23 y0_24 y0_25 y0_26 y0_33 y0_38 y0_39 y0_40 y0_41 y0_42 y0_43 y0_45 y0_46 y0_47 y0_48 x0_5 x0_7 x0_8 x0_9 x0_10 x0_11 x0_12 x0_13 x0_14 x0_15 x0_16 x0_17 x0_19 x0_20 x0_27_52 x0_28 x0_29 x0_30 x0_31 x0_32 c52_2 x0_36_52 z6 x0_44 x0_49 x0_50 a1 a2 a3 a4_52 a5_52) H := hP
                have hD : va_D A (wW_X11_layChange G h0 h1 h2 h3 h4 h5 y0_3 y0_4 y0_6 y0_18 y0_22 y0_23 y0_24 y0_25 y0_26 y0_33 y0_38 y0_39 y0_40 y0_41 y0_42 y0_43 y0_45 y0_46 y0_47 y0_48 x0_5 x0_7 x0_8 x0_9 x0_10 x0_11 x0_12 x0_13 x0_14 x0_15 x0_16 x0_17 x0_19 x0_20 x0_27_52 x0_28 x0_29 x0_30 x0_31 x0_32 c52_2 x0_36_52 z6 x0_44 x0_49 x0_50 a1 a2 a3 a4_52 a5_52) := hD
                refine lv_aload_n hx hb dX11_layChange_113 rfl (lv_at hl 1 rfl) ?_
                refine lv_iload hx hb dX11_layChange_114 (lv_at hl 5 rfl) ?_
                refine va_put (ci := 11) (v := .int u52_4) (ty := .int) (C := RX11) (T := TX11) (N := 51) hx hb ht0 iX11 tyX11 tyX11_ok nmX11 hown hK hP hD hS 0 rfl rfl 36 (by decide) (ht0 _ wd_1442) (fun _ h9 => h9) rfl rfl rfl rfl (Nat.le_of_ble_eq_true rfl) dX11_layChange_116 (fun H locs hP hD hS => ?_)
                have hP : va_P G.1 vwCl (wW_X11_layChange G h0 h1 h2 h3 h4 h5 y0_3 y0_4 y0_6 y0_18 y0_22 y0_23 y0_24 y0_25 y0_26 y0_33 y0_38 y0_39 y0_40 y0_41 y0_42 y0_43 y0_45 y0_46 y0_47 y0_48 x0_5 x0_7 x0_8 x0_9 x0_10 x0_11 x0_12 x0_13 x0_14 x0_15 x0_16 x0_17 x0_19 x0_20 x0_27_52 x0_28 x0_29 x0_30 x0_31 x0_32 c52_2 u52_4 z6 x0_44 x0_49 x0_50 a1 a2 a3 a4_52 a5_52) H := hP
                have hD : va_D A (wW_X11_layChange G h0 h1 h2 h3 h4 h5 y0_3 y0_4 y0_6 y0_18 y0_22 y0_23 y0_24 y0_25 y0_26 y0_33 y0_38 y0_39 y0_40 y0_41 y0_42 y0_43 y0_45 y0_46 y0_47 y0_48 x0_5 x0_7 x0_8 x0_9 x0_10 x0_11 x0_12 x0_13 x0_14 x0_15 x0_16 x0_17 x0_19 x0_20 x0_27_52 x0_28 x0_29 x0_30 x0_31 x0_32 c52_2 u52_4 z6 x0_44 x0_49 x0_50 a1 a2 a3 a4_52 a5_52) := hD
                exact kJ119 _ _ _ _ _ _ _ hf _ _ hP hD hS _ (lv_sub hl [1, 2, 3, 4, 5] rfl)
              · have hf := of_neg hf c7
                refine lv_goto (tgt := 119) hx hb dX11_layChange_99 (by decide) ?_
                exact kJ119 _ _ _ _ _ _ _ hf _ _ hP hD hS _ (lv_sub hl [1, 2, 3, 4, 5] rfl)
            · have hf := of_pos hf c4
              refine lv_goto (tgt := 119) hx hb dX11_layChange_72 (by decide) ?_
              exact kJ119 _ _ _ _ _ _ _ hf _ _ hP hD hS _ (lv_sub hl [0, 1, 2, 3, 4] rfl)
      intro u25_2 x0_27_25 x0_35_25 x0_36_25 x0_37_25 a4_25 a5_25 hf H locs hP hD hS ls hl
      have hf : p_X11_layChange_L25b F x0_5 a1 a2 a3 c25_1 (p_X11_layChange_L25 F x0_5 a1 a2 a3 c25_1 n25) u25_2 x0_27_25 x0_35_25 x0_36_25 x0_37_25 a4_25 a5_25 = some (r0, e_x0_27, e_x0_35, e_x0_36, e_x0_37, e_a4, e_a5) := hf
      refine lv_iload_n hx hb dX11_layChange_25 rfl (lv_at hl 2 rfl) ?_
      refine lv_aload_n hx hb dX11_layChange_26 rfl (lv_at hl 0 rfl) ?_
      obtain ⟨r_27_7, hc_r_27_7, hf⟩ := of_bnd hf
      refine cl_Vi (w2 := (wW_X11_layChange G h0 h1 h2 h3 h4 h5 y0_3 y0_4 y0_6 y0_18 y0_22 y0_23 y0_24 y0_25 y0_26 y0_33 y0_38 y0_39 y0_40 y0_41 y0_42 y0_43 y0_45 y0_46 y0_47 y0_48 x0_5 x0_7 x0_8 x0_9 x0_10 x0_11 x0_12 x0_13 x0_14 x0_15 x0_16 x0_17 x0_19 x0_20 x0_27_25 x0_28 x0_29 x0_30 x0_31 x0_32 x0_35_25 x0_36_25 x0_37_25 x0_44 x0_49 x0_50 a1 a2 a3 a4_25 a5_25)) (As := []) (rest := [.int u25_2]) ⟨hx, hb, hml, hown, ht0⟩ (c_X11_dataNow l G h0 h2 h1 h3 y0_3 y0_4 y0_6 y0_18 h4 y0_22 y0_23 y0_24 y0_25 y0_26 y0_33 h5 y0_38 y0_39 y0_40 y0_41 y0_42 y0_43 y0_45 y0_46 y0_47 y0_48 _ x0_5 x0_7 x0_8 x0_9 x0_10 x0_11 x0_12 x0_13 x0_14 x0_15 x0_16 x0_17 x0_19 x0_20 x0_27_25 x0_28 x0_29 x0_30 x0_31 x0_32 x0_35_25 x0_36_25 x0_37_25 x0_44 x0_49 x0_50 a2 F _ hc_r_27_7) yk_X11_dataNow wd_1398 ⟨rfl, rfl, by decide, by decide⟩ ⟨Nat.le_refl _, Nat.le_refl _⟩ hX hK hP hD hS hA [0, 2] [1, 3, 4, 5] [4, 0, 5, 1, 2, 3] (va_recv hK hP (ci := 11) (q0 := 0) rfl rfl) rfl rfl (by decide) rfl rfl rfl rfl rfl hl.1 rfl (Nat.le_of_ble_eq_true rfl) dX11_layChange_27 (fun H locs hP hD hS => ?_)
      refine lv_icmp_ge (tgt := 131) hx hb dX11_layChange_30 (by decide) (fun c9 => ?_) (fun c9 => ?_)
      · have hf := of_pos hf c9
        refine lv_aload_n hx hb dX11_layChange_131 rfl (lv_at hl 0 rfl) ?_
        refine va_get (ci := 11) (v := .int x0_35_25) (C := RX11) (T := TX11) (N := 51) hx hb ht0 iX11 hown hK hP 0 rfl rfl 35 (by decide) (ht0 _ wd_1441) (fun _ h9 => h9) rfl dX11_layChange_132 ?_
        refine lv_if_lt (tgt := 142) hx hb dX11_layChange_135 (by decide) (fun c10 => ?_) (fun c10 => ?_)
        · have hf := of_pos hf c10
          refine lv_iconst (v := (0 : Int32)) hx hb dX11_layChange_142 (by decide) ?_
          cases hf
          exact ret_z hx hb hr hlk hK hP hD hS (by decide) dX11_layChange_143
        · have hf := of_neg hf c10
          refine lv_iconst (v := (1 : Int32)) hx hb dX11_layChange_138 (by decide) ?_
          refine lv_goto (tgt := 143) hx hb dX11_layChange_139 (by decide) ?_
          cases hf
          exact ret_z hx hb hr hlk hK hP hD hS (by decide) dX11_layChange_143
      · have hf := of_neg hf c9
        refine lv_aload_n hx hb dX11_layChange_33 rfl (lv_at hl 0 rfl) ?_
        refine lv_iload_n hx hb dX11_layChange_34 rfl (lv_at hl 2 rfl) ?_
        obtain ⟨r_35_10_a4, hc_r_35_10, hf⟩ := of_bnd hf
        refine cl_Vv (w2 := (wW_X11_layChange G h0 h1 h2 h3 h4 h5 y0_3 y0_4 y0_6 y0_18 y0_22 y0_23 y0_24 y0_25 y0_26 y0_33 y0_38 y0_39 y0_40 y0_41 y0_42 y0_43 y0_45 y0_46 y0_47 y0_48 x0_5 x0_7 x0_8 x0_9 x0_10 x0_11 x0_12 x0_13 x0_14 x0_15 x0_16 x0_17 x0_19 x0_20 x0_27_25 x0_28 x0_29 x0_30 x0_31 x0_32 x0_35_25 x0_36_25 x0_37_25 x0_44 x0_49 x0_50 a1 a2 a3 a4_25 r_35_10_a4)) (As := [.int u25_2]) (rest := []) ⟨hx, hb, hml, hown, ht0⟩ (c_X11_layThrees l G h0 h1 h2 h3 h5 y0_3 y0_4 y0_6 y0_18 h4 y0_22 y0_23 y0_24 y0_25 y0_26 y0_33 y0_38 y0_39 y0_40 y0_41 y0_42 y0_43 y0_45 y0_46 y0_47 y0_48 _ x0_5 x0_7 x0_8 x0_9 x0_10 x0_11 x0_12 x0_13 x0_14 x0_15 x0_16 x0_17 x0_19 x0_20 x0_27_25 x0_28 x0_29 x0_30 x0_31 x0_32 x0_35_25 x0_36_25 x0_37_25 x0_44 x0_49 x0_50 a1 a2 a3 a5_25 F u25_2 _ hc_r_35_10) yk_X11_layThrees wd_1778 ⟨rfl, rfl, by decide, by decide⟩ ⟨Nat.le_refl _, Nat.le_refl _⟩ hX hK hP hD hS hA [0, 1, 2, 3, 5] [4] [1, 2, 3, 4, 0, 5] (va_recv hK hP (ci := 11) (q0 := 0) rfl rfl) rfl rfl (by decide) rfl rfl rfl rfl rfl hl.1 rfl (Nat.le_of_ble_eq_true rfl) dX11_layChange_35 (fun H locs hP hD hS => ?_)
        refine lv_aload_n hx hb dX11_layChange_38 rfl (lv_at hl 0 rfl) ?_
        refine va_get (ci := 11) (v := .ref h5) (C := RX11) (T := TX11) (N := 51) hx hb ht0 iX11 hown hK hP 0 rfl rfl 34 (by decide) (ht0 _ wd_1440) (fun _ h9 => h9) rfl dX11_layChange_39 ?_
        refine lv_aload_n hx hb dX11_layChange_42 rfl (lv_at hl 0 rfl) ?_
        refine lv_iload_n hx hb dX11_layChange_43 rfl (lv_at hl 2 rfl) ?_
        obtain ⟨r_44_11, hc_r_44_11, hf⟩ := of_bnd hf
        refine cl_Vi (w2 := (wW_X11_layChange G h0 h1 h2 h3 h4 h5 y0_3 y0_4 y0_6 y0_18 y0_22 y0_23 y0_24 y0_25 y0_26 y0_33 y0_38 y0_39 y0_40 y0_41 y0_42 y0_43 y0_45 y0_46 y0_47 y0_48 x0_5 x0_7 x0_8 x0_9 x0_10 x0_11 x0_12 x0_13 x0_14 x0_15 x0_16 x0_17 x0_19 x0_20 x0_27_25 x0_28 x0_29 x0_30 x0_31 x0_32 x0_35_25 x0_36_25 x0_37_25 x0_44 x0_49 x0_50 a1 a2 a3 a4_25 r_35_10_a4)) (As := [.int u25_2]) (rest := [.ref h5]) ⟨hx, hb, hml, hown, ht0⟩ (c_X11_columnAt l G h0 h1 h2 h3 y0_3 y0_4 y0_6 y0_18 h4 y0_22 y0_23 y0_24 y0_25 y0_26 y0_33 h5 y0_38 y0_39 y0_40 y0_41 y0_42 y0_43 y0_45 y0_46 y0_47 y0_48 _ x0_5 x0_7 x0_8 x0_9 x0_10 x0_11 x0_12 x0_13 x0_14 x0_15 x0_16 x0_17 x0_19 x0_20 x0_27_25 x0_28 x0_29 x0_30 x0_31 x0_32 x0_35_25 x0_36_25 x0_37_25 x0_44 x0_49 x0_50 a1 F u25_2 _ hc_r_44_11) yk_X11_columnAt wd_1402 ⟨rfl, rfl, by decide, by decide⟩ ⟨Nat.le_refl _, Nat.le_refl _⟩ hX hK hP hD hS hA [0, 1] [2, 3, 4, 5] [4, 5, 0, 1, 2, 3] (va_recv hK hP (ci := 11) (q0 := 0) rfl rfl) rfl rfl (by decide) rfl rfl rfl rfl rfl hl.1 rfl (Nat.le_of_ble_eq_true rfl) dX11_layChange_44 (fun H locs hP hD hS => ?_)
        obtain ⟨g13, hf⟩ := of_grd hf
        refine va_iald hx hb hK hP 5 0 rfl rfl g13 dX11_layChange_47 ?_
        refine lv_istore_n (lv' := [(3, .int (r_35_10_a4 r_44_11.toNatClampNeg)), (0, .ref h0), (1, .int c25_1), (2, .int u25_2)]) hx hb dX11_layChange_48 rfl hl (by decide) rfl (fun ls hl => ?_)
        refine lv_iconst (v := (0 : Int32)) hx hb dX11_layChange_49 (by decide) ?_
        refine lv_istore (lv' := [(4, .int (0 : Int32)), (3, .int (r_35_10_a4 r_44_11.toNatClampNeg)), (0, .ref h0), (1, .int c25_1), (2, .int u25_2)]) hx hb dX11_layChange_50 hl (by decide) rfl (fun ls hl => ?_)
        exact kL52 _ _ _ _ _ _ _ _ _ _ hf _ _ hP hD hS _ (lv_sub hl [2, 3, 4, 1, 0] rfl)
  refine lv_aload_n hx hb dX11_layChange_0 rfl (lv_at hl 0 rfl) ?_
  refine lv_aload_n hx hb dX11_layChange_1 rfl (lv_at hl 0 rfl) ?_
  obtain ⟨r_2_13, hc_r_2_13, hf⟩ := of_bnd hf
  refine cl_Vi (w2 := (wW_X11_layChange G h0 h1 h2 h3 h4 h5 y0_3 y0_4 y0_6 y0_18 y0_22 y0_23 y0_24 y0_25 y0_26 y0_33 y0_38 y0_39 y0_40 y0_41 y0_42 y0_43 y0_45 y0_46 y0_47 y0_48 x0_5 x0_7 x0_8 x0_9 x0_10 x0_11 x0_12 x0_13 x0_14 x0_15 x0_16 x0_17 x0_19 x0_20 x0_27 x0_28 x0_29 x0_30 x0_31 x0_32 x0_35 x0_36 x0_37 x0_44 x0_49 x0_50 a1 a2 a3 a4 a5)) (As := []) (rest := [.ref h0]) ⟨hx, hb, hml, hown, ht0⟩ (c_X11_checksNow l G h0 h3 h1 h2 y0_3 y0_4 y0_6 y0_18 h4 y0_22 y0_23 y0_24 y0_25 y0_26 y0_33 h5 y0_38 y0_39 y0_40 y0_41 y0_42 y0_43 y0_45 y0_46 y0_47 y0_48 _ x0_5 x0_7 x0_8 x0_9 x0_10 x0_11 x0_12 x0_13 x0_14 x0_15 x0_16 x0_17 x0_19 x0_20 x0_27 x0_28 x0_29 x0_30 x0_31 x0_32 x0_35 x0_36 x0_37 x0_44 x0_49 x0_50 a3 F _ hc_r_2_13) yk_X11_checksNow wd_1576 ⟨rfl, rfl, by decide, by decide⟩ ⟨Nat.le_refl _, Nat.le_refl _⟩ hX hK hP hD hS hA [0, 3] [1, 2, 4, 5] [4, 0, 1, 5, 2, 3] (va_recv hK hP (ci := 11) (q0 := 0) rfl rfl) rfl rfl (by decide) rfl rfl rfl rfl rfl hl.1 rfl (Nat.le_of_ble_eq_true rfl) dX11_layChange_2 (fun H locs hP hD hS => ?_)
  obtain ⟨⟨r_5_14_x0_27, r_5_14_a1⟩, hc_r_5_14, hf⟩ := of_bnd hf
  refine cl_Vv (w2 := (wW_X11_layChange G h0 h1 h2 h3 h4 h5 y0_3 y0_4 y0_6 y0_18 y0_22 y0_23 y0_24 y0_25 y0_26 y0_33 y0_38 y0_39 y0_40 y0_41 y0_42 y0_43 y0_45 y0_46 y0_47 y0_48 x0_5 x0_7 x0_8 x0_9 x0_10 x0_11 x0_12 x0_13 x0_14 x0_15 x0_16 x0_17 x0_19 x0_20 r_5_14_x0_27 x0_28 x0_29 x0_30 x0_31 x0_32 x0_35 x0_36 x0_37 x0_44 x0_49 x0_50 a1 a2 a3 r_5_14_a1 a5)) (As := [.int r_2_13]) (rest := []) ⟨hx, hb, hml, hown, ht0⟩ (c_X11_layOrdered l G h0 h4 h1 h2 h3 y0_3 y0_4 y0_6 y0_18 y0_22 y0_23 y0_24 y0_25 y0_26 y0_33 h5 y0_38 y0_39 y0_40 y0_41 y0_42 y0_43 y0_45 y0_46 y0_47 y0_48 _ x0_5 x0_7 x0_8 x0_9 x0_10 x0_11 x0_12 x0_13 x0_14 x0_15 x0_16 x0_17 x0_19 x0_20 x0_27 x0_28 x0_29 x0_30 x0_31 x0_32 x0_35 x0_36 x0_37 x0_44 x0_49 x0_50 a4 F r_2_13 _ _ hc_r_5_14) yk_X11_layOrdered wd_1340 ⟨rfl, rfl, by decide, by decide⟩ ⟨Nat.le_refl _, Nat.le_refl _⟩ hX hK hP hD hS hA [0, 4] [1, 2, 3, 5] [4, 0, 1, 2, 5, 3] (va_recv hK hP (ci := 11) (q0 := 0) rfl rfl) rfl rfl (by decide) rfl rfl rfl rfl rfl hl.1 rfl (Nat.le_of_ble_eq_true rfl) dX11_layChange_5 (fun H locs hP hD hS => ?_)
  refine lv_aload_n hx hb dX11_layChange_8 rfl (lv_at hl 0 rfl) ?_
  obtain ⟨⟨r_9_15, r_9_15_a4⟩, hc_r_9_15, hf⟩ := of_bnd hf
  refine cl_Vi (w2 := (wW_X11_layChange G h0 h1 h2 h3 h4 h5 y0_3 y0_4 y0_6 y0_18 y0_22 y0_23 y0_24 y0_25 y0_26 y0_33 y0_38 y0_39 y0_40 y0_41 y0_42 y0_43 y0_45 y0_46 y0_47 y0_48 x0_5 x0_7 x0_8 x0_9 x0_10 x0_11 x0_12 x0_13 x0_14 x0_15 x0_16 x0_17 x0_19 x0_20 r_5_14_x0_27 x0_28 x0_29 x0_30 x0_31 x0_32 x0_35 x0_36 x0_37 x0_44 x0_49 x0_50 a1 a2 a3 r_5_14_a1 r_9_15_a4)) (As := []) (rest := []) ⟨hx, hb, hml, hown, ht0⟩ (c_X11_missed l G h0 h1 h2 h3 h5 y0_3 y0_4 y0_6 y0_18 h4 y0_22 y0_23 y0_24 y0_25 y0_26 y0_33 y0_38 y0_39 y0_40 y0_41 y0_42 y0_43 y0_45 y0_46 y0_47 y0_48 _ x0_5 x0_7 x0_8 x0_9 x0_10 x0_11 x0_12 x0_13 x0_14 x0_15 x0_16 x0_17 x0_19 x0_20 r_5_14_x0_27 x0_28 x0_29 x0_30 x0_31 x0_32 x0_35 x0_36 x0_37 x0_44 x0_49 x0_50 a1 a2 a3 a5 F _ _ hc_r_9_15) yk_X11_missed wd_1774 ⟨rfl, rfl, by decide, by decide⟩ ⟨Nat.le_refl _, Nat.le_refl _⟩ hX hK hP hD hS hA [0, 1, 2, 3, 5] [4] [1, 2, 3, 4, 0, 5] (va_recv hK hP (ci := 11) (q0 := 0) rfl rfl) rfl rfl (by decide) rfl rfl rfl rfl rfl hl.1 rfl (Nat.le_of_ble_eq_true rfl) dX11_layChange_9 (fun H locs hP hD hS => ?_)
  refine lv_istore_n (lv' := [(1, .int r_9_15), (0, .ref h0)]) hx hb dX11_layChange_12 rfl hl (by decide) rfl (fun ls hl => ?_)
  refine lv_aload_n hx hb dX11_layChange_13 rfl (lv_at hl 1 rfl) ?_
  refine lv_iload_n hx hb dX11_layChange_14 rfl (lv_at hl 0 rfl) ?_
  refine va_put (ci := 11) (v := .int r_9_15) (ty := .int) (C := RX11) (T := TX11) (N := 51) hx hb ht0 iX11 tyX11 tyX11_ok nmX11 hown hK hP hD hS 0 rfl rfl 37 (by decide) (ht0 _ wd_1443) (fun _ h9 => h9) rfl rfl rfl rfl (Nat.le_of_ble_eq_true rfl) dX11_layChange_15 (fun H locs hP hD hS => ?_)
  have hP : va_P G.1 vwCl (wW_X11_layChange G h0 h1 h2 h3 h4 h5 y0_3 y0_4 y0_6 y0_18 y0_22 y0_23 y0_24 y0_25 y0_26 y0_33 y0_38 y0_39 y0_40 y0_41 y0_42 y0_43 y0_45 y0_46 y0_47 y0_48 x0_5 x0_7 x0_8 x0_9 x0_10 x0_11 x0_12 x0_13 x0_14 x0_15 x0_16 x0_17 x0_19 x0_20 r_5_14_x0_27 x0_28 x0_29 x0_30 x0_31 x0_32 x0_35 x0_36 r_9_15 x0_44 x0_49 x0_50 a1 a2 a3 r_5_14_a1 r_9_15_a4) H := hP
  have hD : va_D A (wW_X11_layChange G h0 h1 h2 h3 h4 h5 y0_3 y0_4 y0_6 y0_18 y0_22 y0_23 y0_24 y0_25 y0_26 y0_33 y0_38 y0_39 y0_40 y0_41 y0_42 y0_43 y0_45 y0_46 y0_47 y0_48 x0_5 x0_7 x0_8 x0_9 x0_10 x0_11 x0_12 x0_13 x0_14 x0_15 x0_16 x0_17 x0_19 x0_20 r_5_14_x0_27 x0_28 x0_29 x0_30 x0_31 x0_32 x0_35 x0_36 r_9_15 x0_44 x0_49 x0_50 a1 a2 a3 r_5_14_a1 r_9_15_a4) := hD
  refine lv_aload_n hx hb dX11_layChange_18 rfl (lv_at hl 1 rfl) ?_
  refine lv_iconst (v := (-1 : Int32)) hx hb dX11_layChange_19 (by decide) ?_
  refine va_put (ci := 11) (v := .int (-1 : Int32)) (ty := .int) (C := RX11) (T := TX11) (N := 51) hx hb ht0 iX11 tyX11 tyX11_ok nmX11 hown hK hP hD hS 0 rfl rfl 35 (by decide) (ht0 _ wd_1441) (fun _ h9 => h9) rfl rfl rfl rfl (Nat.le_of_ble_eq_true rfl) dX11_layChange_20 (fun H locs hP hD hS => ?_)
  have hP : va_P G.1 vwCl (wW_X11_layChange G h0 h1 h2 h3 h4 h5 y0_3 y0_4 y0_6 y0_18 y0_22 y0_23 y0_24 y0_25 y0_26 y0_33 y0_38 y0_39 y0_40 y0_41 y0_42 y0_43 y0_45 y0_46 y0_47 y0_48 x0_5 x0_7 x0_8 x0_9 x0_10 x0_11 x0_12 x0_13 x0_14 x0_15 x0_16 x0_17 x0_19 x0_20 r_5_14_x0_27 x0_28 x0_29 x0_30 x0_31 x0_32 (-1 : Int32) x0_36 r_9_15 x0_44 x0_49 x0_50 a1 a2 a3 r_5_14_a1 r_9_15_a4) H := hP
  have hD : va_D A (wW_X11_layChange G h0 h1 h2 h3 h4 h5 y0_3 y0_4 y0_6 y0_18 y0_22 y0_23 y0_24 y0_25 y0_26 y0_33 y0_38 y0_39 y0_40 y0_41 y0_42 y0_43 y0_45 y0_46 y0_47 y0_48 x0_5 x0_7 x0_8 x0_9 x0_10 x0_11 x0_12 x0_13 x0_14 x0_15 x0_16 x0_17 x0_19 x0_20 r_5_14_x0_27 x0_28 x0_29 x0_30 x0_31 x0_32 (-1 : Int32) x0_36 r_9_15 x0_44 x0_49 x0_50 a1 a2 a3 r_5_14_a1 r_9_15_a4) := hD
  refine lv_iconst (v := (0 : Int32)) hx hb dX11_layChange_23 (by decide) ?_
  refine lv_istore_n (lv' := [(2, .int (0 : Int32)), (1, .int r_9_15), (0, .ref h0)]) hx hb dX11_layChange_24 rfl hl (by decide) rfl (fun ls hl => ?_)
  exact kL25 _ _ _ _ _ _ _ _ _ hf _ _ hP hD hS _ (lv_sub hl [2, 1, 0] rfl)
theorem yk_X11_layChange : ykV yX11_layChange RX11 cX11_layChange 6 (some .boolean) 0 := ⟨wd_1772, wd_103, wd_142, wd_1773, rfl, by decide +kernel, by decide +kernel, by decide +kernel⟩
theorem dX11_better_0 : decode cX11_better 0 = .ok (.aload_n 0, 1) := by decide +kernel
theorem dX11_better_1 : decode cX11_better 1 = .ok (.invokevirtual 384, 3) := by decide +kernel
theorem dX11_better_4 : decode cX11_better 4 = .ok (.ifCond .ne 5, 3) := by decide +kernel
theorem dX11_better_7 : decode cX11_better 7 = .ok (.iconst (-1), 1) := by decide +kernel
theorem dX11_better_8 : decode cX11_better 8 = .ok (.ireturn, 1) := by decide +kernel
theorem dX11_better_9 : decode cX11_better 9 = .ok (.aload_n 0, 1) := by decide +kernel
theorem dX11_better_10 : decode cX11_better 10 = .ok (.invokevirtual 356, 3) := by decide +kernel
theorem dX11_better_13 : decode cX11_better 13 = .ok (.aload_n 0, 1) := by decide +kernel
theorem dX11_better_14 : decode cX11_better 14 = .ok (.getfield 7, 3) := by decide +kernel
theorem dX11_better_17 : decode cX11_better 17 = .ok (.iconst 0, 1) := by decide +kernel
theorem dX11_better_18 : decode cX11_better 18 = .ok (.aload_n 0, 1) := by decide +kernel
theorem dX11_better_19 : decode cX11_better 19 = .ok (.getfield 387, 3) := by decide +kernel
theorem dX11_better_22 : decode cX11_better 22 = .ok (.iadd, 1) := by decide +kernel
theorem dX11_better_23 : decode cX11_better 23 = .ok (.aload_n 0, 1) := by decide +kernel
theorem dX11_better_24 : decode cX11_better 24 = .ok (.getfield 390, 3) := by decide +kernel
theorem dX11_better_27 : decode cX11_better 27 = .ok (.iastore, 1) := by decide +kernel
theorem dX11_better_28 : decode cX11_better 28 = .ok (.aload_n 0, 1) := by decide +kernel
theorem dX11_better_29 : decode cX11_better 29 = .ok (.invokevirtual 378, 3) := by decide +kernel
theorem dX11_better_32 : decode cX11_better 32 = .ok (.aload_n 0, 1) := by decide +kernel
theorem dX11_better_33 : decode cX11_better 33 = .ok (.getfield 393, 3) := by decide +kernel
theorem dX11_better_36 : decode cX11_better 36 = .ok (.ireturn, 1) := by decide +kernel
def wW_X11_better (G : GG) (h0 h1 h2 h3 h4 h5 h6 y0_3 y0_4 y0_6 y0_18 y0_22 y0_23 y0_24 y0_25 y0_26 y0_33 y0_38 y0_39 y0_40 y0_41 y0_42 y0_43 y0_45 y0_47 y0_48 : Nat) (x0_5 : Int32) (x0_7 : Int32) (x0_8 : Int32) (x0_9 : Int32) (x0_10 : Int32) (x0_11 : Int32) (x0_12 : Int32) (x0_13 : Int32) (x0_14 : Int32) (x0_15 : Int32) (x0_16 : Int32) (x0_17 : Int32) (x0_19 : Int32) (x0_20 : Int32) (x0_27 : Int32) (x0_28 : Int32) (x0_29 : Int32) (x0_30 : Int32) (x0_31 : Int32) (x0_32 : Int32) (x0_35 : Int32) (x0_36 : Int32) (x0_37 : Int32) (x0_44 : Int32) (x0_49 : Int32) (x0_50 : Int32) (a1 : Nat → Int32) (a2 : Nat → Int32) (a3 : Nat → Int32) (a4 : Nat → Int32) (a5 : Nat → Int32) (a6 : Nat → Int32) : va_W := [(h0, .inr (11, [.ref h1, .ref h2, .ref h3, .ref y0_3, .ref y0_4, .int x0_5, .ref y0_6, .int x0_7, .int x0_8, .int x0_9, .int x0_10, .int x0_11, .int x0_12, .int x0_13, .int x0_14, .int x0_15, .int x0_16, .int x0_17, .ref y0_18, .int x0_19, .int x0_20, .ref h4, .ref y0_22, .ref y0_23, .ref y0_24, .ref y0_25, .ref y0_26, .int x0_27, .int x0_28, .int x0_29, .int x0_30, .int x0_31, .int x0_32, .ref y0_33, .ref h5, .int x0_35, .int x0_36, .int x0_37, .ref y0_38, .ref y0_39, .ref y0_40, .ref y0_41, .ref y0_42, .ref y0_43, .int x0_44, .ref y0_45, .ref h6, .ref y0_47, .ref y0_48, .int x0_49, .int x0_50])), (h1, .inl (G.2.1, 121, .inl a1)), (h2, .inl (G.2.1, 2, .inl a2)), (h3, .inl (G.2.1, 2, .inl a3)), (h4, .inl (G.2.1, 128, .inl a4)), (h5, .inl (G.2.1, 256, .inl a5)), (h6, .inl (G.2.1, 1573, .inl a6))]
set_option maxHeartbeats 4000000 in
set_option maxRecDepth 100000 in
theorem c_X11_better (l : Launch) (G : GG) (h0 h1 h2 h3 h4 h5 h6 y0_3 y0_4 y0_6 y0_18 y0_22 y0_23 y0_24 y0_25 y0_26 y0_33 y0_38 y0_39 y0_40 y0_41 y0_42 y0_43 y0_45 y0_47 y0_48 : Nat) (sz : Nat) (x0_5 : Int32) (x0_7 : Int32) (x0_8 : Int32) (x0_9 : Int32) (x0_10 : Int32) (x0_11 : Int32) (x0_12 : Int32) (x0_13 : Int32) (x0_14 : Int32) (x0_15 : Int32) (x0_16 : Int32) (x0_17 : Int32) (x0_19 : Int32) (x0_20 : Int32) (x0_27 : Int32) (x0_28 : Int32) (x0_29 : Int32) (x0_30 : Int32) (x0_31 : Int32) (x0_32 : Int32) (x0_35 : Int32) (x0_36 : Int32) (x0_37 : Int32) (x0_44 : Int32) (x0_49 : Int32) (x0_50 : Int32) (a1 : Nat → Int32) (a2 : Nat → Int32) (a3 : Nat → Int32) (a4 : Nat → Int32) (a5 : Nat → Int32) (a6 : Nat → Int32) (F : Nat)   (r0 : Int32) (e_x0_27 : Int32) (e_x0_35 : Int32) (e_x0_36 : Int32) (e_x0_37 : Int32) (e_x0_49 : Int32) (e_x0_50 : Int32) (e_a1 : Nat → Int32) (e_a4 : Nat → Int32) (e_a5 : Nat → Int32) (e_a6 : Nat → Int32) (hf : p_X11_better F x0_5 x0_27 x0_35 x0_36 x0_37 x0_49 x0_50 a1 a2 a3 a4 a5 a6  = some (r0, e_x0_27, e_x0_35, e_x0_36, e_x0_37, e_x0_49, e_x0_50, e_a1, e_a4, e_a5, e_a6)) : Met l yX11_better (.code yX11_better cX11_better 1 (some .int) :: gtbl) ({ frames := 7, cells := 0, slots := 0, locals := 158 } : Room) (PcS G [.ref h0] (wW_X11_better G h0 h1 h2 h3 h4 h5 h6 y0_3 y0_4 y0_6 y0_18 y0_22 y0_23 y0_24 y0_25 y0_26 y0_33 y0_38 y0_39 y0_40 y0_41 y0_42 y0_43 y0_45 y0_47 y0_48 x0_5 x0_7 x0_8 x0_9 x0_10 x0_11 x0_12 x0_13 x0_14 x0_15 x0_16 x0_17 x0_19 x0_20 x0_27 x0_28 x0_29 x0_30 x0_31 x0_32 x0_35 x0_36 x0_37 x0_44 x0_49 x0_50 a1 a2 a3 a4 a5 a6) sz) (QiS G r0 (va_A (wW_X11_better G h0 h1 h2 h3 h4 h5 h6 y0_3 y0_4 y0_6 y0_18 y0_22 y0_23 y0_24 y0_25 y0_26 y0_33 y0_38 y0_39 y0_40 y0_41 y0_42 y0_43 y0_45 y0_47 y0_48 x0_5 x0_7 x0_8 x0_9 x0_10 x0_11 x0_12 x0_13 x0_14 x0_15 x0_16 x0_17 x0_19 x0_20 x0_27 x0_28 x0_29 x0_30 x0_31 x0_32 x0_35 x0_36 x0_37 x0_44 x0_49 x0_50 a1 a2 a3 a4 a5 a6) sz) (wW_X11_better G h0 h1 h2 h3 h4 h5 h6 y0_3 y0_4 y0_6 y0_18 y0_22 y0_23 y0_24 y0_25 y0_26 y0_33 y0_38 y0_39 y0_40 y0_41 y0_42 y0_43 y0_45 y0_47 y0_48 x0_5 x0_7 x0_8 x0_9 x0_10 x0_11 x0_12 x0_13 x0_14 x0_15 x0_16 x0_17 x0_19 x0_20 e_x0_27 x0_28 x0_29 x0_30 x0_31 x0_32 e_x0_35 e_x0_36 e_x0_37 x0_44 e_x0_49 e_x0_50 e_a1 a2 a3 e_a4 e_a5 e_a6)) 0 0 (va_A (wW_X11_better G h0 h1 h2 h3 h4 h5 h6 y0_3 y0_4 y0_6 y0_18 y0_22 y0_23 y0_24 y0_25 y0_26 y0_33 y0_38 y0_39 y0_40 y0_41 y0_42 y0_43 y0_45 y0_47 y0_48 x0_5 x0_7 x0_8 x0_9 x0_10 x0_11 x0_12 x0_13 x0_14 x0_15 x0_16 x0_17 x0_19 x0_20 x0_27 x0_28 x0_29 x0_30 x0_31 x0_32 x0_35 x0_36 x0_37 x0_44 x0_49 x0_50 a1 a2 a3 a4 a5 a6) sz) := by
  refine met_start (by decide) (Nat.le_of_ble_eq_true rfl) ?_
  intro p e s m below meth c hC hr hlk hnm hK hP hD hA hS hX ls hl
  obtain ⟨hx, hb, hml, hown, ht0⟩ := hC
  have hown : s.vm.findClass RX11 = some m.cls := hown
  generalize va_A (wW_X11_better G h0 h1 h2 h3 h4 h5 h6 y0_3 y0_4 y0_6 y0_18 y0_22 y0_23 y0_24 y0_25 y0_26 y0_33 y0_38 y0_39 y0_40 y0_41 y0_42 y0_43 y0_45 y0_47 y0_48 x0_5 x0_7 x0_8 x0_9 x0_10 x0_11 x0_12 x0_13 x0_14 x0_15 x0_16 x0_17 x0_19 x0_20 x0_27 x0_28 x0_29 x0_30 x0_31 x0_32 x0_35 x0_36 x0_37 x0_44 x0_49 x0_50 a1 a2 a3 a4 a5 a6) sz = A at hD hA hS hX ⊢
  have hl : lv_has ls 1 [(0, .ref h0)] := hl
  have hf : p_X11_better F x0_5 x0_27 x0_35 x0_36 x0_37 x0_49 x0_50 a1 a2 a3 a4 a5 a6  = some (r0, e_x0_27, e_x0_35, e_x0_36, e_x0_37, e_x0_49, e_x0_50, e_a1, e_a4, e_a5, e_a6) := hf
  refine lv_aload_n hx hb dX11_better_0 rfl (lv_at hl 0 rfl) ?_
  obtain ⟨⟨r_1_0, r_1_0_x0_27, r_1_0_x0_35, r_1_0_x0_36, r_1_0_x0_37, r_1_0_a4, r_1_0_a5⟩, hc_r_1_0, hf⟩ := of_bnd hf
  refine cl_Vi (w2 := (wW_X11_better G h0 h1 h2 h3 h4 h5 h6 y0_3 y0_4 y0_6 y0_18 y0_22 y0_23 y0_24 y0_25 y0_26 y0_33 y0_38 y0_39 y0_40 y0_41 y0_42 y0_43 y0_45 y0_47 y0_48 x0_5 x0_7 x0_8 x0_9 x0_10 x0_11 x0_12 x0_13 x0_14 x0_15 x0_16 x0_17 x0_19 x0_20 r_1_0_x0_27 x0_28 x0_29 x0_30 x0_31 x0_32 r_1_0_x0_35 r_1_0_x0_36 r_1_0_x0_37 x0_44 x0_49 x0_50 a1 a2 a3 r_1_0_a4 r_1_0_a5 a6)) (As := []) (rest := []) ⟨hx, hb, hml, hown, ht0⟩ (c_X11_layChange l G h0 h1 h2 h3 h4 h5 y0_3 y0_4 y0_6 y0_18 y0_22 y0_23 y0_24 y0_25 y0_26 y0_33 y0_38 y0_39 y0_40 y0_41 y0_42 y0_43 y0_45 h6 y0_47 y0_48 _ x0_5 x0_7 x0_8 x0_9 x0_10 x0_11 x0_12 x0_13 x0_14 x0_15 x0_16 x0_17 x0_19 x0_20 x0_27 x0_28 x0_29 x0_30 x0_31 x0_32 x0_35 x0_36 x0_37 x0_44 x0_49 x0_50 a1 a2 a3 a4 a5 F _ _ _ _ _ _ _ hc_r_1_0) yk_X11_layChange wd_1770 ⟨rfl, rfl, by decide, by decide⟩ ⟨Nat.le_refl _, Nat.le_refl _⟩ hX hK hP hD hS hA [0, 1, 2, 3, 4, 5] [6] [1, 2, 3, 4, 5, 6, 0] (va_recv hK hP (ci := 11) (q0 := 0) rfl rfl) rfl rfl (by decide) rfl rfl rfl rfl rfl hl.1 rfl (Nat.le_of_ble_eq_true rfl) dX11_better_1 (fun H locs hP hD hS => ?_)
  refine lv_if_ne (tgt := 9) hx hb dX11_better_4 (by decide) (fun c2 => ?_) (fun c2 => ?_)
  · have hf := of_neg hf c2
    refine lv_aload_n hx hb dX11_better_9 rfl (lv_at hl 0 rfl) ?_
    obtain ⟨⟨r_10_2_x0_49, r_10_2_x0_50, r_10_2_a2⟩, hc_r_10_2, hf⟩ := of_bnd hf
    refine cl_Vv (w2 := (wW_X11_better G h0 h1 h2 h3 h4 h5 h6 y0_3 y0_4 y0_6 y0_18 y0_22 y0_23 y0_24 y0_25 y0_26 y0_33 y0_38 y0_39 y0_40 y0_41 y0_42 y0_43 y0_45 y0_47 y0_48 x0_5 x0_7 x0_8 x0_9 x0_10 x0_11 x0_12 x0_13 x0_14 x0_15 x0_16 x0_17 x0_19 x0_20 r_1_0_x0_27 x0_28 x0_29 x0_30 x0_31 x0_32 r_1_0_x0_35 r_1_0_x0_36 r_1_0_x0_37 x0_44 r_10_2_x0_49 r_10_2_x0_50 a1 a2 a3 r_1_0_a4 r_1_0_a5 r_10_2_a2)) (As := []) (rest := []) ⟨hx, hb, hml, hown, ht0⟩ (c_X11_keepAct l G h0 h1 h6 h2 h3 y0_3 y0_4 y0_6 y0_18 h4 y0_22 y0_23 y0_24 y0_25 y0_26 y0_33 h5 y0_38 y0_39 y0_40 y0_41 y0_42 y0_43 y0_45 y0_47 y0_48 _ x0_5 x0_7 x0_8 x0_9 x0_10 x0_11 x0_12 x0_13 x0_14 x0_15 x0_16 x0_17 x0_19 x0_20 r_1_0_x0_27 x0_28 x0_29 x0_30 x0_31 x0_32 r_1_0_x0_35 r_1_0_x0_36 r_1_0_x0_37 x0_44 x0_49 x0_50 a1 a6 F _ _ _ hc_r_10_2) yk_X11_keepAct wd_1595 ⟨rfl, rfl, by decide, by decide⟩ ⟨Nat.le_refl _, Nat.le_refl _⟩ hX hK hP hD hS hA [0, 1, 6] [2, 3, 4, 5] [4, 5, 0, 1, 2, 3, 6] (va_recv hK hP (ci := 11) (q0 := 0) rfl rfl) rfl rfl (by decide) rfl rfl rfl rfl rfl hl.1 rfl (Nat.le_of_ble_eq_true rfl) dX11_better_10 (fun H locs hP hD hS => ?_)
    refine lv_aload_n hx hb dX11_better_13 rfl (lv_at hl 0 rfl) ?_
    refine va_get (ci := 11) (v := .ref h1) (C := RX11) (T := TX11) (N := 51) hx hb ht0 iX11 hown hK hP 0 rfl rfl 0 (by decide) (ht0 _ wd_1406) (fun _ h9 => h9) rfl dX11_better_14 ?_
    refine lv_iconst (v := (0 : Int32)) hx hb dX11_better_17 (by decide) ?_
    refine lv_aload_n hx hb dX11_better_18 rfl (lv_at hl 0 rfl) ?_
    refine va_get (ci := 11) (v := .int r_1_0_x0_35) (C := RX11) (T := TX11) (N := 51) hx hb ht0 iX11 hown hK hP 0 rfl rfl 35 (by decide) (ht0 _ wd_1441) (fun _ h9 => h9) rfl dX11_better_19 ?_
    refine lv_iadd hx hb dX11_better_22 ?_
    refine lv_aload_n hx hb dX11_better_23 rfl (lv_at hl 0 rfl) ?_
    refine va_get (ci := 11) (v := .int r_1_0_x0_36) (C := RX11) (T := TX11) (N := 51) hx hb ht0 iX11 hown hK hP 0 rfl rfl 36 (by decide) (ht0 _ wd_1442) (fun _ h9 => h9) rfl dX11_better_24 ?_
    obtain ⟨g4, hf⟩ := of_grd hf
    refine va_iast hx hb hK hP hD hS 1 0 rfl rfl g4 dX11_better_27 (fun H locs hP hD hS => ?_)
    have hP : va_P G.1 vwCl (wW_X11_better G h0 h1 h2 h3 h4 h5 h6 y0_3 y0_4 y0_6 y0_18 y0_22 y0_23 y0_24 y0_25 y0_26 y0_33 y0_38 y0_39 y0_40 y0_41 y0_42 y0_43 y0_45 y0_47 y0_48 x0_5 x0_7 x0_8 x0_9 x0_10 x0_11 x0_12 x0_13 x0_14 x0_15 x0_16 x0_17 x0_19 x0_20 r_1_0_x0_27 x0_28 x0_29 x0_30 x0_31 x0_32 r_1_0_x0_35 r_1_0_x0_36 r_1_0_x0_37 x0_44 r_10_2_x0_49 r_10_2_x0_50 (upd a1 ((0 : Int32) + r_1_0_x0_35).toNatClampNeg r_1_0_x0_36) a2 a3 r_1_0_a4 r_1_0_a5 r_10_2_a2) H := hP
    have hD : va_D A (wW_X11_better G h0 h1 h2 h3 h4 h5 h6 y0_3 y0_4 y0_6 y0_18 y0_22 y0_23 y0_24 y0_25 y0_26 y0_33 y0_38 y0_39 y0_40 y0_41 y0_42 y0_43 y0_45 y0_47 y0_48 x0_5 x0_7 x0_8 x0_9 x0_10 x0_11 x0_12 x0_13 x0_14 x0_15 x0_16 x0_17 x0_19 x0_20 r_1_0_x0_27 x0_28 x0_29 x0_30 x0_31 x0_32 r_1_0_x0_35 r_1_0_x0_36 r_1_0_x0_37 x0_44 r_10_2_x0_49 r_10_2_x0_50 (upd a1 ((0 : Int32) + r_1_0_x0_35).toNatClampNeg r_1_0_x0_36) a2 a3 r_1_0_a4 r_1_0_a5 r_10_2_a2) := hD
    refine lv_aload_n hx hb dX11_better_28 rfl (lv_at hl 0 rfl) ?_
    obtain ⟨r_29_4_a1, hc_r_29_4, hf⟩ := of_bnd hf
    refine cl_Vv (w2 := (wW_X11_better G h0 h1 h2 h3 h4 h5 h6 y0_3 y0_4 y0_6 y0_18 y0_22 y0_23 y0_24 y0_25 y0_26 y0_33 y0_38 y0_39 y0_40 y0_41 y0_42 y0_43 y0_45 y0_47 y0_48 x0_5 x0_7 x0_8 x0_9 x0_10 x0_11 x0_12 x0_13 x0_14 x0_15 x0_16 x0_17 x0_19 x0_20 r_1_0_x0_27 x0_28 x0_29 x0_30 x0_31 x0_32 r_1_0_x0_35 r_1_0_x0_36 r_1_0_x0_37 x0_44 r_10_2_x0_49 r_10_2_x0_50 r_29_4_a1 a2 a3 r_1_0_a4 r_1_0_a5 r_10_2_a2)) (As := []) (rest := []) ⟨hx, hb, hml, hown, ht0⟩ (c_X11_writeAnew l G h0 h1 h2 h3 y0_3 y0_4 y0_6 y0_18 h4 y0_22 y0_23 y0_24 y0_25 y0_26 y0_33 h5 y0_38 y0_39 y0_40 y0_41 y0_42 y0_43 y0_45 h6 y0_47 y0_48 _ x0_5 x0_7 x0_8 x0_9 x0_10 x0_11 x0_12 x0_13 x0_14 x0_15 x0_16 x0_17 x0_19 x0_20 r_1_0_x0_27 x0_28 x0_29 x0_30 x0_31 x0_32 r_1_0_x0_35 r_1_0_x0_36 r_1_0_x0_37 x0_44 r_10_2_x0_49 r_10_2_x0_50 (upd a1 ((0 : Int32) + r_1_0_x0_35).toNatClampNeg r_1_0_x0_36) a2 F _ hc_r_29_4) yk_X11_writeAnew wd_1746 ⟨rfl, rfl, by decide, by decide⟩ ⟨Nat.le_refl _, Nat.le_refl _⟩ hX hK hP hD hS hA [0, 1, 2] [3, 4, 5, 6] [4, 5, 6, 0, 1, 2, 3] (va_recv hK hP (ci := 11) (q0 := 0) rfl rfl) rfl rfl (by decide) rfl rfl rfl rfl rfl hl.1 rfl (Nat.le_of_ble_eq_true rfl) dX11_better_29 (fun H locs hP hD hS => ?_)
    refine lv_aload_n hx hb dX11_better_32 rfl (lv_at hl 0 rfl) ?_
    refine va_get (ci := 11) (v := .int r_1_0_x0_37) (C := RX11) (T := TX11) (N := 51) hx hb ht0 iX11 hown hK hP 0 rfl rfl 37 (by decide) (ht0 _ wd_1443) (fun _ h9 => h9) rfl dX11_better_33 ?_
    cases hf
    exact ret_i hx hb hr hlk hK hP hD hS dX11_better_36
  · have hf := of_pos hf c2
    refine lv_iconst (v := (-1 : Int32)) hx hb dX11_better_7 (by decide) ?_
    cases hf
    exact ret_i hx hb hr hlk hK hP hD hS dX11_better_8
theorem yk_X11_better : ykV yX11_better RX11 cX11_better 1 (some .int) 0 := ⟨wd_1767, wd_1768, wd_142, wd_1769, rfl, by decide +kernel, by decide +kernel, by decide +kernel⟩
theorem dX11_columnOf_0 : decode cX11_columnOf 0 = .ok (.aload_n 0, 1) := by decide +kernel
theorem dX11_columnOf_1 : decode cX11_columnOf 1 = .ok (.iload_n 1, 1) := by decide +kernel
theorem dX11_columnOf_2 : decode cX11_columnOf 2 = .ok (.invokevirtual 359, 3) := by decide +kernel
theorem dX11_columnOf_5 : decode cX11_columnOf 5 = .ok (.ifCond .eq 11, 3) := by decide +kernel
theorem dX11_columnOf_8 : decode cX11_columnOf 8 = .ok (.aload_n 0, 1) := by decide +kernel
theorem dX11_columnOf_9 : decode cX11_columnOf 9 = .ok (.iload_n 1, 1) := by decide +kernel
theorem dX11_columnOf_10 : decode cX11_columnOf 10 = .ok (.invokevirtual 269, 3) := by decide +kernel
theorem dX11_columnOf_13 : decode cX11_columnOf 13 = .ok (.goto 4, 3) := by decide +kernel
theorem dX11_columnOf_16 : decode cX11_columnOf 16 = .ok (.iconst (-1), 1) := by decide +kernel
theorem dX11_columnOf_17 : decode cX11_columnOf 17 = .ok (.ireturn, 1) := by decide +kernel
def wW_X11_columnOf (G : GG) (h0 h1 h2 h3 y0_3 y0_4 y0_6 y0_18 y0_21 y0_22 y0_23 y0_24 y0_25 y0_26 y0_33 y0_34 y0_38 y0_39 y0_40 y0_41 y0_42 y0_43 y0_45 y0_46 y0_47 y0_48 : Nat) (x0_5 : Int32) (x0_7 : Int32) (x0_8 : Int32) (x0_9 : Int32) (x0_10 : Int32) (x0_11 : Int32) (x0_12 : Int32) (x0_13 : Int32) (x0_14 : Int32) (x0_15 : Int32) (x0_16 : Int32) (x0_17 : Int32) (x0_19 : Int32) (x0_20 : Int32) (x0_27 : Int32) (x0_28 : Int32) (x0_29 : Int32) (x0_30 : Int32) (x0_31 : Int32) (x0_32 : Int32) (x0_35 : Int32) (x0_36 : Int32) (x0_37 : Int32) (x0_44 : Int32) (x0_49 : Int32) (x0_50 : Int32) (a1 : Nat → Int32) (a2 : Nat → Int32) (a3 : Nat → Int32) : va_W := [(h0, .inr (11, [.ref h1, .ref h2, .ref h3, .ref y0_3, .ref y0_4, .int x0_5, .ref y0_6, .int x0_7, .int x0_8, .int x0_9, .int x0_10, .int x0_11, .int x0_12, .int x0_13, .int x0_14, .int x0_15, .int x0_16, .int x0_17, .ref y0_18, .int x0_19, .int x0_20, .ref y0_21, .ref y0_22, .ref y0_23, .ref y0_24, .ref y0_25, .ref y0_26, .int x0_27, .int x0_28, .int x0_29, .int x0_30, .int x0_31, .int x0_32, .ref y0_33, .ref y0_34, .int x0_35, .int x0_36, .int x0_37, .ref y0_38, .ref y0_39, .ref y0_40, .ref y0_41, .ref y0_42, .ref y0_43, .int x0_44, .ref y0_45, .ref y0_46, .ref y0_47, .ref y0_48, .int x0_49, .int x0_50])), (h1, .inl (G.2.1, 121, .inl a1)), (h2, .inl (G.2.1, 2, .inl a2)), (h3, .inl (G.2.1, 2, .inl a3))]
set_option maxHeartbeats 4000000 in
set_option maxRecDepth 100000 in
theorem c_X11_columnOf (l : Launch) (G : GG) (h0 h1 h2 h3 y0_3 y0_4 y0_6 y0_18 y0_21 y0_22 y0_23 y0_24 y0_25 y0_26 y0_33 y0_34 y0_38 y0_39 y0_40 y0_41 y0_42 y0_43 y0_45 y0_46 y0_47 y0_48 : Nat) (sz : Nat) (x0_5 : Int32) (x0_7 : Int32) (x0_8 : Int32) (x0_9 : Int32) (x0_10 : Int32) (x0_11 : Int32) (x0_12 : Int32) (x0_13 : Int32) (x0_14 : Int32) (x0_15 : Int32) (x0_16 : Int32) (x0_17 : Int32) (x0_19 : Int32) (x0_20 : Int32) (x0_27 : Int32) (x0_28 : Int32) (x0_29 : Int32) (x0_30 : Int32) (x0_31 : Int32) (x0_32 : Int32) (x0_35 : Int32) (x0_36 : Int32) (x0_37 : Int32) (x0_44 : Int32) (x0_49 : Int32) (x0_50 : Int32) (a1 : Nat → Int32) (a2 : Nat → Int32) (a3 : Nat → Int32) (F : Nat) (b1 : Int32)  (r0 : Int32) (hf : p_X11_columnOf F x0_5 a1 a2 a3 b1 = some r0) : Met l yX11_columnOf (.code yX11_columnOf cX11_columnOf 2 (some .int) :: gtbl) ({ frames := 3, cells := 0, slots := 0, locals := 61 } : Room) (PcS G [.ref h0, .int b1] (wW_X11_columnOf G h0 h1 h2 h3 y0_3 y0_4 y0_6 y0_18 y0_21 y0_22 y0_23 y0_24 y0_25 y0_26 y0_33 y0_34 y0_38 y0_39 y0_40 y0_41 y0_42 y0_43 y0_45 y0_46 y0_47 y0_48 x0_5 x0_7 x0_8 x0_9 x0_10 x0_11 x0_12 x0_13 x0_14 x0_15 x0_16 x0_17 x0_19 x0_20 x0_27 x0_28 x0_29 x0_30 x0_31 x0_32 x0_35 x0_36 x0_37 x0_44 x0_49 x0_50 a1 a2 a3) sz) (QiS G r0 (va_A (wW_X11_columnOf G h0 h1 h2 h3 y0_3 y0_4 y0_6 y0_18 y0_21 y0_22 y0_23 y0_24 y0_25 y0_26 y0_33 y0_34 y0_38 y0_39 y0_40 y0_41 y0_42 y0_43 y0_45 y0_46 y0_47 y0_48 x0_5 x0_7 x0_8 x0_9 x0_10 x0_11 x0_12 x0_13 x0_14 x0_15 x0_16 x0_17 x0_19 x0_20 x0_27 x0_28 x0_29 x0_30 x0_31 x0_32 x0_35 x0_36 x0_37 x0_44 x0_49 x0_50 a1 a2 a3) sz) (wW_X11_columnOf G h0 h1 h2 h3 y0_3 y0_4 y0_6 y0_18 y0_21 y0_22 y0_23 y0_24 y0_25 y0_26 y0_33 y0_34 y0_38 y0_39 y0_40 y0_41 y0_42 y0_43 y0_45 y0_46 y0_47 y0_48 x0_5 x0_7 x0_8 x0_9 x0_10 x0_11 x0_12 x0_13 x0_14 x0_15 x0_16 x0_17 x0_19 x0_20 x0_27 x0_28 x0_29 x0_30 x0_31 x0_32 x0_35 x0_36 x0_37 x0_44 x0_49 x0_50 a1 a2 a3)) 0 0 (va_A (wW_X11_columnOf G h0 h1 h2 h3 y0_3 y0_4 y0_6 y0_18 y0_21 y0_22 y0_23 y0_24 y0_25 y0_26 y0_33 y0_34 y0_38 y0_39 y0_40 y0_41 y0_42 y0_43 y0_45 y0_46 y0_47 y0_48 x0_5 x0_7 x0_8 x0_9 x0_10 x0_11 x0_12 x0_13 x0_14 x0_15 x0_16 x0_17 x0_19 x0_20 x0_27 x0_28 x0_29 x0_30 x0_31 x0_32 x0_35 x0_36 x0_37 x0_44 x0_49 x0_50 a1 a2 a3) sz) := by
  refine met_start (by decide) (Nat.le_of_ble_eq_true rfl) ?_
  intro p e s m below meth c hC hr hlk hnm hK hP hD hA hS hX ls hl
  obtain ⟨hx, hb, hml, hown, ht0⟩ := hC
  have hown : s.vm.findClass RX11 = some m.cls := hown
  generalize va_A (wW_X11_columnOf G h0 h1 h2 h3 y0_3 y0_4 y0_6 y0_18 y0_21 y0_22 y0_23 y0_24 y0_25 y0_26 y0_33 y0_34 y0_38 y0_39 y0_40 y0_41 y0_42 y0_43 y0_45 y0_46 y0_47 y0_48 x0_5 x0_7 x0_8 x0_9 x0_10 x0_11 x0_12 x0_13 x0_14 x0_15 x0_16 x0_17 x0_19 x0_20 x0_27 x0_28 x0_29 x0_30 x0_31 x0_32 x0_35 x0_36 x0_37 x0_44 x0_49 x0_50 a1 a2 a3) sz = A at hD hA hS hX ⊢
  have hl : lv_has ls 2 [(0, .ref h0), (1, .int b1)] := hl
  have hf : p_X11_columnOf F x0_5 a1 a2 a3 b1 = some r0 := hf
  refine lv_aload_n hx hb dX11_columnOf_0 rfl (lv_at hl 0 rfl) ?_
  refine lv_iload_n hx hb dX11_columnOf_1 rfl (lv_at hl 1 rfl) ?_
  obtain ⟨r_2_0, hc_r_2_0, hf⟩ := of_bnd hf
  refine cl_Vi (w2 := (wW_X11_columnOf G h0 h1 h2 h3 y0_3 y0_4 y0_6 y0_18 y0_21 y0_22 y0_23 y0_24 y0_25 y0_26 y0_33 y0_34 y0_38 y0_39 y0_40 y0_41 y0_42 y0_43 y0_45 y0_46 y0_47 y0_48 x0_5 x0_7 x0_8 x0_9 x0_10 x0_11 x0_12 x0_13 x0_14 x0_15 x0_16 x0_17 x0_19 x0_20 x0_27 x0_28 x0_29 x0_30 x0_31 x0_32 x0_35 x0_36 x0_37 x0_44 x0_49 x0_50 a1 a2 a3)) (As := [.int b1]) (rest := []) ⟨hx, hb, hml, hown, ht0⟩ (c_X11_isPlace l G h0 h2 h3 h1 y0_3 y0_4 y0_6 y0_18 y0_21 y0_22 y0_23 y0_24 y0_25 y0_26 y0_33 y0_34 y0_38 y0_39 y0_40 y0_41 y0_42 y0_43 y0_45 y0_46 y0_47 y0_48 _ x0_5 x0_7 x0_8 x0_9 x0_10 x0_11 x0_12 x0_13 x0_14 x0_15 x0_16 x0_17 x0_19 x0_20 x0_27 x0_28 x0_29 x0_30 x0_31 x0_32 x0_35 x0_36 x0_37 x0_44 x0_49 x0_50 a2 a3 F b1 _ hc_r_2_0) yk_X11_isPlace wd_1691 ⟨rfl, rfl, by decide, by decide⟩ ⟨Nat.le_refl _, Nat.le_refl _⟩ hX hK hP hD hS hA [0, 2, 3] [1] [1, 0, 2, 3] (va_recv hK hP (ci := 11) (q0 := 0) rfl rfl) rfl rfl (by decide) rfl rfl rfl rfl rfl hl.1 rfl (Nat.le_of_ble_eq_true rfl) dX11_columnOf_2 (fun H locs hP hD hS => ?_)
  refine lv_if_eq (tgt := 16) hx hb dX11_columnOf_5 (by decide) (fun c2 => ?_) (fun c2 => ?_)
  · have hf := of_pos hf c2
    refine lv_iconst (v := (-1 : Int32)) hx hb dX11_columnOf_16 (by decide) ?_
    cases hf
    exact ret_i hx hb hr hlk hK hP hD hS dX11_columnOf_17
  · have hf := of_neg hf c2
    refine lv_aload_n hx hb dX11_columnOf_8 rfl (lv_at hl 0 rfl) ?_
    refine lv_iload_n hx hb dX11_columnOf_9 rfl (lv_at hl 1 rfl) ?_
    obtain ⟨r_10_2, hc_r_10_2, hf⟩ := of_bnd hf
    refine cl_Vi (w2 := (wW_X11_columnOf G h0 h1 h2 h3 y0_3 y0_4 y0_6 y0_18 y0_21 y0_22 y0_23 y0_24 y0_25 y0_26 y0_33 y0_34 y0_38 y0_39 y0_40 y0_41 y0_42 y0_43 y0_45 y0_46 y0_47 y0_48 x0_5 x0_7 x0_8 x0_9 x0_10 x0_11 x0_12 x0_13 x0_14 x0_15 x0_16 x0_17 x0_19 x0_20 x0_27 x0_28 x0_29 x0_30 x0_31 x0_32 x0_35 x0_36 x0_37 x0_44 x0_49 x0_50 a1 a2 a3)) (As := [.int b1]) (rest := []) ⟨hx, hb, hml, hown, ht0⟩ (c_X11_columnAt l G h0 h1 h2 h3 y0_3 y0_4 y0_6 y0_18 y0_21 y0_22 y0_23 y0_24 y0_25 y0_26 y0_33 y0_34 y0_38 y0_39 y0_40 y0_41 y0_42 y0_43 y0_45 y0_46 y0_47 y0_48 _ x0_5 x0_7 x0_8 x0_9 x0_10 x0_11 x0_12 x0_13 x0_14 x0_15 x0_16 x0_17 x0_19 x0_20 x0_27 x0_28 x0_29 x0_30 x0_31 x0_32 x0_35 x0_36 x0_37 x0_44 x0_49 x0_50 a1 F b1 _ hc_r_10_2) yk_X11_columnAt wd_1402 ⟨rfl, rfl, by decide, by decide⟩ ⟨Nat.le_refl _, Nat.le_refl _⟩ hX hK hP hD hS hA [0, 1] [2, 3] [2, 3, 0, 1] (va_recv hK hP (ci := 11) (q0 := 0) rfl rfl) rfl rfl (by decide) rfl rfl rfl rfl rfl hl.1 rfl (Nat.le_of_ble_eq_true rfl) dX11_columnOf_10 (fun H locs hP hD hS => ?_)
    refine lv_goto (tgt := 17) hx hb dX11_columnOf_13 (by decide) ?_
    cases hf
    exact ret_i hx hb hr hlk hK hP hD hS dX11_columnOf_17
theorem yk_X11_columnOf : ykV yX11_columnOf RX11 cX11_columnOf 2 (some .int) 1 := ⟨wd_1783, wd_1784, wd_142, wd_1785, rfl, by decide +kernel, by decide +kernel, by decide +kernel⟩
theorem dX11_wiresOf_0 : decode cX11_wiresOf 0 = .ok (.iconst 0, 1) := by decide +kernel
theorem dX11_wiresOf_1 : decode cX11_wiresOf 1 = .ok (.istore_n 2, 1) := by decide +kernel
theorem dX11_wiresOf_2 : decode cX11_wiresOf 2 = .ok (.iconst 0, 1) := by decide +kernel
theorem dX11_wiresOf_3 : decode cX11_wiresOf 3 = .ok (.istore_n 3, 1) := by decide +kernel
theorem dX11_wiresOf_4 : decode cX11_wiresOf 4 = .ok (.iload_n 3, 1) := by decide +kernel
theorem dX11_wiresOf_5 : decode cX11_wiresOf 5 = .ok (.aload_n 0, 1) := by decide +kernel
theorem dX11_wiresOf_6 : decode cX11_wiresOf 6 = .ok (.invokevirtual 221, 3) := by decide +kernel
theorem dX11_wiresOf_9 : decode cX11_wiresOf 9 = .ok (.if_icmp .ge 21, 3) := by decide +kernel
theorem dX11_wiresOf_12 : decode cX11_wiresOf 12 = .ok (.iload_n 2, 1) := by decide +kernel
theorem dX11_wiresOf_13 : decode cX11_wiresOf 13 = .ok (.aload_n 0, 1) := by decide +kernel
theorem dX11_wiresOf_14 : decode cX11_wiresOf 14 = .ok (.iload_n 3, 1) := by decide +kernel
theorem dX11_wiresOf_15 : decode cX11_wiresOf 15 = .ok (.invokevirtual 269, 3) := by decide +kernel
theorem dX11_wiresOf_18 : decode cX11_wiresOf 18 = .ok (.iload_n 1, 1) := by decide +kernel
theorem dX11_wiresOf_19 : decode cX11_wiresOf 19 = .ok (.ishr, 1) := by decide +kernel
theorem dX11_wiresOf_20 : decode cX11_wiresOf 20 = .ok (.iconst 1, 1) := by decide +kernel
theorem dX11_wiresOf_21 : decode cX11_wiresOf 21 = .ok (.iand, 1) := by decide +kernel
theorem dX11_wiresOf_22 : decode cX11_wiresOf 22 = .ok (.iadd, 1) := by decide +kernel
theorem dX11_wiresOf_23 : decode cX11_wiresOf 23 = .ok (.istore_n 2, 1) := by decide +kernel
theorem dX11_wiresOf_24 : decode cX11_wiresOf 24 = .ok (.iinc 3 1, 3) := by decide +kernel
theorem dX11_wiresOf_27 : decode cX11_wiresOf 27 = .ok (.goto (-23), 3) := by decide +kernel
theorem dX11_wiresOf_30 : decode cX11_wiresOf 30 = .ok (.iload_n 2, 1) := by decide +kernel
theorem dX11_wiresOf_31 : decode cX11_wiresOf 31 = .ok (.ireturn, 1) := by decide +kernel
def wW_X11_wiresOf (G : GG) (h0 h1 h2 y0_2 y0_3 y0_4 y0_6 y0_18 y0_21 y0_22 y0_23 y0_24 y0_25 y0_26 y0_33 y0_34 y0_38 y0_39 y0_40 y0_41 y0_42 y0_43 y0_45 y0_46 y0_47 y0_48 : Nat) (x0_5 : Int32) (x0_7 : Int32) (x0_8 : Int32) (x0_9 : Int32) (x0_10 : Int32) (x0_11 : Int32) (x0_12 : Int32) (x0_13 : Int32) (x0_14 : Int32) (x0_15 : Int32) (x0_16 : Int32) (x0_17 : Int32) (x0_19 : Int32) (x0_20 : Int32) (x0_27 : Int32) (x0_28 : Int32) (x0_29 : Int32) (x0_30 : Int32) (x0_31 : Int32) (x0_32 : Int32) (x0_35 : Int32) (x0_36 : Int32) (x0_37 : Int32) (x0_44 : Int32) (x0_49 : Int32) (x0_50 : Int32) (a1 : Nat → Int32) (a2 : Nat → Int32) : va_W := [(h0, .inr (11, [.ref h1, .ref h2, .ref y0_2, .ref y0_3, .ref y0_4, .int x0_5, .ref y0_6, .int x0_7, .int x0_8, .int x0_9, .int x0_10, .int x0_11, .int x0_12, .int x0_13, .int x0_14, .int x0_15, .int x0_16, .int x0_17, .ref y0_18, .int x0_19, .int x0_20, .ref y0_21, .ref y0_22, .ref y0_23, .ref y0_24, .ref y0_25, .ref y0_26, .int x0_27, .int x0_28, .int x0_29, .int x0_30, .int x0_31, .int x0_32, .ref y0_33, .ref y0_34, .int x0_35, .int x0_36, .int x0_37, .ref y0_38, .ref y0_39, .ref y0_40, .ref y0_41, .ref y0_42, .ref y0_43, .int x0_44, .ref y0_45, .ref y0_46, .ref y0_47, .ref y0_48, .int x0_49, .int x0_50])), (h1, .inl (G.2.1, 121, .inl a1)), (h2, .inl (G.2.1, 2, .inl a2))]
set_option maxHeartbeats 4000000 in
set_option maxRecDepth 100000 in
theorem c_X11_wiresOf (l : Launch) (G : GG) (h0 h1 h2 y0_2 y0_3 y0_4 y0_6 y0_18 y0_21 y0_22 y0_23 y0_24 y0_25 y0_26 y0_33 y0_34 y0_38 y0_39 y0_40 y0_41 y0_42 y0_43 y0_45 y0_46 y0_47 y0_48 : Nat) (sz : Nat) (x0_5 : Int32) (x0_7 : Int32) (x0_8 : Int32) (x0_9 : Int32) (x0_10 : Int32) (x0_11 : Int32) (x0_12 : Int32) (x0_13 : Int32) (x0_14 : Int32) (x0_15 : Int32) (x0_16 : Int32) (x0_17 : Int32) (x0_19 : Int32) (x0_20 : Int32) (x0_27 : Int32) (x0_28 : Int32) (x0_29 : Int32) (x0_30 : Int32) (x0_31 : Int32) (x0_32 : Int32) (x0_35 : Int32) (x0_36 : Int32) (x0_37 : Int32) (x0_44 : Int32) (x0_49 : Int32) (x0_50 : Int32) (a1 : Nat → Int32) (a2 : Nat → Int32) (F : Nat) (b1 : Int32)  (r0 : Int32) (hf : p_X11_wiresOf F x0_5 a1 a2 b1 = some r0) : Met l yX11_wiresOf (.code yX11_wiresOf cX11_wiresOf 4 (some .int) :: gtbl) ({ frames := 1, cells := 0, slots := 0, locals := 21 } : Room) (PcS G [.ref h0, .int b1] (wW_X11_wiresOf G h0 h1 h2 y0_2 y0_3 y0_4 y0_6 y0_18 y0_21 y0_22 y0_23 y0_24 y0_25 y0_26 y0_33 y0_34 y0_38 y0_39 y0_40 y0_41 y0_42 y0_43 y0_45 y0_46 y0_47 y0_48 x0_5 x0_7 x0_8 x0_9 x0_10 x0_11 x0_12 x0_13 x0_14 x0_15 x0_16 x0_17 x0_19 x0_20 x0_27 x0_28 x0_29 x0_30 x0_31 x0_32 x0_35 x0_36 x0_37 x0_44 x0_49 x0_50 a1 a2) sz) (QiS G r0 (va_A (wW_X11_wiresOf G h0 h1 h2 y0_2 y0_3 y0_4 y0_6 y0_18 y0_21 y0_22 y0_23 y0_24 y0_25 y0_26 y0_33 y0_34 y0_38 y0_39 y0_40 y0_41 y0_42 y0_43 y0_45 y0_46 y0_47 y0_48 x0_5 x0_7 x0_8 x0_9 x0_10 x0_11 x0_12 x0_13 x0_14 x0_15 x0_16 x0_17 x0_19 x0_20 x0_27 x0_28 x0_29 x0_30 x0_31 x0_32 x0_35 x0_36 x0_37 x0_44 x0_49 x0_50 a1 a2) sz) (wW_X11_wiresOf G h0 h1 h2 y0_2 y0_3 y0_4 y0_6 y0_18 y0_21 y0_22 y0_23 y0_24 y0_25 y0_26 y0_33 y0_34 y0_38 y0_39 y0_40 y0_41 y0_42 y0_43 y0_45 y0_46 y0_47 y0_48 x0_5 x0_7 x0_8 x0_9 x0_10 x0_11 x0_12 x0_13 x0_14 x0_15 x0_16 x0_17 x0_19 x0_20 x0_27 x0_28 x0_29 x0_30 x0_31 x0_32 x0_35 x0_36 x0_37 x0_44 x0_49 x0_50 a1 a2)) 0 0 (va_A (wW_X11_wiresOf G h0 h1 h2 y0_2 y0_3 y0_4 y0_6 y0_18 y0_21 y0_22 y0_23 y0_24 y0_25 y0_26 y0_33 y0_34 y0_38 y0_39 y0_40 y0_41 y0_42 y0_43 y0_45 y0_46 y0_47 y0_48 x0_5 x0_7 x0_8 x0_9 x0_10 x0_11 x0_12 x0_13 x0_14 x0_15 x0_16 x0_17 x0_19 x0_20 x0_27 x0_28 x0_29 x0_30 x0_31 x0_32 x0_35 x0_36 x0_37 x0_44 x0_49 x0_50 a1 a2) sz) := by
  refine met_start (by decide) (Nat.le_of_ble_eq_true rfl) ?_
  intro p e s m below meth c hC hr hlk hnm hK hP hD hA hS hX ls hl
  obtain ⟨hx, hb, hml, hown, ht0⟩ := hC
  have hown : s.vm.findClass RX11 = some m.cls := hown
  generalize va_A (wW_X11_wiresOf G h0 h1 h2 y0_2 y0_3 y0_4 y0_6 y0_18 y0_21 y0_22 y0_23 y0_24 y0_25 y0_26 y0_33 y0_34 y0_38 y0_39 y0_40 y0_41 y0_42 y0_43 y0_45 y0_46 y0_47 y0_48 x0_5 x0_7 x0_8 x0_9 x0_10 x0_11 x0_12 x0_13 x0_14 x0_15 x0_16 x0_17 x0_19 x0_20 x0_27 x0_28 x0_29 x0_30 x0_31 x0_32 x0_35 x0_36 x0_37 x0_44 x0_49 x0_50 a1 a2) sz = A at hD hA hS hX ⊢
  have hl : lv_has ls 4 [(0, .ref h0), (1, .int b1)] := hl
  have hf : p_X11_wiresOf F x0_5 a1 a2 b1 = some r0 := hf
  have kL4 : ∀ (c4_1 : Int32) (n4 : Nat) (u4_2 : Int32) (u4_3 : Int32), p_X11_wiresOf_L4 F x0_5 a1 a2 c4_1 n4 u4_2 u4_3 = some r0 → ∀ (H : Heap) (locs : List Loc), va_P G.1 vwCl (wW_X11_wiresOf G h0 h1 h2 y0_2 y0_3 y0_4 y0_6 y0_18 y0_21 y0_22 y0_23 y0_24 y0_25 y0_26 y0_33 y0_34 y0_38 y0_39 y0_40 y0_41 y0_42 y0_43 y0_45 y0_46 y0_47 y0_48 x0_5 x0_7 x0_8 x0_9 x0_10 x0_11 x0_12 x0_13 x0_14 x0_15 x0_16 x0_17 x0_19 x0_20 x0_27 x0_28 x0_29 x0_30 x0_31 x0_32 x0_35 x0_36 x0_37 x0_44 x0_49 x0_50 a1 a2) H → va_D A (wW_X11_wiresOf G h0 h1 h2 y0_2 y0_3 y0_4 y0_6 y0_18 y0_21 y0_22 y0_23 y0_24 y0_25 y0_26 y0_33 y0_34 y0_38 y0_39 y0_40 y0_41 y0_42 y0_43 y0_45 y0_46 y0_47 y0_48 x0_5 x0_7 x0_8 x0_9 x0_10 x0_11 x0_12 x0_13 x0_14 x0_15 x0_16 x0_17 x0_19 x0_20 x0_27 x0_28 x0_29 x0_30 x0_31 x0_32 x0_35 x0_36 x0_37 x0_44 x0_49 x0_50 a1 a2) → va_S A s.heap H locs → ∀ ls : Array Slot, lv_has ls 4 [(0, .ref h0), (1, .int c4_1), (2, .int u4_2), (3, .int u4_3)] → W p l e ({ frames := 1, cells := 0, slots := 0, locals := 21 } : Room) s m (List.toArray [.ref h0, .int b1]) below meth c H locs 0 0 (MQ below (QiS G r0 A (wW_X11_wiresOf G h0 h1 h2 y0_2 y0_3 y0_4 y0_6 y0_18 y0_21 y0_22 y0_23 y0_24 y0_25 y0_26 y0_33 y0_34 y0_38 y0_39 y0_40 y0_41 y0_42 y0_43 y0_45 y0_46 y0_47 y0_48 x0_5 x0_7 x0_8 x0_9 x0_10 x0_11 x0_12 x0_13 x0_14 x0_15 x0_16 x0_17 x0_19 x0_20 x0_27 x0_28 x0_29 x0_30 x0_31 x0_32 x0_35 x0_36 x0_37 x0_44 x0_49 x0_50 a1 a2)) (List.toArray [.ref h0, .int b1]) s 0 0 A) (F0 m 4 ls []) := by
    intro c4_1 n4
    induction n4 with
    | zero =>
      intro u4_2 u4_3 hf
      cases hf
    | succ n4 ih4 =>
      intro u4_2 u4_3 hf H locs hP hD hS ls hl
      have hf : p_X11_wiresOf_L4b F x0_5 a1 a2 c4_1 (p_X11_wiresOf_L4 F x0_5 a1 a2 c4_1 n4) u4_2 u4_3 = some r0 := hf
      refine lv_iload_n hx hb dX11_wiresOf_4 rfl (lv_at hl 3 rfl) ?_
      refine lv_aload_n hx hb dX11_wiresOf_5 rfl (lv_at hl 0 rfl) ?_
      obtain ⟨r_6_0, hc_r_6_0, hf⟩ := of_bnd hf
      refine cl_Vi (w2 := (wW_X11_wiresOf G h0 h1 h2 y0_2 y0_3 y0_4 y0_6 y0_18 y0_21 y0_22 y0_23 y0_24 y0_25 y0_26 y0_33 y0_34 y0_38 y0_39 y0_40 y0_41 y0_42 y0_43 y0_45 y0_46 y0_47 y0_48 x0_5 x0_7 x0_8 x0_9 x0_10 x0_11 x0_12 x0_13 x0_14 x0_15 x0_16 x0_17 x0_19 x0_20 x0_27 x0_28 x0_29 x0_30 x0_31 x0_32 x0_35 x0_36 x0_37 x0_44 x0_49 x0_50 a1 a2)) (As := []) (rest := [.int u4_3]) ⟨hx, hb, hml, hown, ht0⟩ (c_X11_dataNow l G h0 h2 h1 y0_2 y0_3 y0_4 y0_6 y0_18 y0_21 y0_22 y0_23 y0_24 y0_25 y0_26 y0_33 y0_34 y0_38 y0_39 y0_40 y0_41 y0_42 y0_43 y0_45 y0_46 y0_47 y0_48 _ x0_5 x0_7 x0_8 x0_9 x0_10 x0_11 x0_12 x0_13 x0_14 x0_15 x0_16 x0_17 x0_19 x0_20 x0_27 x0_28 x0_29 x0_30 x0_31 x0_32 x0_35 x0_36 x0_37 x0_44 x0_49 x0_50 a2 F _ hc_r_6_0) yk_X11_dataNow wd_1398 ⟨rfl, rfl, by decide, by decide⟩ ⟨Nat.le_refl _, Nat.le_refl _⟩ hX hK hP hD hS hA [0, 2] [1] [1, 0, 2] (va_recv hK hP (ci := 11) (q0 := 0) rfl rfl) rfl rfl (by decide) rfl rfl rfl rfl rfl hl.1 rfl (Nat.le_of_ble_eq_true rfl) dX11_wiresOf_6 (fun H locs hP hD hS => ?_)
      refine lv_icmp_ge (tgt := 30) hx hb dX11_wiresOf_9 (by decide) (fun c2 => ?_) (fun c2 => ?_)
      · have hf := of_pos hf c2
        refine lv_iload_n hx hb dX11_wiresOf_30 rfl (lv_at hl 2 rfl) ?_
        cases hf
        exact ret_i hx hb hr hlk hK hP hD hS dX11_wiresOf_31
      · have hf := of_neg hf c2
        refine lv_iload_n hx hb dX11_wiresOf_12 rfl (lv_at hl 2 rfl) ?_
        refine lv_aload_n hx hb dX11_wiresOf_13 rfl (lv_at hl 0 rfl) ?_
        refine lv_iload_n hx hb dX11_wiresOf_14 rfl (lv_at hl 3 rfl) ?_
        obtain ⟨r_15_2, hc_r_15_2, hf⟩ := of_bnd hf
        refine cl_Vi (w2 := (wW_X11_wiresOf G h0 h1 h2 y0_2 y0_3 y0_4 y0_6 y0_18 y0_21 y0_22 y0_23 y0_24 y0_25 y0_26 y0_33 y0_34 y0_38 y0_39 y0_40 y0_41 y0_42 y0_43 y0_45 y0_46 y0_47 y0_48 x0_5 x0_7 x0_8 x0_9 x0_10 x0_11 x0_12 x0_13 x0_14 x0_15 x0_16 x0_17 x0_19 x0_20 x0_27 x0_28 x0_29 x0_30 x0_31 x0_32 x0_35 x0_36 x0_37 x0_44 x0_49 x0_50 a1 a2)) (As := [.int u4_3]) (rest := [.int u4_2]) ⟨hx, hb, hml, hown, ht0⟩ (c_X11_columnAt l G h0 h1 h2 y0_2 y0_3 y0_4 y0_6 y0_18 y0_21 y0_22 y0_23 y0_24 y0_25 y0_26 y0_33 y0_34 y0_38 y0_39 y0_40 y0_41 y0_42 y0_43 y0_45 y0_46 y0_47 y0_48 _ x0_5 x0_7 x0_8 x0_9 x0_10 x0_11 x0_12 x0_13 x0_14 x0_15 x0_16 x0_17 x0_19 x0_20 x0_27 x0_28 x0_29 x0_30 x0_31 x0_32 x0_35 x0_36 x0_37 x0_44 x0_49 x0_50 a1 F u4_3 _ hc_r_15_2) yk_X11_columnAt wd_1402 ⟨rfl, rfl, by decide, by decide⟩ ⟨Nat.le_refl _, Nat.le_refl _⟩ hX hK hP hD hS hA [0, 1] [2] [1, 2, 0] (va_recv hK hP (ci := 11) (q0 := 0) rfl rfl) rfl rfl (by decide) rfl rfl rfl rfl rfl hl.1 rfl (Nat.le_of_ble_eq_true rfl) dX11_wiresOf_15 (fun H locs hP hD hS => ?_)
        refine lv_iload_n hx hb dX11_wiresOf_18 rfl (lv_at hl 1 rfl) ?_
        refine lv_ishr hx hb dX11_wiresOf_19 ?_
        refine lv_iconst (v := (1 : Int32)) hx hb dX11_wiresOf_20 (by decide) ?_
        refine lv_iand hx hb dX11_wiresOf_21 ?_
        refine lv_iadd hx hb dX11_wiresOf_22 ?_
        refine lv_topi (fun z4 ez4 => ?_)
        have hf := of_jlet hf ez4
        refine lv_istore_n (lv' := [(2, .int z4), (0, .ref h0), (1, .int c4_1), (3, .int u4_3)]) hx hb dX11_wiresOf_23 rfl hl (by decide) rfl (fun ls hl => ?_)
        refine lv_iinc (v := u4_3 + (1 : Int32)) (lv' := [(3, .int (u4_3 + (1 : Int32))), (2, .int z4), (0, .ref h0), (1, .int c4_1)]) hx hb dX11_wiresOf_24 hl (k := 3) rfl (by rfl) (by decide) rfl (fun ls hl => ?_)
        refine lv_goto (tgt := 4) hx hb dX11_wiresOf_27 (by decide) ?_
        exact ih4 _ _ hf _ _ hP hD hS _ (lv_sub hl [2, 3, 1, 0] rfl)
  refine lv_iconst (v := (0 : Int32)) hx hb dX11_wiresOf_0 (by decide) ?_
  refine lv_istore_n (lv' := [(2, .int (0 : Int32)), (0, .ref h0), (1, .int b1)]) hx hb dX11_wiresOf_1 rfl hl (by decide) rfl (fun ls hl => ?_)
  refine lv_iconst (v := (0 : Int32)) hx hb dX11_wiresOf_2 (by decide) ?_
  refine lv_istore_n (lv' := [(3, .int (0 : Int32)), (2, .int (0 : Int32)), (0, .ref h0), (1, .int b1)]) hx hb dX11_wiresOf_3 rfl hl (by decide) rfl (fun ls hl => ?_)
  exact kL4 _ _ _ _ hf _ _ hP hD hS _ (lv_sub hl [2, 3, 1, 0] rfl)
theorem yk_X11_wiresOf : ykV yX11_wiresOf RX11 cX11_wiresOf 4 (some .int) 1 := ⟨wd_1792, wd_106, wd_142, wd_1793, rfl, by decide +kernel, by decide +kernel, by decide +kernel⟩
theorem dX11_deepOf_0 : decode cX11_deepOf 0 = .ok (.aload_n 0, 1) := by decide +kernel
theorem dX11_deepOf_1 : decode cX11_deepOf 1 = .ok (.iload_n 1, 1) := by decide +kernel
theorem dX11_deepOf_2 : decode cX11_deepOf 2 = .ok (.invokevirtual 396, 3) := by decide +kernel
theorem dX11_deepOf_5 : decode cX11_deepOf 5 = .ok (.istore_n 2, 1) := by decide +kernel
theorem dX11_deepOf_6 : decode cX11_deepOf 6 = .ok (.iconst 0, 1) := by decide +kernel
theorem dX11_deepOf_7 : decode cX11_deepOf 7 = .ok (.istore_n 3, 1) := by decide +kernel
theorem dX11_deepOf_8 : decode cX11_deepOf 8 = .ok (.iconst 1, 1) := by decide +kernel
theorem dX11_deepOf_9 : decode cX11_deepOf 9 = .ok (.iload_n 3, 1) := by decide +kernel
theorem dX11_deepOf_10 : decode cX11_deepOf 10 = .ok (.ishl, 1) := by decide +kernel
theorem dX11_deepOf_11 : decode cX11_deepOf 11 = .ok (.iload_n 2, 1) := by decide +kernel
theorem dX11_deepOf_12 : decode cX11_deepOf 12 = .ok (.if_icmp .ge 9, 3) := by decide +kernel
theorem dX11_deepOf_15 : decode cX11_deepOf 15 = .ok (.iinc 3 1, 3) := by decide +kernel
theorem dX11_deepOf_18 : decode cX11_deepOf 18 = .ok (.goto (-10), 3) := by decide +kernel
theorem dX11_deepOf_21 : decode cX11_deepOf 21 = .ok (.iload_n 2, 1) := by decide +kernel
theorem dX11_deepOf_22 : decode cX11_deepOf 22 = .ok (.ifCond .ne 7, 3) := by decide +kernel
theorem dX11_deepOf_25 : decode cX11_deepOf 25 = .ok (.iconst (-1), 1) := by decide +kernel
theorem dX11_deepOf_26 : decode cX11_deepOf 26 = .ok (.goto 4, 3) := by decide +kernel
theorem dX11_deepOf_29 : decode cX11_deepOf 29 = .ok (.iload_n 3, 1) := by decide +kernel
theorem dX11_deepOf_30 : decode cX11_deepOf 30 = .ok (.ireturn, 1) := by decide +kernel
def wW_X11_deepOf (G : GG) (h0 h1 h2 y0_2 y0_3 y0_4 y0_6 y0_18 y0_21 y0_22 y0_23 y0_24 y0_25 y0_26 y0_33 y0_34 y0_38 y0_39 y0_40 y0_41 y0_42 y0_43 y0_45 y0_46 y0_47 y0_48 : Nat) (x0_5 : Int32) (x0_7 : Int32) (x0_8 : Int32) (x0_9 : Int32) (x0_10 : Int32) (x0_11 : Int32) (x0_12 : Int32) (x0_13 : Int32) (x0_14 : Int32) (x0_15 : Int32) (x0_16 : Int32) (x0_17 : Int32) (x0_19 : Int32) (x0_20 : Int32) (x0_27 : Int32) (x0_28 : Int32) (x0_29 : Int32) (x0_30 : Int32) (x0_31 : Int32) (x0_32 : Int32) (x0_35 : Int32) (x0_36 : Int32) (x0_37 : Int32) (x0_44 : Int32) (x0_49 : Int32) (x0_50 : Int32) (a1 : Nat → Int32) (a2 : Nat → Int32) : va_W := [(h0, .inr (11, [.ref h1, .ref h2, .ref y0_2, .ref y0_3, .ref y0_4, .int x0_5, .ref y0_6, .int x0_7, .int x0_8, .int x0_9, .int x0_10, .int x0_11, .int x0_12, .int x0_13, .int x0_14, .int x0_15, .int x0_16, .int x0_17, .ref y0_18, .int x0_19, .int x0_20, .ref y0_21, .ref y0_22, .ref y0_23, .ref y0_24, .ref y0_25, .ref y0_26, .int x0_27, .int x0_28, .int x0_29, .int x0_30, .int x0_31, .int x0_32, .ref y0_33, .ref y0_34, .int x0_35, .int x0_36, .int x0_37, .ref y0_38, .ref y0_39, .ref y0_40, .ref y0_41, .ref y0_42, .ref y0_43, .int x0_44, .ref y0_45, .ref y0_46, .ref y0_47, .ref y0_48, .int x0_49, .int x0_50])), (h1, .inl (G.2.1, 121, .inl a1)), (h2, .inl (G.2.1, 2, .inl a2))]
set_option maxHeartbeats 4000000 in
set_option maxRecDepth 100000 in
theorem c_X11_deepOf (l : Launch) (G : GG) (h0 h1 h2 y0_2 y0_3 y0_4 y0_6 y0_18 y0_21 y0_22 y0_23 y0_24 y0_25 y0_26 y0_33 y0_34 y0_38 y0_39 y0_40 y0_41 y0_42 y0_43 y0_45 y0_46 y0_47 y0_48 : Nat) (sz : Nat) (x0_5 : Int32) (x0_7 : Int32) (x0_8 : Int32) (x0_9 : Int32) (x0_10 : Int32) (x0_11 : Int32) (x0_12 : Int32) (x0_13 : Int32) (x0_14 : Int32) (x0_15 : Int32) (x0_16 : Int32) (x0_17 : Int32) (x0_19 : Int32) (x0_20 : Int32) (x0_27 : Int32) (x0_28 : Int32) (x0_29 : Int32) (x0_30 : Int32) (x0_31 : Int32) (x0_32 : Int32) (x0_35 : Int32) (x0_36 : Int32) (x0_37 : Int32) (x0_44 : Int32) (x0_49 : Int32) (x0_50 : Int32) (a1 : Nat → Int32) (a2 : Nat → Int32) (F : Nat) (b1 : Int32)  (r0 : Int32) (hf : p_X11_deepOf F x0_5 a1 a2 b1 = some r0) : Met l yX11_deepOf (.code yX11_deepOf cX11_deepOf 4 (some .int) :: gtbl) ({ frames := 2, cells := 0, slots := 0, locals := 44 } : Room) (PcS G [.ref h0, .int b1] (wW_X11_deepOf G h0 h1 h2 y0_2 y0_3 y0_4 y0_6 y0_18 y0_21 y0_22 y0_23 y0_24 y0_25 y0_26 y0_33 y0_34 y0_38 y0_39 y0_40 y0_41 y0_42 y0_43 y0_45 y0_46 y0_47 y0_48 x0_5 x0_7 x0_8 x0_9 x0_10 x0_11 x0_12 x0_13 x0_14 x0_15 x0_16 x0_17 x0_19 x0_20 x0_27 x0_28 x0_29 x0_30 x0_31 x0_32 x0_35 x0_36 x0_37 x0_44 x0_49 x0_50 a1 a2) sz) (QiS G r0 (va_A (wW_X11_deepOf G h0 h1 h2 y0_2 y0_3 y0_4 y0_6 y0_18 y0_21 y0_22 y0_23 y0_24 y0_25 y0_26 y0_33 y0_34 y0_38 y0_39 y0_40 y0_41 y0_42 y0_43 y0_45 y0_46 y0_47 y0_48 x0_5 x0_7 x0_8 x0_9 x0_10 x0_11 x0_12 x0_13 x0_14 x0_15 x0_16 x0_17 x0_19 x0_20 x0_27 x0_28 x0_29 x0_30 x0_31 x0_32 x0_35 x0_36 x0_37 x0_44 x0_49 x0_50 a1 a2) sz) (wW_X11_deepOf G h0 h1 h2 y0_2 y0_3 y0_4 y0_6 y0_18 y0_21 y0_22 y0_23 y0_24 y0_25 y0_26 y0_33 y0_34 y0_38 y0_39 y0_40 y0_41 y0_42 y0_43 y0_45 y0_46 y0_47 y0_48 x0_5 x0_7 x0_8 x0_9 x0_10 x0_11 x0_12 x0_13 x0_14 x0_15 x0_16 x0_17 x0_19 x0_20 x0_27 x0_28 x0_29 x0_30 x0_31 x0_32 x0_35 x0_36 x0_37 x0_44 x0_49 x0_50 a1 a2)) 0 0 (va_A (wW_X11_deepOf G h0 h1 h2 y0_2 y0_3 y0_4 y0_6 y0_18 y0_21 y0_22 y0_23 y0_24 y0_25 y0_26 y0_33 y0_34 y0_38 y0_39 y0_40 y0_41 y0_42 y0_43 y0_45 y0_46 y0_47 y0_48 x0_5 x0_7 x0_8 x0_9 x0_10 x0_11 x0_12 x0_13 x0_14 x0_15 x0_16 x0_17 x0_19 x0_20 x0_27 x0_28 x0_29 x0_30 x0_31 x0_32 x0_35 x0_36 x0_37 x0_44 x0_49 x0_50 a1 a2) sz) := by
  refine met_start (by decide) (Nat.le_of_ble_eq_true rfl) ?_
  intro p e s m below meth c hC hr hlk hnm hK hP hD hA hS hX ls hl
  obtain ⟨hx, hb, hml, hown, ht0⟩ := hC
  have hown : s.vm.findClass RX11 = some m.cls := hown
  generalize va_A (wW_X11_deepOf G h0 h1 h2 y0_2 y0_3 y0_4 y0_6 y0_18 y0_21 y0_22 y0_23 y0_24 y0_25 y0_26 y0_33 y0_34 y0_38 y0_39 y0_40 y0_41 y0_42 y0_43 y0_45 y0_46 y0_47 y0_48 x0_5 x0_7 x0_8 x0_9 x0_10 x0_11 x0_12 x0_13 x0_14 x0_15 x0_16 x0_17 x0_19 x0_20 x0_27 x0_28 x0_29 x0_30 x0_31 x0_32 x0_35 x0_36 x0_37 x0_44 x0_49 x0_50 a1 a2) sz = A at hD hA hS hX ⊢
  have hl : lv_has ls 4 [(0, .ref h0), (1, .int b1)] := hl
  have hf : p_X11_deepOf F x0_5 a1 a2 b1 = some r0 := hf
  have kL8 : ∀ (c8_2 : Int32) (n8 : Nat) (u8_3 : Int32), p_X11_deepOf_L8 F x0_5 a1 a2 c8_2 n8 u8_3 = some r0 → ∀ (H : Heap) (locs : List Loc), va_P G.1 vwCl (wW_X11_deepOf G h0 h1 h2 y0_2 y0_3 y0_4 y0_6 y0_18 y0_21 y0_22 y0_23 y0_24 y0_25 y0_26 y0_33 y0_34 y0_38 y0_39 y0_40 y0_41 y0_42 y0_43 y0_45 y0_46 y0_47 y0_48 x0_5 x0_7 x0_8 x0_9 x0_10 x0_11 x0_12 x0_13 x0_14 x0_15 x0_16 x0_17 x0_19 x0_20 x0_27 x0_28 x0_29 x0_30 x0_31 x0_32 x0_35 x0_36 x0_37 x0_44 x0_49 x0_50 a1 a2) H → va_D A (wW_X11_deepOf G h0 h1 h2 y0_2 y0_3 y0_4 y0_6 y0_18 y0_21 y0_22 y0_23 y0_24 y0_25 y0_26 y0_33 y0_34 y0_38 y0_39 y0_40 y0_41 y0_42 y0_43 y0_45 y0_46 y0_47 y0_48 x0_5 x0_7 x0_8 x0_9 x0_10 x0_11 x0_12 x0_13 x0_14 x0_15 x0_16 x0_17 x0_19 x0_20 x0_27 x0_28 x0_29 x0_30 x0_31 x0_32 x0_35 x0_36 x0_37 x0_44 x0_49 x0_50 a1 a2) → va_S A s.heap H locs → ∀ ls : Array Slot, lv_has ls 4 [(2, .int c8_2), (3, .int u8_3)] → W p l e ({ frames := 2, cells := 0, slots := 0, locals := 44 } : Room) s m (List.toArray [.ref h0, .int b1]) below meth c H locs 0 0 (MQ below (QiS G r0 A (wW_X11_deepOf G h0 h1 h2 y0_2 y0_3 y0_4 y0_6 y0_18 y0_21 y0_22 y0_23 y0_24 y0_25 y0_26 y0_33 y0_34 y0_38 y0_39 y0_40 y0_41 y0_42 y0_43 y0_45 y0_46 y0_47 y0_48 x0_5 x0_7 x0_8 x0_9 x0_10 x0_11 x0_12 x0_13 x0_14 x0_15 x0_16 x0_17 x0_19 x0_20 x0_27 x0_28 x0_29 x0_30 x0_31 x0_32 x0_35 x0_36 x0_37 x0_44 x0_49 x0_50 a1 a2)) (List.toArray [.ref h0, .int b1]) s 0 0 A) (F0 m 8 ls []) := by
    intro c8_2 n8
    induction n8 with
    | zero =>
      intro u8_3 hf
      cases hf
    | succ n8 ih8 =>
      intro u8_3 hf H locs hP hD hS ls hl
      have hf : p_X11_deepOf_L8b F x0_5 a1 a2 c8_2 (p_X11_deepOf_L8 F x0_5 a1 a2 c8_2 n8) u8_3 = some r0 := hf
      refine lv_iconst (v := (1 : Int32)) hx hb dX11_deepOf_8 (by decide) ?_
      refine lv_iload_n hx hb dX11_deepOf_9 rfl (lv_at hl 1 rfl) ?_
      refine lv_ishl hx hb dX11_deepOf_10 ?_
      refine lv_iload_n hx hb dX11_deepOf_11 rfl (lv_at hl 0 rfl) ?_
      refine lv_icmp_ge (tgt := 21) hx hb dX11_deepOf_12 (by decide) (fun c1 => ?_) (fun c1 => ?_)
      · have hf := of_pos hf c1
        refine lv_iload_n hx hb dX11_deepOf_21 rfl (lv_at hl 0 rfl) ?_
        refine lv_if_ne (tgt := 29) hx hb dX11_deepOf_22 (by decide) (fun c2 => ?_) (fun c2 => ?_)
        · have hf := of_neg hf c2
          refine lv_iload_n hx hb dX11_deepOf_29 rfl (lv_at hl 1 rfl) ?_
          cases hf
          exact ret_i hx hb hr hlk hK hP hD hS dX11_deepOf_30
        · have hf := of_pos hf c2
          refine lv_iconst (v := (-1 : Int32)) hx hb dX11_deepOf_25 (by decide) ?_
          refine lv_goto (tgt := 30) hx hb dX11_deepOf_26 (by decide) ?_
          cases hf
          exact ret_i hx hb hr hlk hK hP hD hS dX11_deepOf_30
      · have hf := of_neg hf c1
        refine lv_iinc (v := u8_3 + (1 : Int32)) (lv' := [(3, .int (u8_3 + (1 : Int32))), (2, .int c8_2)]) hx hb dX11_deepOf_15 hl (k := 1) rfl (by rfl) (by decide) rfl (fun ls hl => ?_)
        refine lv_goto (tgt := 8) hx hb dX11_deepOf_18 (by decide) ?_
        exact ih8 _ hf _ _ hP hD hS _ (lv_sub hl [1, 0] rfl)
  refine lv_aload_n hx hb dX11_deepOf_0 rfl (lv_at hl 0 rfl) ?_
  refine lv_iload_n hx hb dX11_deepOf_1 rfl (lv_at hl 1 rfl) ?_
  obtain ⟨r_2_2, hc_r_2_2, hf⟩ := of_bnd hf
  refine cl_Vi (w2 := (wW_X11_deepOf G h0 h1 h2 y0_2 y0_3 y0_4 y0_6 y0_18 y0_21 y0_22 y0_23 y0_24 y0_25 y0_26 y0_33 y0_34 y0_38 y0_39 y0_40 y0_41 y0_42 y0_43 y0_45 y0_46 y0_47 y0_48 x0_5 x0_7 x0_8 x0_9 x0_10 x0_11 x0_12 x0_13 x0_14 x0_15 x0_16 x0_17 x0_19 x0_20 x0_27 x0_28 x0_29 x0_30 x0_31 x0_32 x0_35 x0_36 x0_37 x0_44 x0_49 x0_50 a1 a2)) (As := [.int b1]) (rest := []) ⟨hx, hb, hml, hown, ht0⟩ (c_X11_wiresOf l G h0 h1 h2 y0_2 y0_3 y0_4 y0_6 y0_18 y0_21 y0_22 y0_23 y0_24 y0_25 y0_26 y0_33 y0_34 y0_38 y0_39 y0_40 y0_41 y0_42 y0_43 y0_45 y0_46 y0_47 y0_48 _ x0_5 x0_7 x0_8 x0_9 x0_10 x0_11 x0_12 x0_13 x0_14 x0_15 x0_16 x0_17 x0_19 x0_20 x0_27 x0_28 x0_29 x0_30 x0_31 x0_32 x0_35 x0_36 x0_37 x0_44 x0_49 x0_50 a1 a2 F b1 _ hc_r_2_2) yk_X11_wiresOf wd_1790 ⟨rfl, rfl, by decide, by decide⟩ ⟨Nat.le_refl _, Nat.le_refl _⟩ hX hK hP hD hS hA [0, 1, 2] [] [0, 1, 2] (va_recv hK hP (ci := 11) (q0 := 0) rfl rfl) rfl rfl (by decide) rfl rfl rfl rfl rfl hl.1 rfl (Nat.le_of_ble_eq_true rfl) dX11_deepOf_2 (fun H locs hP hD hS => ?_)
  refine lv_istore_n (lv' := [(2, .int r_2_2), (0, .ref h0), (1, .int b1)]) hx hb dX11_deepOf_5 rfl hl (by decide) rfl (fun ls hl => ?_)
  refine lv_iconst (v := (0 : Int32)) hx hb dX11_deepOf_6 (by decide) ?_
  refine lv_istore_n (lv' := [(3, .int (0 : Int32)), (2, .int r_2_2), (0, .ref h0), (1, .int b1)]) hx hb dX11_deepOf_7 rfl hl (by decide) rfl (fun ls hl => ?_)
  exact kL8 _ _ _ hf _ _ hP hD hS _ (lv_sub hl [1, 0] rfl)
theorem yk_X11_deepOf : ykV yX11_deepOf RX11 cX11_deepOf 4 (some .int) 1 := ⟨wd_1796, wd_107, wd_142, wd_1797, rfl, by decide +kernel, by decide +kernel, by decide +kernel⟩
