theorem dX11_change_0 : decode cX11_change 0 = .ok (.iload_n 1, 1) := by decide +kernel
theorem dX11_change_1 : decode cX11_change 1 = .ok (.iconst 0, 1) := by decide +kernel
theorem dX11_change_2 : decode cX11_change 2 = .ok (.iconst 2, 1) := by decide +kernel
theorem dX11_change_3 : decode cX11_change 3 = .ok (.invokestatic 163, 3) := by decide +kernel
theorem dX11_change_6 : decode cX11_change 6 = .ok (.ifCond .eq 10, 3) := by decide +kernel
theorem dX11_change_9 : decode cX11_change 9 = .ok (.aload_n 0, 1) := by decide +kernel
theorem dX11_change_10 : decode cX11_change 10 = .ok (.invokevirtual 384, 3) := by decide +kernel
theorem dX11_change_13 : decode cX11_change 13 = .ok (.ifCond .ne 5, 3) := by decide +kernel
theorem dX11_change_16 : decode cX11_change 16 = .ok (.iconst (-1), 1) := by decide +kernel
theorem dX11_change_17 : decode cX11_change 17 = .ok (.ireturn, 1) := by decide +kernel
theorem dX11_change_18 : decode cX11_change 18 = .ok (.iload_n 1, 1) := by decide +kernel
theorem dX11_change_19 : decode cX11_change 19 = .ok (.ifCond .ne 10, 3) := by decide +kernel
theorem dX11_change_22 : decode cX11_change 22 = .ok (.aload_n 0, 1) := by decide +kernel
theorem dX11_change_23 : decode cX11_change 23 = .ok (.getfield 387, 3) := by decide +kernel
theorem dX11_change_26 : decode cX11_change 26 = .ok (.goto 19, 3) := by decide +kernel
theorem dX11_change_29 : decode cX11_change 29 = .ok (.iload_n 1, 1) := by decide +kernel
theorem dX11_change_30 : decode cX11_change 30 = .ok (.iconst 1, 1) := by decide +kernel
theorem dX11_change_31 : decode cX11_change 31 = .ok (.if_icmp .ne 10, 3) := by decide +kernel
theorem dX11_change_34 : decode cX11_change 34 = .ok (.aload_n 0, 1) := by decide +kernel
theorem dX11_change_35 : decode cX11_change 35 = .ok (.getfield 390, 3) := by decide +kernel
theorem dX11_change_38 : decode cX11_change 38 = .ok (.goto 7, 3) := by decide +kernel
theorem dX11_change_41 : decode cX11_change 41 = .ok (.aload_n 0, 1) := by decide +kernel
theorem dX11_change_42 : decode cX11_change 42 = .ok (.getfield 393, 3) := by decide +kernel
theorem dX11_change_45 : decode cX11_change 45 = .ok (.ireturn, 1) := by decide +kernel
def wW_X11_change (G : GG) (h0 h1 h2 h3 h4 h5 y0_3 y0_4 y0_6 y0_18 y0_22 y0_23 y0_24 y0_25 y0_26 y0_33 y0_38 y0_39 y0_40 y0_41 y0_42 y0_43 y0_45 y0_46 y0_47 y0_48 : Nat) (x0_5 : Int32) (x0_7 : Int32) (x0_8 : Int32) (x0_9 : Int32) (x0_10 : Int32) (x0_11 : Int32) (x0_12 : Int32) (x0_13 : Int32) (x0_14 : Int32) (x0_15 : Int32) (x0_16 : Int32) (x0_17 : Int32) (x0_19 : Int32) (x0_20 : Int32) (x0_27 : Int32) (x0_28 : Int32) (x0_29 : Int32) (x0_30 : Int32) (x0_31 : Int32) (x0_32 : Int32) (x0_35 : Int32) (x0_36 : Int32) (x0_37 : Int32) (x0_44 : Int32) (x0_49 : Int32) (x0_50 : Int32) (a1 : Nat → Int32) (a2 : Nat → Int32) (a3 : Nat → Int32) (a4 : Nat → Int32) (a5 : Nat → Int32) : va_W := [(h0, .inr (11, [.ref h1, .ref h2, .ref h3, .ref y0_3, .ref y0_4, .int x0_5, .ref y0_6, .int x0_7, .int x0_8, .int x0_9, .int x0_10, .int x0_11, .int x0_12, .int x0_13, .int x0_14, .int x0_15, .int x0_16, .int x0_17, .ref y0_18, .int x0_19, .int x0_20, .ref h4, .ref y0_22, .ref y0_23, .ref y0_24, .ref y0_25, .ref y0_26, .int x0_27, .int x0_28, .int x0_29, .int x0_30, .int x0_31, .int x0_32, .ref y0_33, .ref h5, .int x0_35, .int x0_36, .int x0_37, .ref y0_38, .ref y0_39, .ref y0_40, .ref y0_41, .ref y0_42, .ref y0_43, .int x0_44, .ref y0_45, .ref y0_46, .ref y0_47, .ref y0_48, .int x0_49, .int x0_50])), (h1, .inl (G.2.1, 121, .inl a1)), (h2, .inl (G.2.1, 2, .inl a2)), (h3, .inl (G.2.1, 2, .inl a3)), (h4, .inl (G.2.1, 128, .inl a4)), (h5, .inl (G.2.1, 256, .inl a5))]
set_option maxHeartbeats 4000000 in
set_option maxRecDepth 100000 in
theorem c_X11_change (l : Launch) (G : GG) (h0 h1 h2 h3 h4 h5 y0_3 y0_4 y0_6 y0_18 y0_22 y0_23 y0_24 y0_25 y0_26 y0_33 y0_38 y0_39 y0_40 y0_41 y0_42 y0_43 y0_45 y0_46 y0_47 y0_48 : Nat) (sz : Nat) (x0_5 : Int32) (x0_7 : Int32) (x0_8 : Int32) (x0_9 : Int32) (x0_10 : Int32) (x0_11 : Int32) (x0_12 : Int32) (x0_13 : Int32) (x0_14 : Int32) (x0_15 : Int32) (x0_16 : Int32) (x0_17 : Int32) (x0_19 : Int32) (x0_20 : Int32) (x0_27 : Int32) (x0_28 : Int32) (x0_29 : Int32) (x0_30 : Int32) (x0_31 : Int32) (x0_32 : Int32) (x0_35 : Int32) (x0_36 : Int32) (x0_37 : Int32) (x0_44 : Int32) (x0_49 : Int32) (x0_50 : Int32) (a1 : Nat → Int32) (a2 : Nat → Int32) (a3 : Nat → Int32) (a4 : Nat → Int32) (a5 : Nat → Int32) (F : Nat) (b1 : Int32)  (r0 : Int32) (e_x0_27 : Int32) (e_x0_35 : Int32) (e_x0_36 : Int32) (e_x0_37 : Int32) (e_a4 : Nat → Int32) (e_a5 : Nat → Int32) (hf : p_X11_change F x0_5 x0_27 x0_35 x0_36 x0_37 a1 a2 a3 a4 a5 b1 = some (r0, e_x0_27, e_x0_35, e_x0_36, e_x0_37, e_a4, e_a5)) : Met l yX11_change (.code yX11_change cX11_change 2 (some .int) :: gtbl) ({ frames := 5, cells := 0, slots := 0, locals := 112 } : Room) (PcS G [.ref h0, .int b1] (wW_X11_change G h0 h1 h2 h3 h4 h5 y0_3 y0_4 y0_6 y0_18 y0_22 y0_23 y0_24 y0_25 y0_26 y0_33 y0_38 y0_39 y0_40 y0_41 y0_42 y0_43 y0_45 y0_46 y0_47 y0_48 x0_5 x0_7 x0_8 x0_9 x0_10 x0_11 x0_12 x0_13 x0_14 x0_15 x0_16 x0_17 x0_19 x0_20 x0_27 x0_28 x0_29 x0_30 x0_31 x0_32 x0_35 x0_36 x0_37 x0_44 x0_49 x0_50 a1 a2 a3 a4 a5) sz) (QiS G r0 (va_A (wW_X11_change G h0 h1 h2 h3 h4 h5 y0_3 y0_4 y0_6 y0_18 y0_22 y0_23 y0_24 y0_25 y0_26 y0_33 y0_38 y0_39 y0_40 y0_41 y0_42 y0_43 y0_45 y0_46 y0_47 y0_48 x0_5 x0_7 x0_8 x0_9 x0_10 x0_11 x0_12 x0_13 x0_14 x0_15 x0_16 x0_17 x0_19 x0_20 x0_27 x0_28 x0_29 x0_30 x0_31 x0_32 x0_35 x0_36 x0_37 x0_44 x0_49 x0_50 a1 a2 a3 a4 a5) sz) (wW_X11_change G h0 h1 h2 h3 h4 h5 y0_3 y0_4 y0_6 y0_18 y0_22 y0_23 y0_24 y0_25 y0_26 y0_33 y0_38 y0_39 y0_40 y0_41 y0_42 y0_43 y0_45 y0_46 y0_47 y0_48 x0_5 x0_7 x0_8 x0_9 x0_10 x0_11 x0_12 x0_13 x0_14 x0_15 x0_16 x0_17 x0_19 x0_20 e_x0_27 x0_28 x0_29 x0_30 x0_31 x0_32 e_x0_35 e_x0_36 e_x0_37 x0_44 x0_49 x0_50 a1 a2 a3 e_a4 e_a5)) 0 0 (va_A (wW_X11_change G h0 h1 h2 h3 h4 h5 y0_3 y0_4 y0_6 y0_18 y0_22 y0_23 y0_24 y0_25 y0_26 y0_33 y0_38 y0_39 y0_40 y0_41 y0_42 y0_43 y0_45 y0_46 y0_47 y0_48 x0_5 x0_7 x0_8 x0_9 x0_10 x0_11 x0_12 x0_13 x0_14 x0_15 x0_16 x0_17 x0_19 x0_20 x0_27 x0_28 x0_29 x0_30 x0_31 x0_32 x0_35 x0_36 x0_37 x0_44 x0_49 x0_50 a1 a2 a3 a4 a5) sz) := by
  refine met_start (by decide) (Nat.le_of_ble_eq_true rfl) ?_
  intro p e s m below meth c hC hr hlk hnm hK hP hD hA hS hX ls hl
  obtain ⟨hx, hb, hml, hown, ht0⟩ := hC
  have hown : s.vm.findClass RX11 = some m.cls := hown
  generalize va_A (wW_X11_change G h0 h1 h2 h3 h4 h5 y0_3 y0_4 y0_6 y0_18 y0_22 y0_23 y0_24 y0_25 y0_26 y0_33 y0_38 y0_39 y0_40 y0_41 y0_42 y0_43 y0_45 y0_46 y0_47 y0_48 x0_5 x0_7 x0_8 x0_9 x0_10 x0_11 x0_12 x0_13 x0_14 x0_15 x0_16 x0_17 x0_19 x0_20 x0_27 x0_28 x0_29 x0_30 x0_31 x0_32 x0_35 x0_36 x0_37 x0_44 x0_49 x0_50 a1 a2 a3 a4 a5) sz = A at hD hA hS hX ⊢
  have hl : lv_has ls 2 [(0, .ref h0), (1, .int b1)] := hl
  have hf : p_X11_change F x0_5 x0_27 x0_35 x0_36 x0_37 a1 a2 a3 a4 a5 b1 = some (r0, e_x0_27, e_x0_35, e_x0_36, e_x0_37, e_a4, e_a5) := hf
  refine lv_iload_n hx hb dX11_change_0 rfl (lv_at hl 1 rfl) ?_
  refine lv_iconst (v := (0 : Int32)) hx hb dX11_change_1 (by decide) ?_
  refine lv_iconst (v := (2 : Int32)) hx hb dX11_change_2 (by decide) ?_
  obtain ⟨r_3_0, hc_r_3_0, hf⟩ := of_bnd hf
  refine cl_Si (w2 := (wW_X11_change G h0 h1 h2 h3 h4 h5 y0_3 y0_4 y0_6 y0_18 y0_22 y0_23 y0_24 y0_25 y0_26 y0_33 y0_38 y0_39 y0_40 y0_41 y0_42 y0_43 y0_45 y0_46 y0_47 y0_48 x0_5 x0_7 x0_8 x0_9 x0_10 x0_11 x0_12 x0_13 x0_14 x0_15 x0_16 x0_17 x0_19 x0_20 x0_27 x0_28 x0_29 x0_30 x0_31 x0_32 x0_35 x0_36 x0_37 x0_44 x0_49 x0_50 a1 a2 a3 a4 a5)) (As := [.int b1, .int (0 : Int32), .int (2 : Int32)]) (rest := []) ⟨hx, hb, hml, hown, ht0⟩ (c_X11_isIn l G _ F b1 (0 : Int32) (2 : Int32) _ hc_r_3_0) yk_X11_isIn wd_1321 ⟨rfl, rfl, by decide, by decide⟩ ⟨Nat.le_refl _, Nat.le_refl _⟩ hX hK hP hD hS hA [] [0, 1, 2, 3, 4, 5] [0, 1, 2, 3, 4, 5] rfl rfl (by decide) rfl rfl rfl rfl rfl hl.1 rfl (Nat.le_of_ble_eq_true rfl) dX11_change_3 (fun H locs hP hD hS => ?_)
  refine lv_if_eq (tgt := 16) hx hb dX11_change_6 (by decide) (fun c2 => ?_) (fun c2 => ?_)
  · have hf := of_pos hf c2
    refine lv_iconst (v := (-1 : Int32)) hx hb dX11_change_16 (by decide) ?_
    cases hf
    exact ret_i hx hb hr hlk hK hP hD hS dX11_change_17
  · have hf := of_neg hf c2
    refine lv_aload_n hx hb dX11_change_9 rfl (lv_at hl 0 rfl) ?_
    obtain ⟨⟨r_10_2, r_10_2_x0_27, r_10_2_x0_35, r_10_2_x0_36, r_10_2_x0_37, r_10_2_a4, r_10_2_a5⟩, hc_r_10_2, hf⟩ := of_bnd hf
    refine cl_Vi (w2 := (wW_X11_change G h0 h1 h2 h3 h4 h5 y0_3 y0_4 y0_6 y0_18 y0_22 y0_23 y0_24 y0_25 y0_26 y0_33 y0_38 y0_39 y0_40 y0_41 y0_42 y0_43 y0_45 y0_46 y0_47 y0_48 x0_5 x0_7 x0_8 x0_9 x0_10 x0_11 x0_12 x0_13 x0_14 x0_15 x0_16 x0_17 x0_19 x0_20 r_10_2_x0_27 x0_28 x0_29 x0_30 x0_31 x0_32 r_10_2_x0_35 r_10_2_x0_36 r_10_2_x0_37 x0_44 x0_49 x0_50 a1 a2 a3 r_10_2_a4 r_10_2_a5)) (As := []) (rest := []) ⟨hx, hb, hml, hown, ht0⟩ (c_X11_layChange l G h0 h1 h2 h3 h4 h5 y0_3 y0_4 y0_6 y0_18 y0_22 y0_23 y0_24 y0_25 y0_26 y0_33 y0_38 y0_39 y0_40 y0_41 y0_42 y0_43 y0_45 y0_46 y0_47 y0_48 _ x0_5 x0_7 x0_8 x0_9 x0_10 x0_11 x0_12 x0_13 x0_14 x0_15 x0_16 x0_17 x0_19 x0_20 x0_27 x0_28 x0_29 x0_30 x0_31 x0_32 x0_35 x0_36 x0_37 x0_44 x0_49 x0_50 a1 a2 a3 a4 a5 F _ _ _ _ _ _ _ hc_r_10_2) yk_X11_layChange wd_1770 ⟨rfl, rfl, by decide, by decide⟩ ⟨Nat.le_refl _, Nat.le_refl _⟩ hX hK hP hD hS hA [0, 1, 2, 3, 4, 5] [] [0, 1, 2, 3, 4, 5] (va_recv hK hP (ci := 11) (q0 := 0) rfl rfl) rfl rfl (by decide) rfl rfl rfl rfl rfl hl.1 rfl (Nat.le_of_ble_eq_true rfl) dX11_change_10 (fun H locs hP hD hS => ?_)
    refine lv_if_ne (tgt := 18) hx hb dX11_change_13 (by decide) (fun c4 => ?_) (fun c4 => ?_)
    · have hf := of_neg hf c4
      refine lv_iload_n hx hb dX11_change_18 rfl (lv_at hl 1 rfl) ?_
      refine lv_if_ne (tgt := 29) hx hb dX11_change_19 (by decide) (fun c5 => ?_) (fun c5 => ?_)
      · have hf := of_neg hf c5
        refine lv_iload_n hx hb dX11_change_29 rfl (lv_at hl 1 rfl) ?_
        refine lv_iconst (v := (1 : Int32)) hx hb dX11_change_30 (by decide) ?_
        refine lv_icmp_ne (tgt := 41) hx hb dX11_change_31 (by decide) (fun c6 => ?_) (fun c6 => ?_)
        · have hf := of_neg hf c6
          refine lv_aload_n hx hb dX11_change_41 rfl (lv_at hl 0 rfl) ?_
          refine va_get (ci := 11) (v := .int r_10_2_x0_37) (C := RX11) (T := TX11) (N := 51) hx hb ht0 iX11 hown hK hP 0 rfl rfl 37 (by decide) (ht0 _ wd_1443) (fun _ h9 => h9) rfl dX11_change_42 ?_
          cases hf
          exact ret_i hx hb hr hlk hK hP hD hS dX11_change_45
        · have hf := of_pos hf c6
          refine lv_aload_n hx hb dX11_change_34 rfl (lv_at hl 0 rfl) ?_
          refine va_get (ci := 11) (v := .int r_10_2_x0_36) (C := RX11) (T := TX11) (N := 51) hx hb ht0 iX11 hown hK hP 0 rfl rfl 36 (by decide) (ht0 _ wd_1442) (fun _ h9 => h9) rfl dX11_change_35 ?_
          refine lv_goto (tgt := 45) hx hb dX11_change_38 (by decide) ?_
          cases hf
          exact ret_i hx hb hr hlk hK hP hD hS dX11_change_45
      · have hf := of_pos hf c5
        refine lv_aload_n hx hb dX11_change_22 rfl (lv_at hl 0 rfl) ?_
        refine va_get (ci := 11) (v := .int r_10_2_x0_35) (C := RX11) (T := TX11) (N := 51) hx hb ht0 iX11 hown hK hP 0 rfl rfl 35 (by decide) (ht0 _ wd_1441) (fun _ h9 => h9) rfl dX11_change_23 ?_
        refine lv_goto (tgt := 45) hx hb dX11_change_26 (by decide) ?_
        cases hf
        exact ret_i hx hb hr hlk hK hP hD hS dX11_change_45
    · have hf := of_pos hf c4
      refine lv_iconst (v := (-1 : Int32)) hx hb dX11_change_16 (by decide) ?_
      cases hf
      exact ret_i hx hb hr hlk hK hP hD hS dX11_change_17
theorem yk_X11_change : ykV yX11_change RX11 cX11_change 2 (some .int) 1 := ⟨wd_1862, wd_1863, wd_142, wd_1864, rfl, by decide +kernel, by decide +kernel, by decide +kernel⟩
theorem dX11_chipMany_0 : decode cX11_chipMany 0 = .ok (.aload_n 0, 1) := by decide +kernel
theorem dX11_chipMany_1 : decode cX11_chipMany 1 = .ok (.invokevirtual 217, 3) := by decide +kernel
theorem dX11_chipMany_4 : decode cX11_chipMany 4 = .ok (.iconst 3, 1) := by decide +kernel
theorem dX11_chipMany_5 : decode cX11_chipMany 5 = .ok (.iadd, 1) := by decide +kernel
theorem dX11_chipMany_6 : decode cX11_chipMany 6 = .ok (.iconst 4, 1) := by decide +kernel
theorem dX11_chipMany_7 : decode cX11_chipMany 7 = .ok (.idiv, 1) := by decide +kernel
theorem dX11_chipMany_8 : decode cX11_chipMany 8 = .ok (.ireturn, 1) := by decide +kernel
def wW_X11_chipMany (G : GG) (h0 h1 h2 y0_0 y0_3 y0_4 y0_6 y0_18 y0_21 y0_22 y0_23 y0_24 y0_25 y0_26 y0_33 y0_34 y0_38 y0_39 y0_40 y0_41 y0_42 y0_43 y0_45 y0_46 y0_47 y0_48 : Nat) (x0_5 : Int32) (x0_7 : Int32) (x0_8 : Int32) (x0_9 : Int32) (x0_10 : Int32) (x0_11 : Int32) (x0_12 : Int32) (x0_13 : Int32) (x0_14 : Int32) (x0_15 : Int32) (x0_16 : Int32) (x0_17 : Int32) (x0_19 : Int32) (x0_20 : Int32) (x0_27 : Int32) (x0_28 : Int32) (x0_29 : Int32) (x0_30 : Int32) (x0_31 : Int32) (x0_32 : Int32) (x0_35 : Int32) (x0_36 : Int32) (x0_37 : Int32) (x0_44 : Int32) (x0_49 : Int32) (x0_50 : Int32) (a1 : Nat → Int32) (a2 : Nat → Int32) : va_W := [(h0, .inr (11, [.ref y0_0, .ref h1, .ref h2, .ref y0_3, .ref y0_4, .int x0_5, .ref y0_6, .int x0_7, .int x0_8, .int x0_9, .int x0_10, .int x0_11, .int x0_12, .int x0_13, .int x0_14, .int x0_15, .int x0_16, .int x0_17, .ref y0_18, .int x0_19, .int x0_20, .ref y0_21, .ref y0_22, .ref y0_23, .ref y0_24, .ref y0_25, .ref y0_26, .int x0_27, .int x0_28, .int x0_29, .int x0_30, .int x0_31, .int x0_32, .ref y0_33, .ref y0_34, .int x0_35, .int x0_36, .int x0_37, .ref y0_38, .ref y0_39, .ref y0_40, .ref y0_41, .ref y0_42, .ref y0_43, .int x0_44, .ref y0_45, .ref y0_46, .ref y0_47, .ref y0_48, .int x0_49, .int x0_50])), (h1, .inl (G.2.1, 2, .inl a1)), (h2, .inl (G.2.1, 2, .inl a2))]
set_option maxHeartbeats 4000000 in
set_option maxRecDepth 100000 in
theorem c_X11_chipMany (l : Launch) (G : GG) (h0 h1 h2 y0_0 y0_3 y0_4 y0_6 y0_18 y0_21 y0_22 y0_23 y0_24 y0_25 y0_26 y0_33 y0_34 y0_38 y0_39 y0_40 y0_41 y0_42 y0_43 y0_45 y0_46 y0_47 y0_48 : Nat) (sz : Nat) (x0_5 : Int32) (x0_7 : Int32) (x0_8 : Int32) (x0_9 : Int32) (x0_10 : Int32) (x0_11 : Int32) (x0_12 : Int32) (x0_13 : Int32) (x0_14 : Int32) (x0_15 : Int32) (x0_16 : Int32) (x0_17 : Int32) (x0_19 : Int32) (x0_20 : Int32) (x0_27 : Int32) (x0_28 : Int32) (x0_29 : Int32) (x0_30 : Int32) (x0_31 : Int32) (x0_32 : Int32) (x0_35 : Int32) (x0_36 : Int32) (x0_37 : Int32) (x0_44 : Int32) (x0_49 : Int32) (x0_50 : Int32) (a1 : Nat → Int32) (a2 : Nat → Int32) (F : Nat)   (r0 : Int32) (hf : p_X11_chipMany F x0_5 a1 a2  = some r0) : Met l yX11_chipMany (.code yX11_chipMany cX11_chipMany 1 (some .int) :: gtbl) ({ frames := 2, cells := 0, slots := 0, locals := 40 } : Room) (PcS G [.ref h0] (wW_X11_chipMany G h0 h1 h2 y0_0 y0_3 y0_4 y0_6 y0_18 y0_21 y0_22 y0_23 y0_24 y0_25 y0_26 y0_33 y0_34 y0_38 y0_39 y0_40 y0_41 y0_42 y0_43 y0_45 y0_46 y0_47 y0_48 x0_5 x0_7 x0_8 x0_9 x0_10 x0_11 x0_12 x0_13 x0_14 x0_15 x0_16 x0_17 x0_19 x0_20 x0_27 x0_28 x0_29 x0_30 x0_31 x0_32 x0_35 x0_36 x0_37 x0_44 x0_49 x0_50 a1 a2) sz) (QiS G r0 (va_A (wW_X11_chipMany G h0 h1 h2 y0_0 y0_3 y0_4 y0_6 y0_18 y0_21 y0_22 y0_23 y0_24 y0_25 y0_26 y0_33 y0_34 y0_38 y0_39 y0_40 y0_41 y0_42 y0_43 y0_45 y0_46 y0_47 y0_48 x0_5 x0_7 x0_8 x0_9 x0_10 x0_11 x0_12 x0_13 x0_14 x0_15 x0_16 x0_17 x0_19 x0_20 x0_27 x0_28 x0_29 x0_30 x0_31 x0_32 x0_35 x0_36 x0_37 x0_44 x0_49 x0_50 a1 a2) sz) (wW_X11_chipMany G h0 h1 h2 y0_0 y0_3 y0_4 y0_6 y0_18 y0_21 y0_22 y0_23 y0_24 y0_25 y0_26 y0_33 y0_34 y0_38 y0_39 y0_40 y0_41 y0_42 y0_43 y0_45 y0_46 y0_47 y0_48 x0_5 x0_7 x0_8 x0_9 x0_10 x0_11 x0_12 x0_13 x0_14 x0_15 x0_16 x0_17 x0_19 x0_20 x0_27 x0_28 x0_29 x0_30 x0_31 x0_32 x0_35 x0_36 x0_37 x0_44 x0_49 x0_50 a1 a2)) 0 0 (va_A (wW_X11_chipMany G h0 h1 h2 y0_0 y0_3 y0_4 y0_6 y0_18 y0_21 y0_22 y0_23 y0_24 y0_25 y0_26 y0_33 y0_34 y0_38 y0_39 y0_40 y0_41 y0_42 y0_43 y0_45 y0_46 y0_47 y0_48 x0_5 x0_7 x0_8 x0_9 x0_10 x0_11 x0_12 x0_13 x0_14 x0_15 x0_16 x0_17 x0_19 x0_20 x0_27 x0_28 x0_29 x0_30 x0_31 x0_32 x0_35 x0_36 x0_37 x0_44 x0_49 x0_50 a1 a2) sz) := by
  refine met_start (by decide) (Nat.le_of_ble_eq_true rfl) ?_
  intro p e s m below meth c hC hr hlk hnm hK hP hD hA hS hX ls hl
  obtain ⟨hx, hb, hml, hown, ht0⟩ := hC
  have hown : s.vm.findClass RX11 = some m.cls := hown
  generalize va_A (wW_X11_chipMany G h0 h1 h2 y0_0 y0_3 y0_4 y0_6 y0_18 y0_21 y0_22 y0_23 y0_24 y0_25 y0_26 y0_33 y0_34 y0_38 y0_39 y0_40 y0_41 y0_42 y0_43 y0_45 y0_46 y0_47 y0_48 x0_5 x0_7 x0_8 x0_9 x0_10 x0_11 x0_12 x0_13 x0_14 x0_15 x0_16 x0_17 x0_19 x0_20 x0_27 x0_28 x0_29 x0_30 x0_31 x0_32 x0_35 x0_36 x0_37 x0_44 x0_49 x0_50 a1 a2) sz = A at hD hA hS hX ⊢
  have hl : lv_has ls 1 [(0, .ref h0)] := hl
  have hf : p_X11_chipMany F x0_5 a1 a2  = some r0 := hf
  refine lv_aload_n hx hb dX11_chipMany_0 rfl (lv_at hl 0 rfl) ?_
  obtain ⟨r_1_0, hc_r_1_0, hf⟩ := of_bnd hf
  refine cl_Vi (w2 := (wW_X11_chipMany G h0 h1 h2 y0_0 y0_3 y0_4 y0_6 y0_18 y0_21 y0_22 y0_23 y0_24 y0_25 y0_26 y0_33 y0_34 y0_38 y0_39 y0_40 y0_41 y0_42 y0_43 y0_45 y0_46 y0_47 y0_48 x0_5 x0_7 x0_8 x0_9 x0_10 x0_11 x0_12 x0_13 x0_14 x0_15 x0_16 x0_17 x0_19 x0_20 x0_27 x0_28 x0_29 x0_30 x0_31 x0_32 x0_35 x0_36 x0_37 x0_44 x0_49 x0_50 a1 a2)) (As := []) (rest := []) ⟨hx, hb, hml, hown, ht0⟩ (c_X11_places l G h0 h1 h2 y0_0 y0_3 y0_4 y0_6 y0_18 y0_21 y0_22 y0_23 y0_24 y0_25 y0_26 y0_33 y0_34 y0_38 y0_39 y0_40 y0_41 y0_42 y0_43 y0_45 y0_46 y0_47 y0_48 _ x0_5 x0_7 x0_8 x0_9 x0_10 x0_11 x0_12 x0_13 x0_14 x0_15 x0_16 x0_17 x0_19 x0_20 x0_27 x0_28 x0_29 x0_30 x0_31 x0_32 x0_35 x0_36 x0_37 x0_44 x0_49 x0_50 a1 a2 F _ hc_r_1_0) yk_X11_places wd_1572 ⟨rfl, rfl, by decide, by decide⟩ ⟨Nat.le_refl _, Nat.le_refl _⟩ hX hK hP hD hS hA [0, 1, 2] [] [0, 1, 2] (va_recv hK hP (ci := 11) (q0 := 0) rfl rfl) rfl rfl (by decide) rfl rfl rfl rfl rfl hl.1 rfl (Nat.le_of_ble_eq_true rfl) dX11_chipMany_1 (fun H locs hP hD hS => ?_)
  refine lv_iconst (v := (3 : Int32)) hx hb dX11_chipMany_4 (by decide) ?_
  refine lv_iadd hx hb dX11_chipMany_5 ?_
  refine lv_iconst (v := (4 : Int32)) hx hb dX11_chipMany_6 (by decide) ?_
  refine lv_idiv hx hb dX11_chipMany_7 (by decide) ?_
  cases hf
  exact ret_i hx hb hr hlk hK hP hD hS dX11_chipMany_8
theorem yk_X11_chipMany : ykV yX11_chipMany RX11 cX11_chipMany 1 (some .int) 0 := ⟨wd_1871, wd_114, wd_142, wd_1872, rfl, by decide +kernel, by decide +kernel, by decide +kernel⟩
theorem dX11_sortOf_0 : decode cX11_sortOf 0 = .ok (.iload_n 1, 1) := by decide +kernel
theorem dX11_sortOf_1 : decode cX11_sortOf 1 = .ok (.ifCond .ne 5, 3) := by decide +kernel
theorem dX11_sortOf_4 : decode cX11_sortOf 4 = .ok (.iconst 2, 1) := by decide +kernel
theorem dX11_sortOf_5 : decode cX11_sortOf 5 = .ok (.ireturn, 1) := by decide +kernel
theorem dX11_sortOf_6 : decode cX11_sortOf 6 = .ok (.aload_n 0, 1) := by decide +kernel
theorem dX11_sortOf_7 : decode cX11_sortOf 7 = .ok (.iload_n 1, 1) := by decide +kernel
theorem dX11_sortOf_8 : decode cX11_sortOf 8 = .ok (.invokevirtual 314, 3) := by decide +kernel
theorem dX11_sortOf_11 : decode cX11_sortOf 11 = .ok (.istore 4, 2) := by decide +kernel
theorem dX11_sortOf_13 : decode cX11_sortOf 13 = .ok (.iload 4, 2) := by decide +kernel
theorem dX11_sortOf_15 : decode cX11_sortOf 15 = .ok (.ifCond .lt 31, 3) := by decide +kernel
theorem dX11_sortOf_18 : decode cX11_sortOf 18 = .ok (.iload 4, 2) := by decide +kernel
theorem dX11_sortOf_20 : decode cX11_sortOf 20 = .ok (.iload_n 3, 1) := by decide +kernel
theorem dX11_sortOf_21 : decode cX11_sortOf 21 = .ok (.isub, 1) := by decide +kernel
theorem dX11_sortOf_22 : decode cX11_sortOf 22 = .ok (.iconst 0, 1) := by decide +kernel
theorem dX11_sortOf_23 : decode cX11_sortOf 23 = .ok (.iconst 3, 1) := by decide +kernel
theorem dX11_sortOf_24 : decode cX11_sortOf 24 = .ok (.invokestatic 163, 3) := by decide +kernel
theorem dX11_sortOf_27 : decode cX11_sortOf 27 = .ok (.ifCond .eq 17, 3) := by decide +kernel
theorem dX11_sortOf_30 : decode cX11_sortOf 30 = .ok (.iload_n 2, 1) := by decide +kernel
theorem dX11_sortOf_31 : decode cX11_sortOf 31 = .ok (.iconst 1, 1) := by decide +kernel
theorem dX11_sortOf_32 : decode cX11_sortOf 32 = .ok (.iload 4, 2) := by decide +kernel
theorem dX11_sortOf_34 : decode cX11_sortOf 34 = .ok (.iload_n 3, 1) := by decide +kernel
theorem dX11_sortOf_35 : decode cX11_sortOf 35 = .ok (.isub, 1) := by decide +kernel
theorem dX11_sortOf_36 : decode cX11_sortOf 36 = .ok (.ishl, 1) := by decide +kernel
theorem dX11_sortOf_37 : decode cX11_sortOf 37 = .ok (.if_icmp .ne 7, 3) := by decide +kernel
theorem dX11_sortOf_40 : decode cX11_sortOf 40 = .ok (.iconst 0, 1) := by decide +kernel
theorem dX11_sortOf_41 : decode cX11_sortOf 41 = .ok (.goto 4, 3) := by decide +kernel
theorem dX11_sortOf_44 : decode cX11_sortOf 44 = .ok (.iconst 2, 1) := by decide +kernel
theorem dX11_sortOf_45 : decode cX11_sortOf 45 = .ok (.ireturn, 1) := by decide +kernel
theorem dX11_sortOf_46 : decode cX11_sortOf 46 = .ok (.aload_n 0, 1) := by decide +kernel
theorem dX11_sortOf_47 : decode cX11_sortOf 47 = .ok (.getfield 7, 3) := by decide +kernel
theorem dX11_sortOf_50 : decode cX11_sortOf 50 = .ok (.bipush 32, 2) := by decide +kernel
theorem dX11_sortOf_52 : decode cX11_sortOf 52 = .ok (.iaload, 1) := by decide +kernel
theorem dX11_sortOf_53 : decode cX11_sortOf 53 = .ok (.iconst 1, 1) := by decide +kernel
theorem dX11_sortOf_54 : decode cX11_sortOf 54 = .ok (.if_icmp .ne 11, 3) := by decide +kernel
theorem dX11_sortOf_57 : decode cX11_sortOf 57 = .ok (.aload_n 0, 1) := by decide +kernel
theorem dX11_sortOf_58 : decode cX11_sortOf 58 = .ok (.iload_n 1, 1) := by decide +kernel
theorem dX11_sortOf_59 : decode cX11_sortOf 59 = .ok (.invokevirtual 317, 3) := by decide +kernel
theorem dX11_sortOf_62 : decode cX11_sortOf 62 = .ok (.goto 4, 3) := by decide +kernel
theorem dX11_sortOf_65 : decode cX11_sortOf 65 = .ok (.iconst (-1), 1) := by decide +kernel
theorem dX11_sortOf_66 : decode cX11_sortOf 66 = .ok (.istore 5, 2) := by decide +kernel
theorem dX11_sortOf_68 : decode cX11_sortOf 68 = .ok (.iload 5, 2) := by decide +kernel
theorem dX11_sortOf_70 : decode cX11_sortOf 70 = .ok (.ifCond .ge 5, 3) := by decide +kernel
theorem dX11_sortOf_73 : decode cX11_sortOf 73 = .ok (.iconst 1, 1) := by decide +kernel
theorem dX11_sortOf_74 : decode cX11_sortOf 74 = .ok (.ireturn, 1) := by decide +kernel
theorem dX11_sortOf_75 : decode cX11_sortOf 75 = .ok (.iload 5, 2) := by decide +kernel
theorem dX11_sortOf_77 : decode cX11_sortOf 77 = .ok (.iload_n 3, 1) := by decide +kernel
theorem dX11_sortOf_78 : decode cX11_sortOf 78 = .ok (.isub, 1) := by decide +kernel
theorem dX11_sortOf_79 : decode cX11_sortOf 79 = .ok (.iconst 0, 1) := by decide +kernel
theorem dX11_sortOf_80 : decode cX11_sortOf 80 = .ok (.iconst 2, 1) := by decide +kernel
theorem dX11_sortOf_81 : decode cX11_sortOf 81 = .ok (.invokestatic 163, 3) := by decide +kernel
theorem dX11_sortOf_84 : decode cX11_sortOf 84 = .ok (.ifCond .eq 17, 3) := by decide +kernel
theorem dX11_sortOf_87 : decode cX11_sortOf 87 = .ok (.iload_n 2, 1) := by decide +kernel
theorem dX11_sortOf_88 : decode cX11_sortOf 88 = .ok (.iconst 3, 1) := by decide +kernel
theorem dX11_sortOf_89 : decode cX11_sortOf 89 = .ok (.iload 5, 2) := by decide +kernel
theorem dX11_sortOf_91 : decode cX11_sortOf 91 = .ok (.iload_n 3, 1) := by decide +kernel
theorem dX11_sortOf_92 : decode cX11_sortOf 92 = .ok (.isub, 1) := by decide +kernel
theorem dX11_sortOf_93 : decode cX11_sortOf 93 = .ok (.ishl, 1) := by decide +kernel
theorem dX11_sortOf_94 : decode cX11_sortOf 94 = .ok (.if_icmp .ne 7, 3) := by decide +kernel
theorem dX11_sortOf_97 : decode cX11_sortOf 97 = .ok (.iconst 0, 1) := by decide +kernel
theorem dX11_sortOf_98 : decode cX11_sortOf 98 = .ok (.goto 4, 3) := by decide +kernel
theorem dX11_sortOf_101 : decode cX11_sortOf 101 = .ok (.iconst 2, 1) := by decide +kernel
theorem dX11_sortOf_102 : decode cX11_sortOf 102 = .ok (.ireturn, 1) := by decide +kernel
def wW_X11_sortOf (G : GG) (h0 h1 h2 h3 y0_3 y0_4 y0_6 y0_18 y0_21 y0_22 y0_23 y0_24 y0_25 y0_26 y0_33 y0_34 y0_38 y0_39 y0_40 y0_41 y0_42 y0_43 y0_45 y0_46 y0_47 y0_48 : Nat) (x0_5 : Int32) (x0_7 : Int32) (x0_8 : Int32) (x0_9 : Int32) (x0_10 : Int32) (x0_11 : Int32) (x0_12 : Int32) (x0_13 : Int32) (x0_14 : Int32) (x0_15 : Int32) (x0_16 : Int32) (x0_17 : Int32) (x0_19 : Int32) (x0_20 : Int32) (x0_27 : Int32) (x0_28 : Int32) (x0_29 : Int32) (x0_30 : Int32) (x0_31 : Int32) (x0_32 : Int32) (x0_35 : Int32) (x0_36 : Int32) (x0_37 : Int32) (x0_44 : Int32) (x0_49 : Int32) (x0_50 : Int32) (a1 : Nat → Int32) (a2 : Nat → Int32) (a3 : Nat → Int32) : va_W := [(h0, .inr (11, [.ref h1, .ref h2, .ref h3, .ref y0_3, .ref y0_4, .int x0_5, .ref y0_6, .int x0_7, .int x0_8, .int x0_9, .int x0_10, .int x0_11, .int x0_12, .int x0_13, .int x0_14, .int x0_15, .int x0_16, .int x0_17, .ref y0_18, .int x0_19, .int x0_20, .ref y0_21, .ref y0_22, .ref y0_23, .ref y0_24, .ref y0_25, .ref y0_26, .int x0_27, .int x0_28, .int x0_29, .int x0_30, .int x0_31, .int x0_32, .ref y0_33, .ref y0_34, .int x0_35, .int x0_36, .int x0_37, .ref y0_38, .ref y0_39, .ref y0_40, .ref y0_41, .ref y0_42, .ref y0_43, .int x0_44, .ref y0_45, .ref y0_46, .ref y0_47, .ref y0_48, .int x0_49, .int x0_50])), (h1, .inl (G.2.1, 121, .inl a1)), (h2, .inl (G.2.1, 2, .inl a2)), (h3, .inl (G.2.1, 2, .inl a3))]
set_option maxHeartbeats 4000000 in
set_option maxRecDepth 100000 in
theorem c_X11_sortOf (l : Launch) (G : GG) (h0 h1 h2 h3 y0_3 y0_4 y0_6 y0_18 y0_21 y0_22 y0_23 y0_24 y0_25 y0_26 y0_33 y0_34 y0_38 y0_39 y0_40 y0_41 y0_42 y0_43 y0_45 y0_46 y0_47 y0_48 : Nat) (sz : Nat) (x0_5 : Int32) (x0_7 : Int32) (x0_8 : Int32) (x0_9 : Int32) (x0_10 : Int32) (x0_11 : Int32) (x0_12 : Int32) (x0_13 : Int32) (x0_14 : Int32) (x0_15 : Int32) (x0_16 : Int32) (x0_17 : Int32) (x0_19 : Int32) (x0_20 : Int32) (x0_27 : Int32) (x0_28 : Int32) (x0_29 : Int32) (x0_30 : Int32) (x0_31 : Int32) (x0_32 : Int32) (x0_35 : Int32) (x0_36 : Int32) (x0_37 : Int32) (x0_44 : Int32) (x0_49 : Int32) (x0_50 : Int32) (a1 : Nat → Int32) (a2 : Nat → Int32) (a3 : Nat → Int32) (F : Nat) (b1 : Int32) (b2 : Int32) (b3 : Int32)  (r0 : Int32) (hf : p_X11_sortOf F x0_5 a1 a2 a3 b1 b2 b3 = some r0) : Met l yX11_sortOf (.code yX11_sortOf cX11_sortOf 6 (some .int) :: gtbl) ({ frames := 3, cells := 0, slots := 0, locals := 62 } : Room) (PcS G [.ref h0, .int b1, .int b2, .int b3] (wW_X11_sortOf G h0 h1 h2 h3 y0_3 y0_4 y0_6 y0_18 y0_21 y0_22 y0_23 y0_24 y0_25 y0_26 y0_33 y0_34 y0_38 y0_39 y0_40 y0_41 y0_42 y0_43 y0_45 y0_46 y0_47 y0_48 x0_5 x0_7 x0_8 x0_9 x0_10 x0_11 x0_12 x0_13 x0_14 x0_15 x0_16 x0_17 x0_19 x0_20 x0_27 x0_28 x0_29 x0_30 x0_31 x0_32 x0_35 x0_36 x0_37 x0_44 x0_49 x0_50 a1 a2 a3) sz) (QiS G r0 (va_A (wW_X11_sortOf G h0 h1 h2 h3 y0_3 y0_4 y0_6 y0_18 y0_21 y0_22 y0_23 y0_24 y0_25 y0_26 y0_33 y0_34 y0_38 y0_39 y0_40 y0_41 y0_42 y0_43 y0_45 y0_46 y0_47 y0_48 x0_5 x0_7 x0_8 x0_9 x0_10 x0_11 x0_12 x0_13 x0_14 x0_15 x0_16 x0_17 x0_19 x0_20 x0_27 x0_28 x0_29 x0_30 x0_31 x0_32 x0_35 x0_36 x0_37 x0_44 x0_49 x0_50 a1 a2 a3) sz) (wW_X11_sortOf G h0 h1 h2 h3 y0_3 y0_4 y0_6 y0_18 y0_21 y0_22 y0_23 y0_24 y0_25 y0_26 y0_33 y0_34 y0_38 y0_39 y0_40 y0_41 y0_42 y0_43 y0_45 y0_46 y0_47 y0_48 x0_5 x0_7 x0_8 x0_9 x0_10 x0_11 x0_12 x0_13 x0_14 x0_15 x0_16 x0_17 x0_19 x0_20 x0_27 x0_28 x0_29 x0_30 x0_31 x0_32 x0_35 x0_36 x0_37 x0_44 x0_49 x0_50 a1 a2 a3)) 0 0 (va_A (wW_X11_sortOf G h0 h1 h2 h3 y0_3 y0_4 y0_6 y0_18 y0_21 y0_22 y0_23 y0_24 y0_25 y0_26 y0_33 y0_34 y0_38 y0_39 y0_40 y0_41 y0_42 y0_43 y0_45 y0_46 y0_47 y0_48 x0_5 x0_7 x0_8 x0_9 x0_10 x0_11 x0_12 x0_13 x0_14 x0_15 x0_16 x0_17 x0_19 x0_20 x0_27 x0_28 x0_29 x0_30 x0_31 x0_32 x0_35 x0_36 x0_37 x0_44 x0_49 x0_50 a1 a2 a3) sz) := by
  refine met_start (by decide) (Nat.le_of_ble_eq_true rfl) ?_
  intro p e s m below meth c hC hr hlk hnm hK hP hD hA hS hX ls hl
  obtain ⟨hx, hb, hml, hown, ht0⟩ := hC
  have hown : s.vm.findClass RX11 = some m.cls := hown
  generalize va_A (wW_X11_sortOf G h0 h1 h2 h3 y0_3 y0_4 y0_6 y0_18 y0_21 y0_22 y0_23 y0_24 y0_25 y0_26 y0_33 y0_34 y0_38 y0_39 y0_40 y0_41 y0_42 y0_43 y0_45 y0_46 y0_47 y0_48 x0_5 x0_7 x0_8 x0_9 x0_10 x0_11 x0_12 x0_13 x0_14 x0_15 x0_16 x0_17 x0_19 x0_20 x0_27 x0_28 x0_29 x0_30 x0_31 x0_32 x0_35 x0_36 x0_37 x0_44 x0_49 x0_50 a1 a2 a3) sz = A at hD hA hS hX ⊢
  have hl : lv_has ls 6 [(0, .ref h0), (1, .int b1), (2, .int b2), (3, .int b3)] := hl
  have hf : p_X11_sortOf F x0_5 a1 a2 a3 b1 b2 b3 = some r0 := hf
  have kJ66 : ∀ (u66_2 : Int32) (u66_3 : Int32) (s66_0 : Int32), p_X11_sortOf_J66 F x0_5 a1 a2 a3 u66_2 u66_3 s66_0 = some r0 → ∀ (H : Heap) (locs : List Loc), va_P G.1 vwCl (wW_X11_sortOf G h0 h1 h2 h3 y0_3 y0_4 y0_6 y0_18 y0_21 y0_22 y0_23 y0_24 y0_25 y0_26 y0_33 y0_34 y0_38 y0_39 y0_40 y0_41 y0_42 y0_43 y0_45 y0_46 y0_47 y0_48 x0_5 x0_7 x0_8 x0_9 x0_10 x0_11 x0_12 x0_13 x0_14 x0_15 x0_16 x0_17 x0_19 x0_20 x0_27 x0_28 x0_29 x0_30 x0_31 x0_32 x0_35 x0_36 x0_37 x0_44 x0_49 x0_50 a1 a2 a3) H → va_D A (wW_X11_sortOf G h0 h1 h2 h3 y0_3 y0_4 y0_6 y0_18 y0_21 y0_22 y0_23 y0_24 y0_25 y0_26 y0_33 y0_34 y0_38 y0_39 y0_40 y0_41 y0_42 y0_43 y0_45 y0_46 y0_47 y0_48 x0_5 x0_7 x0_8 x0_9 x0_10 x0_11 x0_12 x0_13 x0_14 x0_15 x0_16 x0_17 x0_19 x0_20 x0_27 x0_28 x0_29 x0_30 x0_31 x0_32 x0_35 x0_36 x0_37 x0_44 x0_49 x0_50 a1 a2 a3) → va_S A s.heap H locs → ∀ ls : Array Slot, lv_has ls 6 [(2, .int u66_2), (3, .int u66_3)] → W p l e ({ frames := 3, cells := 0, slots := 0, locals := 62 } : Room) s m (List.toArray [.ref h0, .int b1, .int b2, .int b3]) below meth c H locs 0 0 (MQ below (QiS G r0 A (wW_X11_sortOf G h0 h1 h2 h3 y0_3 y0_4 y0_6 y0_18 y0_21 y0_22 y0_23 y0_24 y0_25 y0_26 y0_33 y0_34 y0_38 y0_39 y0_40 y0_41 y0_42 y0_43 y0_45 y0_46 y0_47 y0_48 x0_5 x0_7 x0_8 x0_9 x0_10 x0_11 x0_12 x0_13 x0_14 x0_15 x0_16 x0_17 x0_19 x0_20 x0_27 x0_28 x0_29 x0_30 x0_31 x0_32 x0_35 x0_36 x0_37 x0_44 x0_49 x0_50 a1 a2 a3)) (List.toArray [.ref h0, .int b1, .int b2, .int b3]) s 0 0 A) (F0 m 66 ls [.int s66_0]) := by
    intro u66_2 u66_3 s66_0 hf H locs hP hD hS ls hl
    refine lv_istore (lv' := [(5, .int s66_0), (2, .int u66_2), (3, .int u66_3)]) hx hb dX11_sortOf_66 hl (by decide) rfl (fun ls hl => ?_)
    refine lv_iload hx hb dX11_sortOf_68 (lv_at hl 0 rfl) ?_
    refine lv_if_ge (tgt := 75) hx hb dX11_sortOf_70 (by decide) (fun c1 => ?_) (fun c1 => ?_)
    · have hf := of_pos hf c1
      refine lv_iload hx hb dX11_sortOf_75 (lv_at hl 0 rfl) ?_
      refine lv_iload_n hx hb dX11_sortOf_77 rfl (lv_at hl 2 rfl) ?_
      refine lv_isub hx hb dX11_sortOf_78 ?_
      refine lv_iconst (v := (0 : Int32)) hx hb dX11_sortOf_79 (by decide) ?_
      refine lv_iconst (v := (2 : Int32)) hx hb dX11_sortOf_80 (by decide) ?_
      obtain ⟨r_81_1, hc_r_81_1, hf⟩ := of_bnd hf
      refine cl_Si (w2 := (wW_X11_sortOf G h0 h1 h2 h3 y0_3 y0_4 y0_6 y0_18 y0_21 y0_22 y0_23 y0_24 y0_25 y0_26 y0_33 y0_34 y0_38 y0_39 y0_40 y0_41 y0_42 y0_43 y0_45 y0_46 y0_47 y0_48 x0_5 x0_7 x0_8 x0_9 x0_10 x0_11 x0_12 x0_13 x0_14 x0_15 x0_16 x0_17 x0_19 x0_20 x0_27 x0_28 x0_29 x0_30 x0_31 x0_32 x0_35 x0_36 x0_37 x0_44 x0_49 x0_50 a1 a2 a3)) (As := [.int (s66_0 - u66_3), .int (0 : Int32), .int (2 : Int32)]) (rest := []) ⟨hx, hb, hml, hown, ht0⟩ (c_X11_isIn l G _ F (s66_0 - u66_3) (0 : Int32) (2 : Int32) _ hc_r_81_1) yk_X11_isIn wd_1321 ⟨rfl, rfl, by decide, by decide⟩ ⟨Nat.le_refl _, Nat.le_refl _⟩ hX hK hP hD hS hA [] [0, 1, 2, 3] [0, 1, 2, 3] rfl rfl (by decide) rfl rfl rfl rfl rfl hl.1 rfl (Nat.le_of_ble_eq_true rfl) dX11_sortOf_81 (fun H locs hP hD hS => ?_)
      refine lv_if_eq (tgt := 101) hx hb dX11_sortOf_84 (by decide) (fun c3 => ?_) (fun c3 => ?_)
      · have hf := of_pos hf c3
        refine lv_iconst (v := (2 : Int32)) hx hb dX11_sortOf_101 (by decide) ?_
        cases hf
        exact ret_i hx hb hr hlk hK hP hD hS dX11_sortOf_102
      · have hf := of_neg hf c3
        refine lv_iload_n hx hb dX11_sortOf_87 rfl (lv_at hl 1 rfl) ?_
        refine lv_iconst (v := (3 : Int32)) hx hb dX11_sortOf_88 (by decide) ?_
        refine lv_iload hx hb dX11_sortOf_89 (lv_at hl 0 rfl) ?_
        refine lv_iload_n hx hb dX11_sortOf_91 rfl (lv_at hl 2 rfl) ?_
        refine lv_isub hx hb dX11_sortOf_92 ?_
        refine lv_ishl hx hb dX11_sortOf_93 ?_
        refine lv_icmp_ne (tgt := 101) hx hb dX11_sortOf_94 (by decide) (fun c4 => ?_) (fun c4 => ?_)
        · have hf := of_neg hf c4
          refine lv_iconst (v := (2 : Int32)) hx hb dX11_sortOf_101 (by decide) ?_
          cases hf
          exact ret_i hx hb hr hlk hK hP hD hS dX11_sortOf_102
        · have hf := of_pos hf c4
          refine lv_iconst (v := (0 : Int32)) hx hb dX11_sortOf_97 (by decide) ?_
          refine lv_goto (tgt := 102) hx hb dX11_sortOf_98 (by decide) ?_
          cases hf
          exact ret_i hx hb hr hlk hK hP hD hS dX11_sortOf_102
    · have hf := of_neg hf c1
      refine lv_iconst (v := (1 : Int32)) hx hb dX11_sortOf_73 (by decide) ?_
      cases hf
      exact ret_i hx hb hr hlk hK hP hD hS dX11_sortOf_74
  refine lv_iload_n hx hb dX11_sortOf_0 rfl (lv_at hl 1 rfl) ?_
  refine lv_if_ne (tgt := 6) hx hb dX11_sortOf_1 (by decide) (fun c5 => ?_) (fun c5 => ?_)
  · have hf := of_neg hf c5
    refine lv_aload_n hx hb dX11_sortOf_6 rfl (lv_at hl 0 rfl) ?_
    refine lv_iload_n hx hb dX11_sortOf_7 rfl (lv_at hl 1 rfl) ?_
    obtain ⟨r_8_5, hc_r_8_5, hf⟩ := of_bnd hf
    refine cl_Vi (w2 := (wW_X11_sortOf G h0 h1 h2 h3 y0_3 y0_4 y0_6 y0_18 y0_21 y0_22 y0_23 y0_24 y0_25 y0_26 y0_33 y0_34 y0_38 y0_39 y0_40 y0_41 y0_42 y0_43 y0_45 y0_46 y0_47 y0_48 x0_5 x0_7 x0_8 x0_9 x0_10 x0_11 x0_12 x0_13 x0_14 x0_15 x0_16 x0_17 x0_19 x0_20 x0_27 x0_28 x0_29 x0_30 x0_31 x0_32 x0_35 x0_36 x0_37 x0_44 x0_49 x0_50 a1 a2 a3)) (As := [.int b1]) (rest := []) ⟨hx, hb, hml, hown, ht0⟩ (c_X11_placeOf l G h0 h1 h2 h3 y0_3 y0_4 y0_6 y0_18 y0_21 y0_22 y0_23 y0_24 y0_25 y0_26 y0_33 y0_34 y0_38 y0_39 y0_40 y0_41 y0_42 y0_43 y0_45 y0_46 y0_47 y0_48 _ x0_5 x0_7 x0_8 x0_9 x0_10 x0_11 x0_12 x0_13 x0_14 x0_15 x0_16 x0_17 x0_19 x0_20 x0_27 x0_28 x0_29 x0_30 x0_31 x0_32 x0_35 x0_36 x0_37 x0_44 x0_49 x0_50 a1 a2 a3 F b1 _ hc_r_8_5) yk_X11_placeOf wd_1651 ⟨rfl, rfl, by decide, by decide⟩ ⟨Nat.le_refl _, Nat.le_refl _⟩ hX hK hP hD hS hA [0, 1, 2, 3] [] [0, 1, 2, 3] (va_recv hK hP (ci := 11) (q0 := 0) rfl rfl) rfl rfl (by decide) rfl rfl rfl rfl rfl hl.1 rfl (Nat.le_of_ble_eq_true rfl) dX11_sortOf_8 (fun H locs hP hD hS => ?_)
    refine lv_istore (lv' := [(4, .int r_8_5), (0, .ref h0), (1, .int b1), (2, .int b2), (3, .int b3)]) hx hb dX11_sortOf_11 hl (by decide) rfl (fun ls hl => ?_)
    refine lv_iload hx hb dX11_sortOf_13 (lv_at hl 0 rfl) ?_
    refine lv_if_lt (tgt := 46) hx hb dX11_sortOf_15 (by decide) (fun c7 => ?_) (fun c7 => ?_)
    · have hf := of_pos hf c7
      refine lv_aload_n hx hb dX11_sortOf_46 rfl (lv_at hl 1 rfl) ?_
      refine va_get (ci := 11) (v := .ref h1) (C := RX11) (T := TX11) (N := 51) hx hb ht0 iX11 hown hK hP 0 rfl rfl 0 (by decide) (ht0 _ wd_1406) (fun _ h9 => h9) rfl dX11_sortOf_47 ?_
      refine lv_bipush (v := (32 : Int32)) hx hb dX11_sortOf_50 (by decide) ?_
      refine va_iald hx hb hK hP 1 0 rfl rfl (show ¬ ixBad (32 : Int32) 121 by decide) dX11_sortOf_52 ?_
      refine lv_iconst (v := (1 : Int32)) hx hb dX11_sortOf_53 (by decide) ?_
      refine lv_icmp_ne (tgt := 65) hx hb dX11_sortOf_54 (by decide) (fun c8 => ?_) (fun c8 => ?_)
      · have hf := of_neg hf c8
        refine lv_iconst (v := (-1 : Int32)) hx hb dX11_sortOf_65 (by decide) ?_
        exact kJ66 _ _ _ hf _ _ hP hD hS _ (lv_sub hl [3, 4] rfl)
      · have hf := of_pos hf c8
        refine lv_aload_n hx hb dX11_sortOf_57 rfl (lv_at hl 1 rfl) ?_
        refine lv_iload_n hx hb dX11_sortOf_58 rfl (lv_at hl 2 rfl) ?_
        obtain ⟨r_59_8, hc_r_59_8, hf⟩ := of_bnd hf
        refine cl_Vi (w2 := (wW_X11_sortOf G h0 h1 h2 h3 y0_3 y0_4 y0_6 y0_18 y0_21 y0_22 y0_23 y0_24 y0_25 y0_26 y0_33 y0_34 y0_38 y0_39 y0_40 y0_41 y0_42 y0_43 y0_45 y0_46 y0_47 y0_48 x0_5 x0_7 x0_8 x0_9 x0_10 x0_11 x0_12 x0_13 x0_14 x0_15 x0_16 x0_17 x0_19 x0_20 x0_27 x0_28 x0_29 x0_30 x0_31 x0_32 x0_35 x0_36 x0_37 x0_44 x0_49 x0_50 a1 a2 a3)) (As := [.int b1]) (rest := []) ⟨hx, hb, hml, hown, ht0⟩ (c_X11_pairOf l G h0 h1 h2 h3 y0_3 y0_4 y0_6 y0_18 y0_21 y0_22 y0_23 y0_24 y0_25 y0_26 y0_33 y0_34 y0_38 y0_39 y0_40 y0_41 y0_42 y0_43 y0_45 y0_46 y0_47 y0_48 _ x0_5 x0_7 x0_8 x0_9 x0_10 x0_11 x0_12 x0_13 x0_14 x0_15 x0_16 x0_17 x0_19 x0_20 x0_27 x0_28 x0_29 x0_30 x0_31 x0_32 x0_35 x0_36 x0_37 x0_44 x0_49 x0_50 a1 a2 a3 F b1 _ hc_r_59_8) yk_X11_pairOf wd_1655 ⟨rfl, rfl, by decide, by decide⟩ ⟨Nat.le_refl _, Nat.le_refl _⟩ hX hK hP hD hS hA [0, 1, 2, 3] [] [0, 1, 2, 3] (va_recv hK hP (ci := 11) (q0 := 0) rfl rfl) rfl rfl (by decide) rfl rfl rfl rfl rfl hl.1 rfl (Nat.le_of_ble_eq_true rfl) dX11_sortOf_59 (fun H locs hP hD hS => ?_)
        refine lv_goto (tgt := 66) hx hb dX11_sortOf_62 (by decide) ?_
        exact kJ66 _ _ _ hf _ _ hP hD hS _ (lv_sub hl [3, 4] rfl)
    · have hf := of_neg hf c7
      refine lv_iload hx hb dX11_sortOf_18 (lv_at hl 0 rfl) ?_
      refine lv_iload_n hx hb dX11_sortOf_20 rfl (lv_at hl 4 rfl) ?_
      refine lv_isub hx hb dX11_sortOf_21 ?_
      refine lv_iconst (v := (0 : Int32)) hx hb dX11_sortOf_22 (by decide) ?_
      refine lv_iconst (v := (3 : Int32)) hx hb dX11_sortOf_23 (by decide) ?_
      obtain ⟨r_24_9, hc_r_24_9, hf⟩ := of_bnd hf
      refine cl_Si (w2 := (wW_X11_sortOf G h0 h1 h2 h3 y0_3 y0_4 y0_6 y0_18 y0_21 y0_22 y0_23 y0_24 y0_25 y0_26 y0_33 y0_34 y0_38 y0_39 y0_40 y0_41 y0_42 y0_43 y0_45 y0_46 y0_47 y0_48 x0_5 x0_7 x0_8 x0_9 x0_10 x0_11 x0_12 x0_13 x0_14 x0_15 x0_16 x0_17 x0_19 x0_20 x0_27 x0_28 x0_29 x0_30 x0_31 x0_32 x0_35 x0_36 x0_37 x0_44 x0_49 x0_50 a1 a2 a3)) (As := [.int (r_8_5 - b3), .int (0 : Int32), .int (3 : Int32)]) (rest := []) ⟨hx, hb, hml, hown, ht0⟩ (c_X11_isIn l G _ F (r_8_5 - b3) (0 : Int32) (3 : Int32) _ hc_r_24_9) yk_X11_isIn wd_1321 ⟨rfl, rfl, by decide, by decide⟩ ⟨Nat.le_refl _, Nat.le_refl _⟩ hX hK hP hD hS hA [] [0, 1, 2, 3] [0, 1, 2, 3] rfl rfl (by decide) rfl rfl rfl rfl rfl hl.1 rfl (Nat.le_of_ble_eq_true rfl) dX11_sortOf_24 (fun H locs hP hD hS => ?_)
      refine lv_if_eq (tgt := 44) hx hb dX11_sortOf_27 (by decide) (fun c11 => ?_) (fun c11 => ?_)
      · have hf := of_pos hf c11
        refine lv_iconst (v := (2 : Int32)) hx hb dX11_sortOf_44 (by decide) ?_
        cases hf
        exact ret_i hx hb hr hlk hK hP hD hS dX11_sortOf_45
      · have hf := of_neg hf c11
        refine lv_iload_n hx hb dX11_sortOf_30 rfl (lv_at hl 3 rfl) ?_
        refine lv_iconst (v := (1 : Int32)) hx hb dX11_sortOf_31 (by decide) ?_
        refine lv_iload hx hb dX11_sortOf_32 (lv_at hl 0 rfl) ?_
        refine lv_iload_n hx hb dX11_sortOf_34 rfl (lv_at hl 4 rfl) ?_
        refine lv_isub hx hb dX11_sortOf_35 ?_
        refine lv_ishl hx hb dX11_sortOf_36 ?_
        refine lv_icmp_ne (tgt := 44) hx hb dX11_sortOf_37 (by decide) (fun c12 => ?_) (fun c12 => ?_)
        · have hf := of_neg hf c12
          refine lv_iconst (v := (2 : Int32)) hx hb dX11_sortOf_44 (by decide) ?_
          cases hf
          exact ret_i hx hb hr hlk hK hP hD hS dX11_sortOf_45
        · have hf := of_pos hf c12
          refine lv_iconst (v := (0 : Int32)) hx hb dX11_sortOf_40 (by decide) ?_
          refine lv_goto (tgt := 45) hx hb dX11_sortOf_41 (by decide) ?_
          cases hf
          exact ret_i hx hb hr hlk hK hP hD hS dX11_sortOf_45
  · have hf := of_pos hf c5
    refine lv_iconst (v := (2 : Int32)) hx hb dX11_sortOf_4 (by decide) ?_
    cases hf
    exact ret_i hx hb hr hlk hK hP hD hS dX11_sortOf_5
theorem yk_X11_sortOf : ykV yX11_sortOf RX11 cX11_sortOf 6 (some .int) 3 := ⟨wd_1883, wd_117, wd_142, wd_1884, rfl, by decide +kernel, by decide +kernel, by decide +kernel⟩
theorem dX11_addChip_0 : decode cX11_addChip 0 = .ok (.iconst 4, 1) := by decide +kernel
theorem dX11_addChip_1 : decode cX11_addChip 1 = .ok (.iload_n 1, 1) := by decide +kernel
theorem dX11_addChip_2 : decode cX11_addChip 2 = .ok (.imul, 1) := by decide +kernel
theorem dX11_addChip_3 : decode cX11_addChip 3 = .ok (.istore_n 2, 1) := by decide +kernel
theorem dX11_addChip_4 : decode cX11_addChip 4 = .ok (.iconst 4, 1) := by decide +kernel
theorem dX11_addChip_5 : decode cX11_addChip 5 = .ok (.aload_n 0, 1) := by decide +kernel
theorem dX11_addChip_6 : decode cX11_addChip 6 = .ok (.invokevirtual 217, 3) := by decide +kernel
theorem dX11_addChip_9 : decode cX11_addChip 9 = .ok (.iload_n 2, 1) := by decide +kernel
theorem dX11_addChip_10 : decode cX11_addChip 10 = .ok (.isub, 1) := by decide +kernel
theorem dX11_addChip_11 : decode cX11_addChip 11 = .ok (.invokestatic 402, 3) := by decide +kernel
theorem dX11_addChip_14 : decode cX11_addChip 14 = .ok (.istore_n 3, 1) := by decide +kernel
theorem dX11_addChip_15 : decode cX11_addChip 15 = .ok (.iconst 1, 1) := by decide +kernel
theorem dX11_addChip_16 : decode cX11_addChip 16 = .ok (.istore 4, 2) := by decide +kernel
theorem dX11_addChip_18 : decode cX11_addChip 18 = .ok (.iload 4, 2) := by decide +kernel
theorem dX11_addChip_20 : decode cX11_addChip 20 = .ok (.iconst 1, 1) := by decide +kernel
theorem dX11_addChip_21 : decode cX11_addChip 21 = .ok (.iload_n 3, 1) := by decide +kernel
theorem dX11_addChip_22 : decode cX11_addChip 22 = .ok (.ishl, 1) := by decide +kernel
theorem dX11_addChip_23 : decode cX11_addChip 23 = .ok (.if_icmp .ge 69, 3) := by decide +kernel
theorem dX11_addChip_26 : decode cX11_addChip 26 = .ok (.iconst 0, 1) := by decide +kernel
theorem dX11_addChip_27 : decode cX11_addChip 27 = .ok (.istore 5, 2) := by decide +kernel
theorem dX11_addChip_29 : decode cX11_addChip 29 = .ok (.iconst 0, 1) := by decide +kernel
theorem dX11_addChip_30 : decode cX11_addChip 30 = .ok (.istore 6, 2) := by decide +kernel
theorem dX11_addChip_32 : decode cX11_addChip 32 = .ok (.iload 6, 2) := by decide +kernel
theorem dX11_addChip_34 : decode cX11_addChip 34 = .ok (.iload_n 3, 1) := by decide +kernel
theorem dX11_addChip_35 : decode cX11_addChip 35 = .ok (.if_icmp .ge 33, 3) := by decide +kernel
theorem dX11_addChip_38 : decode cX11_addChip 38 = .ok (.iload 4, 2) := by decide +kernel
theorem dX11_addChip_40 : decode cX11_addChip 40 = .ok (.iload 6, 2) := by decide +kernel
theorem dX11_addChip_42 : decode cX11_addChip 42 = .ok (.ishr, 1) := by decide +kernel
theorem dX11_addChip_43 : decode cX11_addChip 43 = .ok (.iconst 1, 1) := by decide +kernel
theorem dX11_addChip_44 : decode cX11_addChip 44 = .ok (.iand, 1) := by decide +kernel
theorem dX11_addChip_45 : decode cX11_addChip 45 = .ok (.iconst 1, 1) := by decide +kernel
theorem dX11_addChip_46 : decode cX11_addChip 46 = .ok (.if_icmp .ne 16, 3) := by decide +kernel
theorem dX11_addChip_49 : decode cX11_addChip 49 = .ok (.iload 5, 2) := by decide +kernel
theorem dX11_addChip_51 : decode cX11_addChip 51 = .ok (.aload_n 0, 1) := by decide +kernel
theorem dX11_addChip_52 : decode cX11_addChip 52 = .ok (.iload_n 2, 1) := by decide +kernel
theorem dX11_addChip_53 : decode cX11_addChip 53 = .ok (.iload 6, 2) := by decide +kernel
theorem dX11_addChip_55 : decode cX11_addChip 55 = .ok (.iadd, 1) := by decide +kernel
theorem dX11_addChip_56 : decode cX11_addChip 56 = .ok (.invokevirtual 269, 3) := by decide +kernel
theorem dX11_addChip_59 : decode cX11_addChip 59 = .ok (.ixor, 1) := by decide +kernel
theorem dX11_addChip_60 : decode cX11_addChip 60 = .ok (.istore 5, 2) := by decide +kernel
theorem dX11_addChip_62 : decode cX11_addChip 62 = .ok (.iinc 6 1, 3) := by decide +kernel
theorem dX11_addChip_65 : decode cX11_addChip 65 = .ok (.goto (-33), 3) := by decide +kernel
theorem dX11_addChip_68 : decode cX11_addChip 68 = .ok (.aload_n 0, 1) := by decide +kernel
theorem dX11_addChip_69 : decode cX11_addChip 69 = .ok (.getfield 55, 3) := by decide +kernel
theorem dX11_addChip_72 : decode cX11_addChip 72 = .ok (.aload_n 0, 1) := by decide +kernel
theorem dX11_addChip_73 : decode cX11_addChip 73 = .ok (.iload 5, 2) := by decide +kernel
theorem dX11_addChip_75 : decode cX11_addChip 75 = .ok (.iload 4, 2) := by decide +kernel
theorem dX11_addChip_77 : decode cX11_addChip 77 = .ok (.iload_n 2, 1) := by decide +kernel
theorem dX11_addChip_78 : decode cX11_addChip 78 = .ok (.invokevirtual 429, 3) := by decide +kernel
theorem dX11_addChip_81 : decode cX11_addChip 81 = .ok (.dup2, 1) := by decide +kernel
theorem dX11_addChip_82 : decode cX11_addChip 82 = .ok (.iaload, 1) := by decide +kernel
theorem dX11_addChip_83 : decode cX11_addChip 83 = .ok (.iconst 1, 1) := by decide +kernel
theorem dX11_addChip_84 : decode cX11_addChip 84 = .ok (.iadd, 1) := by decide +kernel
theorem dX11_addChip_85 : decode cX11_addChip 85 = .ok (.iastore, 1) := by decide +kernel
theorem dX11_addChip_86 : decode cX11_addChip 86 = .ok (.iinc 4 1, 3) := by decide +kernel
theorem dX11_addChip_89 : decode cX11_addChip 89 = .ok (.goto (-71), 3) := by decide +kernel
theorem dX11_addChip_92 : decode cX11_addChip 92 = .ok (.return_, 1) := by decide +kernel
def wW_X11_addChip (G : GG) (h0 h1 h2 h3 h4 y0_3 y0_4 y0_6 y0_18 y0_21 y0_22 y0_23 y0_24 y0_25 y0_26 y0_34 y0_38 y0_39 y0_40 y0_41 y0_42 y0_43 y0_45 y0_46 y0_47 y0_48 : Nat) (x0_5 : Int32) (x0_7 : Int32) (x0_8 : Int32) (x0_9 : Int32) (x0_10 : Int32) (x0_11 : Int32) (x0_12 : Int32) (x0_13 : Int32) (x0_14 : Int32) (x0_15 : Int32) (x0_16 : Int32) (x0_17 : Int32) (x0_19 : Int32) (x0_20 : Int32) (x0_27 : Int32) (x0_28 : Int32) (x0_29 : Int32) (x0_30 : Int32) (x0_31 : Int32) (x0_32 : Int32) (x0_35 : Int32) (x0_36 : Int32) (x0_37 : Int32) (x0_44 : Int32) (x0_49 : Int32) (x0_50 : Int32) (a1 : Nat → Int32) (a2 : Nat → Int32) (a3 : Nat → Int32) (a4 : Nat → Int32) : va_W := [(h0, .inr (11, [.ref h1, .ref h2, .ref h3, .ref y0_3, .ref y0_4, .int x0_5, .ref y0_6, .int x0_7, .int x0_8, .int x0_9, .int x0_10, .int x0_11, .int x0_12, .int x0_13, .int x0_14, .int x0_15, .int x0_16, .int x0_17, .ref y0_18, .int x0_19, .int x0_20, .ref y0_21, .ref y0_22, .ref y0_23, .ref y0_24, .ref y0_25, .ref y0_26, .int x0_27, .int x0_28, .int x0_29, .int x0_30, .int x0_31, .int x0_32, .ref h4, .ref y0_34, .int x0_35, .int x0_36, .int x0_37, .ref y0_38, .ref y0_39, .ref y0_40, .ref y0_41, .ref y0_42, .ref y0_43, .int x0_44, .ref y0_45, .ref y0_46, .ref y0_47, .ref y0_48, .int x0_49, .int x0_50])), (h1, .inl (G.2.1, 121, .inl a1)), (h2, .inl (G.2.1, 2, .inl a2)), (h3, .inl (G.2.1, 2, .inl a3)), (h4, .inl (G.2.1, 3, .inl a4))]
set_option maxHeartbeats 4000000 in
set_option maxRecDepth 100000 in
theorem c_X11_addChip (l : Launch) (G : GG) (h0 h1 h2 h3 h4 y0_3 y0_4 y0_6 y0_18 y0_21 y0_22 y0_23 y0_24 y0_25 y0_26 y0_34 y0_38 y0_39 y0_40 y0_41 y0_42 y0_43 y0_45 y0_46 y0_47 y0_48 : Nat) (sz : Nat) (x0_5 : Int32) (x0_7 : Int32) (x0_8 : Int32) (x0_9 : Int32) (x0_10 : Int32) (x0_11 : Int32) (x0_12 : Int32) (x0_13 : Int32) (x0_14 : Int32) (x0_15 : Int32) (x0_16 : Int32) (x0_17 : Int32) (x0_19 : Int32) (x0_20 : Int32) (x0_27 : Int32) (x0_28 : Int32) (x0_29 : Int32) (x0_30 : Int32) (x0_31 : Int32) (x0_32 : Int32) (x0_35 : Int32) (x0_36 : Int32) (x0_37 : Int32) (x0_44 : Int32) (x0_49 : Int32) (x0_50 : Int32) (a1 : Nat → Int32) (a2 : Nat → Int32) (a3 : Nat → Int32) (a4 : Nat → Int32) (F : Nat) (b1 : Int32)  (e_a4 : Nat → Int32) (hf : p_X11_addChip F x0_5 a1 a2 a3 a4 b1 = some e_a4) : Met l yX11_addChip (.code yX11_addChip cX11_addChip 7 none :: gtbl) ({ frames := 4, cells := 0, slots := 0, locals := 87 } : Room) (PcS G [.ref h0, .int b1] (wW_X11_addChip G h0 h1 h2 h3 h4 y0_3 y0_4 y0_6 y0_18 y0_21 y0_22 y0_23 y0_24 y0_25 y0_26 y0_34 y0_38 y0_39 y0_40 y0_41 y0_42 y0_43 y0_45 y0_46 y0_47 y0_48 x0_5 x0_7 x0_8 x0_9 x0_10 x0_11 x0_12 x0_13 x0_14 x0_15 x0_16 x0_17 x0_19 x0_20 x0_27 x0_28 x0_29 x0_30 x0_31 x0_32 x0_35 x0_36 x0_37 x0_44 x0_49 x0_50 a1 a2 a3 a4) sz) (QvS G (va_A (wW_X11_addChip G h0 h1 h2 h3 h4 y0_3 y0_4 y0_6 y0_18 y0_21 y0_22 y0_23 y0_24 y0_25 y0_26 y0_34 y0_38 y0_39 y0_40 y0_41 y0_42 y0_43 y0_45 y0_46 y0_47 y0_48 x0_5 x0_7 x0_8 x0_9 x0_10 x0_11 x0_12 x0_13 x0_14 x0_15 x0_16 x0_17 x0_19 x0_20 x0_27 x0_28 x0_29 x0_30 x0_31 x0_32 x0_35 x0_36 x0_37 x0_44 x0_49 x0_50 a1 a2 a3 a4) sz) (wW_X11_addChip G h0 h1 h2 h3 h4 y0_3 y0_4 y0_6 y0_18 y0_21 y0_22 y0_23 y0_24 y0_25 y0_26 y0_34 y0_38 y0_39 y0_40 y0_41 y0_42 y0_43 y0_45 y0_46 y0_47 y0_48 x0_5 x0_7 x0_8 x0_9 x0_10 x0_11 x0_12 x0_13 x0_14 x0_15 x0_16 x0_17 x0_19 x0_20 x0_27 x0_28 x0_29 x0_30 x0_31 x0_32 x0_35 x0_36 x0_37 x0_44 x0_49 x0_50 a1 a2 a3 e_a4)) 0 0 (va_A (wW_X11_addChip G h0 h1 h2 h3 h4 y0_3 y0_4 y0_6 y0_18 y0_21 y0_22 y0_23 y0_24 y0_25 y0_26 y0_34 y0_38 y0_39 y0_40 y0_41 y0_42 y0_43 y0_45 y0_46 y0_47 y0_48 x0_5 x0_7 x0_8 x0_9 x0_10 x0_11 x0_12 x0_13 x0_14 x0_15 x0_16 x0_17 x0_19 x0_20 x0_27 x0_28 x0_29 x0_30 x0_31 x0_32 x0_35 x0_36 x0_37 x0_44 x0_49 x0_50 a1 a2 a3 a4) sz) := by
  refine met_start (by decide) (Nat.le_of_ble_eq_true rfl) ?_
  intro p e s m below meth c hC hr hlk hnm hK hP hD hA hS hX ls hl
  obtain ⟨hx, hb, hml, hown, ht0⟩ := hC
  have hown : s.vm.findClass RX11 = some m.cls := hown
  generalize va_A (wW_X11_addChip G h0 h1 h2 h3 h4 y0_3 y0_4 y0_6 y0_18 y0_21 y0_22 y0_23 y0_24 y0_25 y0_26 y0_34 y0_38 y0_39 y0_40 y0_41 y0_42 y0_43 y0_45 y0_46 y0_47 y0_48 x0_5 x0_7 x0_8 x0_9 x0_10 x0_11 x0_12 x0_13 x0_14 x0_15 x0_16 x0_17 x0_19 x0_20 x0_27 x0_28 x0_29 x0_30 x0_31 x0_32 x0_35 x0_36 x0_37 x0_44 x0_49 x0_50 a1 a2 a3 a4) sz = A at hD hA hS hX ⊢
  have hl : lv_has ls 7 [(0, .ref h0), (1, .int b1)] := hl
  have hf : p_X11_addChip F x0_5 a1 a2 a3 a4 b1 = some e_a4 := hf
  have kL18 : ∀ (c18_2 : Int32) (c18_3 : Int32) (n18 : Nat) (u18_4 : Int32) (a4_18 : Nat → Int32), p_X11_addChip_L18 F x0_5 a1 a2 a3 c18_2 c18_3 n18 u18_4 a4_18 = some e_a4 → ∀ (H : Heap) (locs : List Loc), va_P G.1 vwCl (wW_X11_addChip G h0 h1 h2 h3 h4 y0_3 y0_4 y0_6 y0_18 y0_21 y0_22 y0_23 y0_24 y0_25 y0_26 y0_34 y0_38 y0_39 y0_40 y0_41 y0_42 y0_43 y0_45 y0_46 y0_47 y0_48 x0_5 x0_7 x0_8 x0_9 x0_10 x0_11 x0_12 x0_13 x0_14 x0_15 x0_16 x0_17 x0_19 x0_20 x0_27 x0_28 x0_29 x0_30 x0_31 x0_32 x0_35 x0_36 x0_37 x0_44 x0_49 x0_50 a1 a2 a3 a4_18) H → va_D A (wW_X11_addChip G h0 h1 h2 h3 h4 y0_3 y0_4 y0_6 y0_18 y0_21 y0_22 y0_23 y0_24 y0_25 y0_26 y0_34 y0_38 y0_39 y0_40 y0_41 y0_42 y0_43 y0_45 y0_46 y0_47 y0_48 x0_5 x0_7 x0_8 x0_9 x0_10 x0_11 x0_12 x0_13 x0_14 x0_15 x0_16 x0_17 x0_19 x0_20 x0_27 x0_28 x0_29 x0_30 x0_31 x0_32 x0_35 x0_36 x0_37 x0_44 x0_49 x0_50 a1 a2 a3 a4_18) → va_S A s.heap H locs → ∀ ls : Array Slot, lv_has ls 7 [(0, .ref h0), (2, .int c18_2), (3, .int c18_3), (4, .int u18_4)] → W p l e ({ frames := 4, cells := 0, slots := 0, locals := 87 } : Room) s m (List.toArray [.ref h0, .int b1]) below meth c H locs 0 0 (MQ below (QvS G A (wW_X11_addChip G h0 h1 h2 h3 h4 y0_3 y0_4 y0_6 y0_18 y0_21 y0_22 y0_23 y0_24 y0_25 y0_26 y0_34 y0_38 y0_39 y0_40 y0_41 y0_42 y0_43 y0_45 y0_46 y0_47 y0_48 x0_5 x0_7 x0_8 x0_9 x0_10 x0_11 x0_12 x0_13 x0_14 x0_15 x0_16 x0_17 x0_19 x0_20 x0_27 x0_28 x0_29 x0_30 x0_31 x0_32 x0_35 x0_36 x0_37 x0_44 x0_49 x0_50 a1 a2 a3 e_a4)) (List.toArray [.ref h0, .int b1]) s 0 0 A) (F0 m 18 ls []) := by
    intro c18_2 c18_3 n18
    induction n18 with
    | zero =>
      intro u18_4 a4_18 hf
      cases hf
    | succ n18 ih18 =>
      have kL32 : ∀ (c32_4 : Int32) (n32 : Nat) (u32_5 : Int32) (u32_6 : Int32) (a4_32 : Nat → Int32), p_X11_addChip_L32 F x0_5 a1 a2 a3 c18_2 c18_3 c32_4 (p_X11_addChip_L18 F x0_5 a1 a2 a3 c18_2 c18_3 n18) n32 u32_5 u32_6 a4_32 = some e_a4 → ∀ (H : Heap) (locs : List Loc), va_P G.1 vwCl (wW_X11_addChip G h0 h1 h2 h3 h4 y0_3 y0_4 y0_6 y0_18 y0_21 y0_22 y0_23 y0_24 y0_25 y0_26 y0_34 y0_38 y0_39 y0_40 y0_41 y0_42 y0_43 y0_45 y0_46 y0_47 y0_48 x0_5 x0_7 x0_8 x0_9 x0_10 x0_11 x0_12 x0_13 x0_14 x0_15 x0_16 x0_17 x0_19 x0_20 x0_27 x0_28 x0_29 x0_30 x0_31 x0_32 x0_35 x0_36 x0_37 x0_44 x0_49 x0_50 a1 a2 a3 a4_32) H → va_D A (wW_X11_addChip G h0 h1 h2 h3 h4 y0_3 y0_4 y0_6 y0_18 y0_21 y0_22 y0_23 y0_24 y0_25 y0_26 y0_34 y0_38 y0_39 y0_40 y0_41 y0_42 y0_43 y0_45 y0_46 y0_47 y0_48 x0_5 x0_7 x0_8 x0_9 x0_10 x0_11 x0_12 x0_13 x0_14 x0_15 x0_16 x0_17 x0_19 x0_20 x0_27 x0_28 x0_29 x0_30 x0_31 x0_32 x0_35 x0_36 x0_37 x0_44 x0_49 x0_50 a1 a2 a3 a4_32) → va_S A s.heap H locs → ∀ ls : Array Slot, lv_has ls 7 [(0, .ref h0), (2, .int c18_2), (3, .int c18_3), (4, .int c32_4), (5, .int u32_5), (6, .int u32_6)] → W p l e ({ frames := 4, cells := 0, slots := 0, locals := 87 } : Room) s m (List.toArray [.ref h0, .int b1]) below meth c H locs 0 0 (MQ below (QvS G A (wW_X11_addChip G h0 h1 h2 h3 h4 y0_3 y0_4 y0_6 y0_18 y0_21 y0_22 y0_23 y0_24 y0_25 y0_26 y0_34 y0_38 y0_39 y0_40 y0_41 y0_42 y0_43 y0_45 y0_46 y0_47 y0_48 x0_5 x0_7 x0_8 x0_9 x0_10 x0_11 x0_12 x0_13 x0_14 x0_15 x0_16 x0_17 x0_19 x0_20 x0_27 x0_28 x0_29 x0_30 x0_31 x0_32 x0_35 x0_36 x0_37 x0_44 x0_49 x0_50 a1 a2 a3 e_a4)) (List.toArray [.ref h0, .int b1]) s 0 0 A) (F0 m 32 ls []) := by
        intro c32_4 n32
        induction n32 with
        | zero =>
          intro u32_5 u32_6 a4_32 hf
          cases hf
        | succ n32 ih32 =>
          have kJ62 : ∀ (u62_5 : Int32) (u62_6 : Int32) (a4_62 : Nat → Int32), p_X11_addChip_J62 F x0_5 a1 a2 a3 c18_2 c18_3 c32_4 (p_X11_addChip_L18 F x0_5 a1 a2 a3 c18_2 c18_3 n18) (p_X11_addChip_L32 F x0_5 a1 a2 a3 c18_2 c18_3 c32_4 (p_X11_addChip_L18 F x0_5 a1 a2 a3 c18_2 c18_3 n18) n32) u62_5 u62_6 a4_62 = some e_a4 → ∀ (H : Heap) (locs : List Loc), va_P G.1 vwCl (wW_X11_addChip G h0 h1 h2 h3 h4 y0_3 y0_4 y0_6 y0_18 y0_21 y0_22 y0_23 y0_24 y0_25 y0_26 y0_34 y0_38 y0_39 y0_40 y0_41 y0_42 y0_43 y0_45 y0_46 y0_47 y0_48 x0_5 x0_7 x0_8 x0_9 x0_10 x0_11 x0_12 x0_13 x0_14 x0_15 x0_16 x0_17 x0_19 x0_20 x0_27 x0_28 x0_29 x0_30 x0_31 x0_32 x0_35 x0_36 x0_37 x0_44 x0_49 x0_50 a1 a2 a3 a4_62) H → va_D A (wW_X11_addChip G h0 h1 h2 h3 h4 y0_3 y0_4 y0_6 y0_18 y0_21 y0_22 y0_23 y0_24 y0_25 y0_26 y0_34 y0_38 y0_39 y0_40 y0_41 y0_42 y0_43 y0_45 y0_46 y0_47 y0_48 x0_5 x0_7 x0_8 x0_9 x0_10 x0_11 x0_12 x0_13 x0_14 x0_15 x0_16 x0_17 x0_19 x0_20 x0_27 x0_28 x0_29 x0_30 x0_31 x0_32 x0_35 x0_36 x0_37 x0_44 x0_49 x0_50 a1 a2 a3 a4_62) → va_S A s.heap H locs → ∀ ls : Array Slot, lv_has ls 7 [(0, .ref h0), (2, .int c18_2), (3, .int c18_3), (4, .int c32_4), (5, .int u62_5), (6, .int u62_6)] → W p l e ({ frames := 4, cells := 0, slots := 0, locals := 87 } : Room) s m (List.toArray [.ref h0, .int b1]) below meth c H locs 0 0 (MQ below (QvS G A (wW_X11_addChip G h0 h1 h2 h3 h4 y0_3 y0_4 y0_6 y0_18 y0_21 y0_22 y0_23 y0_24 y0_25 y0_26 y0_34 y0_38 y0_39 y0_40 y0_41 y0_42 y0_43 y0_45 y0_46 y0_47 y0_48 x0_5 x0_7 x0_8 x0_9 x0_10 x0_11 x0_12 x0_13 x0_14 x0_15 x0_16 x0_17 x0_19 x0_20 x0_27 x0_28 x0_29 x0_30 x0_31 x0_32 x0_35 x0_36 x0_37 x0_44 x0_49 x0_50 a1 a2 a3 e_a4)) (List.toArray [.ref h0, .int b1]) s 0 0 A) (F0 m 62 ls []) := by
            intro u62_5 u62_6 a4_62 hf H locs hP hD hS ls hl
            refine lv_iinc (v := u62_6 + (1 : Int32)) (lv' := [(6, .int (u62_6 + (1 : Int32))), (0, .ref h0), (2, .int c18_2), (3, .int c18_3), (4, .int c32_4), (5, .int u62_5)]) hx hb dX11_addChip_62 hl (k := 5) rfl (by rfl) (by decide) rfl (fun ls hl => ?_)
            refine lv_goto (tgt := 32) hx hb dX11_addChip_65 (by decide) ?_
            exact ih32 _ _ _ hf _ _ hP hD hS _ (lv_sub hl [1, 2, 3, 4, 5, 0] rfl)
          intro u32_5 u32_6 a4_32 hf H locs hP hD hS ls hl
          have hf : p_X11_addChip_L32b F x0_5 a1 a2 a3 c18_2 c18_3 c32_4 (p_X11_addChip_L18 F x0_5 a1 a2 a3 c18_2 c18_3 n18) (p_X11_addChip_L32 F x0_5 a1 a2 a3 c18_2 c18_3 c32_4 (p_X11_addChip_L18 F x0_5 a1 a2 a3 c18_2 c18_3 n18) n32) u32_5 u32_6 a4_32 = some e_a4 := hf
          refine lv_iload hx hb dX11_addChip_32 (lv_at hl 5 rfl) ?_
          refine lv_iload_n hx hb dX11_addChip_34 rfl (lv_at hl 2 rfl) ?_
          refine lv_icmp_ge (tgt := 68) hx hb dX11_addChip_35 (by decide) (fun c1 => ?_) (fun c1 => ?_)
          · have hf := of_pos hf c1
            refine lv_aload_n hx hb dX11_addChip_68 rfl (lv_at hl 0 rfl) ?_
            refine va_get (ci := 11) (v := .ref h4) (C := RX11) (T := TX11) (N := 51) hx hb ht0 iX11 hown hK hP 0 rfl rfl 33 (by decide) (ht0 _ wd_1439) (fun _ h9 => h9) rfl dX11_addChip_69 ?_
            refine lv_aload_n hx hb dX11_addChip_72 rfl (lv_at hl 0 rfl) ?_
            refine lv_iload hx hb dX11_addChip_73 (lv_at hl 4 rfl) ?_
            refine lv_iload hx hb dX11_addChip_75 (lv_at hl 3 rfl) ?_
            refine lv_iload_n hx hb dX11_addChip_77 rfl (lv_at hl 1 rfl) ?_
            obtain ⟨r_78_1, hc_r_78_1, hf⟩ := of_bnd hf
            refine cl_Vi (w2 := (wW_X11_addChip G h0 h1 h2 h3 h4 y0_3 y0_4 y0_6 y0_18 y0_21 y0_22 y0_23 y0_24 y0_25 y0_26 y0_34 y0_38 y0_39 y0_40 y0_41 y0_42 y0_43 y0_45 y0_46 y0_47 y0_48 x0_5 x0_7 x0_8 x0_9 x0_10 x0_11 x0_12 x0_13 x0_14 x0_15 x0_16 x0_17 x0_19 x0_20 x0_27 x0_28 x0_29 x0_30 x0_31 x0_32 x0_35 x0_36 x0_37 x0_44 x0_49 x0_50 a1 a2 a3 a4_32)) (As := [.int u32_5, .int c32_4, .int c18_2]) (rest := [.ref h4]) ⟨hx, hb, hml, hown, ht0⟩ (c_X11_sortOf l G h0 h1 h2 h3 y0_3 y0_4 y0_6 y0_18 y0_21 y0_22 y0_23 y0_24 y0_25 y0_26 h4 y0_34 y0_38 y0_39 y0_40 y0_41 y0_42 y0_43 y0_45 y0_46 y0_47 y0_48 _ x0_5 x0_7 x0_8 x0_9 x0_10 x0_11 x0_12 x0_13 x0_14 x0_15 x0_16 x0_17 x0_19 x0_20 x0_27 x0_28 x0_29 x0_30 x0_31 x0_32 x0_35 x0_36 x0_37 x0_44 x0_49 x0_50 a1 a2 a3 F u32_5 c32_4 c18_2 _ hc_r_78_1) yk_X11_sortOf wd_1881 ⟨rfl, rfl, by decide, by decide⟩ ⟨Nat.le_refl _, Nat.le_refl _⟩ hX hK hP hD hS hA [0, 1, 2, 3] [4] [1, 2, 3, 4, 0] (va_recv hK hP (ci := 11) (q0 := 0) rfl rfl) rfl rfl (by decide) rfl rfl rfl rfl rfl hl.1 rfl (Nat.le_of_ble_eq_true rfl) dX11_addChip_78 (fun H locs hP hD hS => ?_)
            refine lv_dup2_11 hx hb dX11_addChip_81 rfl rfl ?_
            obtain ⟨g3, hf⟩ := of_grd hf
            refine va_iald hx hb hK hP 4 0 rfl rfl g3 dX11_addChip_82 ?_
            refine lv_iconst (v := (1 : Int32)) hx hb dX11_addChip_83 (by decide) ?_
            refine lv_iadd hx hb dX11_addChip_84 ?_
            obtain ⟨g4, hf⟩ := of_grd hf
            refine va_iast hx hb hK hP hD hS 4 0 rfl rfl g4 dX11_addChip_85 (fun H locs hP hD hS => ?_)
            have hP : va_P G.1 vwCl (wW_X11_addChip G h0 h1 h2 h3 h4 y0_3 y0_4 y0_6 y0_18 y0_21 y0_22 y0_23 y0_24 y0_25 y0_26 y0_34 y0_38 y0_39 y0_40 y0_41 y0_42 y0_43 y0_45 y0_46 y0_47 y0_48 x0_5 x0_7 x0_8 x0_9 x0_10 x0_11 x0_12 x0_13 x0_14 x0_15 x0_16 x0_17 x0_19 x0_20 x0_27 x0_28 x0_29 x0_30 x0_31 x0_32 x0_35 x0_36 x0_37 x0_44 x0_49 x0_50 a1 a2 a3 (upd a4_32 r_78_1.toNatClampNeg ((a4_32 r_78_1.toNatClampNeg) + (1 : Int32)))) H := hP
            have hD : va_D A (wW_X11_addChip G h0 h1 h2 h3 h4 y0_3 y0_4 y0_6 y0_18 y0_21 y0_22 y0_23 y0_24 y0_25 y0_26 y0_34 y0_38 y0_39 y0_40 y0_41 y0_42 y0_43 y0_45 y0_46 y0_47 y0_48 x0_5 x0_7 x0_8 x0_9 x0_10 x0_11 x0_12 x0_13 x0_14 x0_15 x0_16 x0_17 x0_19 x0_20 x0_27 x0_28 x0_29 x0_30 x0_31 x0_32 x0_35 x0_36 x0_37 x0_44 x0_49 x0_50 a1 a2 a3 (upd a4_32 r_78_1.toNatClampNeg ((a4_32 r_78_1.toNatClampNeg) + (1 : Int32)))) := hD
            refine lv_iinc (v := c32_4 + (1 : Int32)) (lv' := [(4, .int (c32_4 + (1 : Int32))), (0, .ref h0), (2, .int c18_2), (3, .int c18_3), (5, .int u32_5), (6, .int u32_6)]) hx hb dX11_addChip_86 hl (k := 3) rfl (by rfl) (by decide) rfl (fun ls hl => ?_)
            refine lv_goto (tgt := 18) hx hb dX11_addChip_89 (by decide) ?_
            exact ih18 _ _ hf _ _ hP hD hS _ (lv_sub hl [1, 2, 3, 0] rfl)
          · have hf := of_neg hf c1
            refine lv_iload hx hb dX11_addChip_38 (lv_at hl 3 rfl) ?_
            refine lv_iload hx hb dX11_addChip_40 (lv_at hl 5 rfl) ?_
            refine lv_ishr hx hb dX11_addChip_42 ?_
            refine lv_iconst (v := (1 : Int32)) hx hb dX11_addChip_43 (by decide) ?_
            refine lv_iand hx hb dX11_addChip_44 ?_
            refine lv_iconst (v := (1 : Int32)) hx hb dX11_addChip_45 (by decide) ?_
            refine lv_icmp_ne (tgt := 62) hx hb dX11_addChip_46 (by decide) (fun c5 => ?_) (fun c5 => ?_)
            · have hf := of_neg hf c5
              exact kJ62 _ _ _ hf _ _ hP hD hS _ (lv_sub hl [0, 1, 2, 3, 4, 5] rfl)
            · have hf := of_pos hf c5
              refine lv_iload hx hb dX11_addChip_49 (lv_at hl 4 rfl) ?_
              refine lv_aload_n hx hb dX11_addChip_51 rfl (lv_at hl 0 rfl) ?_
              refine lv_iload_n hx hb dX11_addChip_52 rfl (lv_at hl 1 rfl) ?_
              refine lv_iload hx hb dX11_addChip_53 (lv_at hl 5 rfl) ?_
              refine lv_iadd hx hb dX11_addChip_55 ?_
              obtain ⟨r_56_5, hc_r_56_5, hf⟩ := of_bnd hf
              refine cl_Vi (w2 := (wW_X11_addChip G h0 h1 h2 h3 h4 y0_3 y0_4 y0_6 y0_18 y0_21 y0_22 y0_23 y0_24 y0_25 y0_26 y0_34 y0_38 y0_39 y0_40 y0_41 y0_42 y0_43 y0_45 y0_46 y0_47 y0_48 x0_5 x0_7 x0_8 x0_9 x0_10 x0_11 x0_12 x0_13 x0_14 x0_15 x0_16 x0_17 x0_19 x0_20 x0_27 x0_28 x0_29 x0_30 x0_31 x0_32 x0_35 x0_36 x0_37 x0_44 x0_49 x0_50 a1 a2 a3 a4_32)) (As := [.int (c18_2 + u32_6)]) (rest := [.int u32_5]) ⟨hx, hb, hml, hown, ht0⟩ (c_X11_columnAt l G h0 h1 h2 h3 y0_3 y0_4 y0_6 y0_18 y0_21 y0_22 y0_23 y0_24 y0_25 y0_26 h4 y0_34 y0_38 y0_39 y0_40 y0_41 y0_42 y0_43 y0_45 y0_46 y0_47 y0_48 _ x0_5 x0_7 x0_8 x0_9 x0_10 x0_11 x0_12 x0_13 x0_14 x0_15 x0_16 x0_17 x0_19 x0_20 x0_27 x0_28 x0_29 x0_30 x0_31 x0_32 x0_35 x0_36 x0_37 x0_44 x0_49 x0_50 a1 F (c18_2 + u32_6) _ hc_r_56_5) yk_X11_columnAt wd_1402 ⟨rfl, rfl, by decide, by decide⟩ ⟨Nat.le_refl _, Nat.le_refl _⟩ hX hK hP hD hS hA [0, 1] [2, 3, 4] [3, 4, 0, 1, 2] (va_recv hK hP (ci := 11) (q0 := 0) rfl rfl) rfl rfl (by decide) rfl rfl rfl rfl rfl hl.1 rfl (Nat.le_of_ble_eq_true rfl) dX11_addChip_56 (fun H locs hP hD hS => ?_)
              refine lv_ixor hx hb dX11_addChip_59 ?_
              refine lv_istore (lv' := [(5, .int (u32_5 ^^^ r_56_5)), (0, .ref h0), (2, .int c18_2), (3, .int c18_3), (4, .int c32_4), (6, .int u32_6)]) hx hb dX11_addChip_60 hl (by decide) rfl (fun ls hl => ?_)
              exact kJ62 _ _ _ hf _ _ hP hD hS _ (lv_sub hl [1, 2, 3, 4, 0, 5] rfl)
      intro u18_4 a4_18 hf H locs hP hD hS ls hl
      have hf : p_X11_addChip_L18b F x0_5 a1 a2 a3 c18_2 c18_3 (p_X11_addChip_L18 F x0_5 a1 a2 a3 c18_2 c18_3 n18) u18_4 a4_18 = some e_a4 := hf
      refine lv_iload hx hb dX11_addChip_18 (lv_at hl 3 rfl) ?_
      refine lv_iconst (v := (1 : Int32)) hx hb dX11_addChip_20 (by decide) ?_
      refine lv_iload_n hx hb dX11_addChip_21 rfl (lv_at hl 2 rfl) ?_
      refine lv_ishl hx hb dX11_addChip_22 ?_
      refine lv_icmp_ge (tgt := 92) hx hb dX11_addChip_23 (by decide) (fun c7 => ?_) (fun c7 => ?_)
      · have hf := of_pos hf c7
        cases hf
        exact ret_v hx hb hr hlk hK hP hD hS dX11_addChip_92
      · have hf := of_neg hf c7
        refine lv_iconst (v := (0 : Int32)) hx hb dX11_addChip_26 (by decide) ?_
        refine lv_istore (lv' := [(5, .int (0 : Int32)), (0, .ref h0), (2, .int c18_2), (3, .int c18_3), (4, .int u18_4)]) hx hb dX11_addChip_27 hl (by decide) rfl (fun ls hl => ?_)
        refine lv_iconst (v := (0 : Int32)) hx hb dX11_addChip_29 (by decide) ?_
        refine lv_istore (lv' := [(6, .int (0 : Int32)), (5, .int (0 : Int32)), (0, .ref h0), (2, .int c18_2), (3, .int c18_3), (4, .int u18_4)]) hx hb dX11_addChip_30 hl (by decide) rfl (fun ls hl => ?_)
        exact kL32 _ _ _ _ _ hf _ _ hP hD hS _ (lv_sub hl [2, 3, 4, 5, 1, 0] rfl)
  refine lv_iconst (v := (4 : Int32)) hx hb dX11_addChip_0 (by decide) ?_
  refine lv_iload_n hx hb dX11_addChip_1 rfl (lv_at hl 1 rfl) ?_
  refine lv_imul hx hb dX11_addChip_2 ?_
  refine lv_istore_n (lv' := [(2, .int ((4 : Int32) * b1)), (0, .ref h0), (1, .int b1)]) hx hb dX11_addChip_3 rfl hl (by decide) rfl (fun ls hl => ?_)
  refine lv_iconst (v := (4 : Int32)) hx hb dX11_addChip_4 (by decide) ?_
  refine lv_aload_n hx hb dX11_addChip_5 rfl (lv_at hl 1 rfl) ?_
  obtain ⟨r_6_7, hc_r_6_7, hf⟩ := of_bnd hf
  refine cl_Vi (w2 := (wW_X11_addChip G h0 h1 h2 h3 h4 y0_3 y0_4 y0_6 y0_18 y0_21 y0_22 y0_23 y0_24 y0_25 y0_26 y0_34 y0_38 y0_39 y0_40 y0_41 y0_42 y0_43 y0_45 y0_46 y0_47 y0_48 x0_5 x0_7 x0_8 x0_9 x0_10 x0_11 x0_12 x0_13 x0_14 x0_15 x0_16 x0_17 x0_19 x0_20 x0_27 x0_28 x0_29 x0_30 x0_31 x0_32 x0_35 x0_36 x0_37 x0_44 x0_49 x0_50 a1 a2 a3 a4)) (As := []) (rest := [.int (4 : Int32)]) ⟨hx, hb, hml, hown, ht0⟩ (c_X11_places l G h0 h2 h3 h1 y0_3 y0_4 y0_6 y0_18 y0_21 y0_22 y0_23 y0_24 y0_25 y0_26 h4 y0_34 y0_38 y0_39 y0_40 y0_41 y0_42 y0_43 y0_45 y0_46 y0_47 y0_48 _ x0_5 x0_7 x0_8 x0_9 x0_10 x0_11 x0_12 x0_13 x0_14 x0_15 x0_16 x0_17 x0_19 x0_20 x0_27 x0_28 x0_29 x0_30 x0_31 x0_32 x0_35 x0_36 x0_37 x0_44 x0_49 x0_50 a2 a3 F _ hc_r_6_7) yk_X11_places wd_1572 ⟨rfl, rfl, by decide, by decide⟩ ⟨Nat.le_refl _, Nat.le_refl _⟩ hX hK hP hD hS hA [0, 2, 3] [1, 4] [2, 0, 3, 4, 1] (va_recv hK hP (ci := 11) (q0 := 0) rfl rfl) rfl rfl (by decide) rfl rfl rfl rfl rfl hl.1 rfl (Nat.le_of_ble_eq_true rfl) dX11_addChip_6 (fun H locs hP hD hS => ?_)
  refine lv_iload_n hx hb dX11_addChip_9 rfl (lv_at hl 0 rfl) ?_
  refine lv_isub hx hb dX11_addChip_10 ?_
  obtain ⟨r_11_8, hc_r_11_8, hf⟩ := of_bnd hf
  refine cl_Si (w2 := (wW_X11_addChip G h0 h1 h2 h3 h4 y0_3 y0_4 y0_6 y0_18 y0_21 y0_22 y0_23 y0_24 y0_25 y0_26 y0_34 y0_38 y0_39 y0_40 y0_41 y0_42 y0_43 y0_45 y0_46 y0_47 y0_48 x0_5 x0_7 x0_8 x0_9 x0_10 x0_11 x0_12 x0_13 x0_14 x0_15 x0_16 x0_17 x0_19 x0_20 x0_27 x0_28 x0_29 x0_30 x0_31 x0_32 x0_35 x0_36 x0_37 x0_44 x0_49 x0_50 a1 a2 a3 a4)) (As := [.int (4 : Int32), .int (r_6_7 - ((4 : Int32) * b1))]) (rest := []) ⟨hx, hb, hml, hown, ht0⟩ (c_X11_less l G _ F (4 : Int32) (r_6_7 - ((4 : Int32) * b1)) _ hc_r_11_8) yk_X11_less wd_1802 ⟨rfl, rfl, by decide, by decide⟩ ⟨Nat.le_refl _, Nat.le_refl _⟩ hX hK hP hD hS hA [] [0, 1, 2, 3, 4] [0, 1, 2, 3, 4] rfl rfl (by decide) rfl rfl rfl rfl rfl hl.1 rfl (Nat.le_of_ble_eq_true rfl) dX11_addChip_11 (fun H locs hP hD hS => ?_)
  refine lv_istore_n (lv' := [(3, .int r_11_8), (2, .int ((4 : Int32) * b1)), (0, .ref h0), (1, .int b1)]) hx hb dX11_addChip_14 rfl hl (by decide) rfl (fun ls hl => ?_)
  refine lv_iconst (v := (1 : Int32)) hx hb dX11_addChip_15 (by decide) ?_
  refine lv_istore (lv' := [(4, .int (1 : Int32)), (3, .int r_11_8), (2, .int ((4 : Int32) * b1)), (0, .ref h0), (1, .int b1)]) hx hb dX11_addChip_16 hl (by decide) rfl (fun ls hl => ?_)
  exact kL18 _ _ _ _ _ hf _ _ hP hD hS _ (lv_sub hl [3, 2, 1, 0] rfl)
theorem yk_X11_addChip : ykV yX11_addChip RX11 cX11_addChip 7 none 1 := ⟨wd_1879, wd_116, wd_142, wd_1880, rfl, by decide +kernel, by decide +kernel, by decide +kernel⟩
theorem dX11_layChips_0 : decode cX11_layChips 0 = .ok (.iconst 0, 1) := by decide +kernel
theorem dX11_layChips_1 : decode cX11_layChips 1 = .ok (.istore_n 3, 1) := by decide +kernel
theorem dX11_layChips_2 : decode cX11_layChips 2 = .ok (.iload_n 3, 1) := by decide +kernel
theorem dX11_layChips_3 : decode cX11_layChips 3 = .ok (.iconst 3, 1) := by decide +kernel
theorem dX11_layChips_4 : decode cX11_layChips 4 = .ok (.if_icmp .ge 16, 3) := by decide +kernel
theorem dX11_layChips_7 : decode cX11_layChips 7 = .ok (.aload_n 0, 1) := by decide +kernel
theorem dX11_layChips_8 : decode cX11_layChips 8 = .ok (.getfield 55, 3) := by decide +kernel
theorem dX11_layChips_11 : decode cX11_layChips 11 = .ok (.iload_n 3, 1) := by decide +kernel
theorem dX11_layChips_12 : decode cX11_layChips 12 = .ok (.iconst 0, 1) := by decide +kernel
theorem dX11_layChips_13 : decode cX11_layChips 13 = .ok (.iastore, 1) := by decide +kernel
theorem dX11_layChips_14 : decode cX11_layChips 14 = .ok (.iinc 3 1, 3) := by decide +kernel
theorem dX11_layChips_17 : decode cX11_layChips 17 = .ok (.goto (-15), 3) := by decide +kernel
theorem dX11_layChips_20 : decode cX11_layChips 20 = .ok (.iload_n 1, 1) := by decide +kernel
theorem dX11_layChips_21 : decode cX11_layChips 21 = .ok (.istore_n 3, 1) := by decide +kernel
theorem dX11_layChips_22 : decode cX11_layChips 22 = .ok (.iload_n 3, 1) := by decide +kernel
theorem dX11_layChips_23 : decode cX11_layChips 23 = .ok (.iload_n 2, 1) := by decide +kernel
theorem dX11_layChips_24 : decode cX11_layChips 24 = .ok (.if_icmp .ge 14, 3) := by decide +kernel
theorem dX11_layChips_27 : decode cX11_layChips 27 = .ok (.aload_n 0, 1) := by decide +kernel
theorem dX11_layChips_28 : decode cX11_layChips 28 = .ok (.iload_n 3, 1) := by decide +kernel
theorem dX11_layChips_29 : decode cX11_layChips 29 = .ok (.invokevirtual 433, 3) := by decide +kernel
theorem dX11_layChips_32 : decode cX11_layChips 32 = .ok (.iinc 3 1, 3) := by decide +kernel
theorem dX11_layChips_35 : decode cX11_layChips 35 = .ok (.goto (-13), 3) := by decide +kernel
theorem dX11_layChips_38 : decode cX11_layChips 38 = .ok (.return_, 1) := by decide +kernel
def wW_X11_layChips (G : GG) (h0 h1 h2 h3 h4 y0_3 y0_4 y0_6 y0_18 y0_21 y0_22 y0_23 y0_24 y0_25 y0_26 y0_34 y0_38 y0_39 y0_40 y0_41 y0_42 y0_43 y0_45 y0_46 y0_47 y0_48 : Nat) (x0_5 : Int32) (x0_7 : Int32) (x0_8 : Int32) (x0_9 : Int32) (x0_10 : Int32) (x0_11 : Int32) (x0_12 : Int32) (x0_13 : Int32) (x0_14 : Int32) (x0_15 : Int32) (x0_16 : Int32) (x0_17 : Int32) (x0_19 : Int32) (x0_20 : Int32) (x0_27 : Int32) (x0_28 : Int32) (x0_29 : Int32) (x0_30 : Int32) (x0_31 : Int32) (x0_32 : Int32) (x0_35 : Int32) (x0_36 : Int32) (x0_37 : Int32) (x0_44 : Int32) (x0_49 : Int32) (x0_50 : Int32) (a1 : Nat → Int32) (a2 : Nat → Int32) (a3 : Nat → Int32) (a4 : Nat → Int32) : va_W := [(h0, .inr (11, [.ref h1, .ref h2, .ref h3, .ref y0_3, .ref y0_4, .int x0_5, .ref y0_6, .int x0_7, .int x0_8, .int x0_9, .int x0_10, .int x0_11, .int x0_12, .int x0_13, .int x0_14, .int x0_15, .int x0_16, .int x0_17, .ref y0_18, .int x0_19, .int x0_20, .ref y0_21, .ref y0_22, .ref y0_23, .ref y0_24, .ref y0_25, .ref y0_26, .int x0_27, .int x0_28, .int x0_29, .int x0_30, .int x0_31, .int x0_32, .ref h4, .ref y0_34, .int x0_35, .int x0_36, .int x0_37, .ref y0_38, .ref y0_39, .ref y0_40, .ref y0_41, .ref y0_42, .ref y0_43, .int x0_44, .ref y0_45, .ref y0_46, .ref y0_47, .ref y0_48, .int x0_49, .int x0_50])), (h1, .inl (G.2.1, 121, .inl a1)), (h2, .inl (G.2.1, 2, .inl a2)), (h3, .inl (G.2.1, 2, .inl a3)), (h4, .inl (G.2.1, 3, .inl a4))]
set_option maxHeartbeats 4000000 in
set_option maxRecDepth 100000 in
theorem c_X11_layChips (l : Launch) (G : GG) (h0 h1 h2 h3 h4 y0_3 y0_4 y0_6 y0_18 y0_21 y0_22 y0_23 y0_24 y0_25 y0_26 y0_34 y0_38 y0_39 y0_40 y0_41 y0_42 y0_43 y0_45 y0_46 y0_47 y0_48 : Nat) (sz : Nat) (x0_5 : Int32) (x0_7 : Int32) (x0_8 : Int32) (x0_9 : Int32) (x0_10 : Int32) (x0_11 : Int32) (x0_12 : Int32) (x0_13 : Int32) (x0_14 : Int32) (x0_15 : Int32) (x0_16 : Int32) (x0_17 : Int32) (x0_19 : Int32) (x0_20 : Int32) (x0_27 : Int32) (x0_28 : Int32) (x0_29 : Int32) (x0_30 : Int32) (x0_31 : Int32) (x0_32 : Int32) (x0_35 : Int32) (x0_36 : Int32) (x0_37 : Int32) (x0_44 : Int32) (x0_49 : Int32) (x0_50 : Int32) (a1 : Nat → Int32) (a2 : Nat → Int32) (a3 : Nat → Int32) (a4 : Nat → Int32) (F : Nat) (b1 : Int32) (b2 : Int32)  (e_a4 : Nat → Int32) (hf : p_X11_layChips F x0_5 a1 a2 a3 a4 b1 b2 = some e_a4) : Met l yX11_layChips (.code yX11_layChips cX11_layChips 4 none :: gtbl) ({ frames := 5, cells := 0, slots := 0, locals := 113 } : Room) (PcS G [.ref h0, .int b1, .int b2] (wW_X11_layChips G h0 h1 h2 h3 h4 y0_3 y0_4 y0_6 y0_18 y0_21 y0_22 y0_23 y0_24 y0_25 y0_26 y0_34 y0_38 y0_39 y0_40 y0_41 y0_42 y0_43 y0_45 y0_46 y0_47 y0_48 x0_5 x0_7 x0_8 x0_9 x0_10 x0_11 x0_12 x0_13 x0_14 x0_15 x0_16 x0_17 x0_19 x0_20 x0_27 x0_28 x0_29 x0_30 x0_31 x0_32 x0_35 x0_36 x0_37 x0_44 x0_49 x0_50 a1 a2 a3 a4) sz) (QvS G (va_A (wW_X11_layChips G h0 h1 h2 h3 h4 y0_3 y0_4 y0_6 y0_18 y0_21 y0_22 y0_23 y0_24 y0_25 y0_26 y0_34 y0_38 y0_39 y0_40 y0_41 y0_42 y0_43 y0_45 y0_46 y0_47 y0_48 x0_5 x0_7 x0_8 x0_9 x0_10 x0_11 x0_12 x0_13 x0_14 x0_15 x0_16 x0_17 x0_19 x0_20 x0_27 x0_28 x0_29 x0_30 x0_31 x0_32 x0_35 x0_36 x0_37 x0_44 x0_49 x0_50 a1 a2 a3 a4) sz) (wW_X11_layChips G h0 h1 h2 h3 h4 y0_3 y0_4 y0_6 y0_18 y0_21 y0_22 y0_23 y0_24 y0_25 y0_26 y0_34 y0_38 y0_39 y0_40 y0_41 y0_42 y0_43 y0_45 y0_46 y0_47 y0_48 x0_5 x0_7 x0_8 x0_9 x0_10 x0_11 x0_12 x0_13 x0_14 x0_15 x0_16 x0_17 x0_19 x0_20 x0_27 x0_28 x0_29 x0_30 x0_31 x0_32 x0_35 x0_36 x0_37 x0_44 x0_49 x0_50 a1 a2 a3 e_a4)) 0 0 (va_A (wW_X11_layChips G h0 h1 h2 h3 h4 y0_3 y0_4 y0_6 y0_18 y0_21 y0_22 y0_23 y0_24 y0_25 y0_26 y0_34 y0_38 y0_39 y0_40 y0_41 y0_42 y0_43 y0_45 y0_46 y0_47 y0_48 x0_5 x0_7 x0_8 x0_9 x0_10 x0_11 x0_12 x0_13 x0_14 x0_15 x0_16 x0_17 x0_19 x0_20 x0_27 x0_28 x0_29 x0_30 x0_31 x0_32 x0_35 x0_36 x0_37 x0_44 x0_49 x0_50 a1 a2 a3 a4) sz) := by
  refine met_start (by decide) (Nat.le_of_ble_eq_true rfl) ?_
  intro p e s m below meth c hC hr hlk hnm hK hP hD hA hS hX ls hl
  obtain ⟨hx, hb, hml, hown, ht0⟩ := hC
  have hown : s.vm.findClass RX11 = some m.cls := hown
  generalize va_A (wW_X11_layChips G h0 h1 h2 h3 h4 y0_3 y0_4 y0_6 y0_18 y0_21 y0_22 y0_23 y0_24 y0_25 y0_26 y0_34 y0_38 y0_39 y0_40 y0_41 y0_42 y0_43 y0_45 y0_46 y0_47 y0_48 x0_5 x0_7 x0_8 x0_9 x0_10 x0_11 x0_12 x0_13 x0_14 x0_15 x0_16 x0_17 x0_19 x0_20 x0_27 x0_28 x0_29 x0_30 x0_31 x0_32 x0_35 x0_36 x0_37 x0_44 x0_49 x0_50 a1 a2 a3 a4) sz = A at hD hA hS hX ⊢
  have hl : lv_has ls 4 [(0, .ref h0), (1, .int b1), (2, .int b2)] := hl
  have hf : p_X11_layChips F x0_5 a1 a2 a3 a4 b1 b2 = some e_a4 := hf
  have kL22 : ∀ (c22_2 : Int32) (n22 : Nat) (u22_3 : Int32) (a4_22 : Nat → Int32), p_X11_layChips_L22 F x0_5 a1 a2 a3 c22_2 n22 u22_3 a4_22 = some e_a4 → ∀ (H : Heap) (locs : List Loc), va_P G.1 vwCl (wW_X11_layChips G h0 h1 h2 h3 h4 y0_3 y0_4 y0_6 y0_18 y0_21 y0_22 y0_23 y0_24 y0_25 y0_26 y0_34 y0_38 y0_39 y0_40 y0_41 y0_42 y0_43 y0_45 y0_46 y0_47 y0_48 x0_5 x0_7 x0_8 x0_9 x0_10 x0_11 x0_12 x0_13 x0_14 x0_15 x0_16 x0_17 x0_19 x0_20 x0_27 x0_28 x0_29 x0_30 x0_31 x0_32 x0_35 x0_36 x0_37 x0_44 x0_49 x0_50 a1 a2 a3 a4_22) H → va_D A (wW_X11_layChips G h0 h1 h2 h3 h4 y0_3 y0_4 y0_6 y0_18 y0_21 y0_22 y0_23 y0_24 y0_25 y0_26 y0_34 y0_38 y0_39 y0_40 y0_41 y0_42 y0_43 y0_45 y0_46 y0_47 y0_48 x0_5 x0_7 x0_8 x0_9 x0_10 x0_11 x0_12 x0_13 x0_14 x0_15 x0_16 x0_17 x0_19 x0_20 x0_27 x0_28 x0_29 x0_30 x0_31 x0_32 x0_35 x0_36 x0_37 x0_44 x0_49 x0_50 a1 a2 a3 a4_22) → va_S A s.heap H locs → ∀ ls : Array Slot, lv_has ls 4 [(0, .ref h0), (2, .int c22_2), (3, .int u22_3)] → W p l e ({ frames := 5, cells := 0, slots := 0, locals := 113 } : Room) s m (List.toArray [.ref h0, .int b1, .int b2]) below meth c H locs 0 0 (MQ below (QvS G A (wW_X11_layChips G h0 h1 h2 h3 h4 y0_3 y0_4 y0_6 y0_18 y0_21 y0_22 y0_23 y0_24 y0_25 y0_26 y0_34 y0_38 y0_39 y0_40 y0_41 y0_42 y0_43 y0_45 y0_46 y0_47 y0_48 x0_5 x0_7 x0_8 x0_9 x0_10 x0_11 x0_12 x0_13 x0_14 x0_15 x0_16 x0_17 x0_19 x0_20 x0_27 x0_28 x0_29 x0_30 x0_31 x0_32 x0_35 x0_36 x0_37 x0_44 x0_49 x0_50 a1 a2 a3 e_a4)) (List.toArray [.ref h0, .int b1, .int b2]) s 0 0 A) (F0 m 22 ls []) := by
    intro c22_2 n22
    induction n22 with
    | zero =>
      intro u22_3 a4_22 hf
      cases hf
    | succ n22 ih22 =>
      intro u22_3 a4_22 hf H locs hP hD hS ls hl
      have hf : p_X11_layChips_L22b F x0_5 a1 a2 a3 c22_2 (p_X11_layChips_L22 F x0_5 a1 a2 a3 c22_2 n22) u22_3 a4_22 = some e_a4 := hf
      refine lv_iload_n hx hb dX11_layChips_22 rfl (lv_at hl 2 rfl) ?_
      refine lv_iload_n hx hb dX11_layChips_23 rfl (lv_at hl 1 rfl) ?_
      refine lv_icmp_ge (tgt := 38) hx hb dX11_layChips_24 (by decide) (fun c1 => ?_) (fun c1 => ?_)
      · have hf := of_pos hf c1
        cases hf
        exact ret_v hx hb hr hlk hK hP hD hS dX11_layChips_38
      · have hf := of_neg hf c1
        refine lv_aload_n hx hb dX11_layChips_27 rfl (lv_at hl 0 rfl) ?_
        refine lv_iload_n hx hb dX11_layChips_28 rfl (lv_at hl 2 rfl) ?_
        obtain ⟨r_29_1_a4, hc_r_29_1, hf⟩ := of_bnd hf
        refine cl_Vv (w2 := (wW_X11_layChips G h0 h1 h2 h3 h4 y0_3 y0_4 y0_6 y0_18 y0_21 y0_22 y0_23 y0_24 y0_25 y0_26 y0_34 y0_38 y0_39 y0_40 y0_41 y0_42 y0_43 y0_45 y0_46 y0_47 y0_48 x0_5 x0_7 x0_8 x0_9 x0_10 x0_11 x0_12 x0_13 x0_14 x0_15 x0_16 x0_17 x0_19 x0_20 x0_27 x0_28 x0_29 x0_30 x0_31 x0_32 x0_35 x0_36 x0_37 x0_44 x0_49 x0_50 a1 a2 a3 r_29_1_a4)) (As := [.int u22_3]) (rest := []) ⟨hx, hb, hml, hown, ht0⟩ (c_X11_addChip l G h0 h1 h2 h3 h4 y0_3 y0_4 y0_6 y0_18 y0_21 y0_22 y0_23 y0_24 y0_25 y0_26 y0_34 y0_38 y0_39 y0_40 y0_41 y0_42 y0_43 y0_45 y0_46 y0_47 y0_48 _ x0_5 x0_7 x0_8 x0_9 x0_10 x0_11 x0_12 x0_13 x0_14 x0_15 x0_16 x0_17 x0_19 x0_20 x0_27 x0_28 x0_29 x0_30 x0_31 x0_32 x0_35 x0_36 x0_37 x0_44 x0_49 x0_50 a1 a2 a3 a4_22 F u22_3 _ hc_r_29_1) yk_X11_addChip wd_1877 ⟨rfl, rfl, by decide, by decide⟩ ⟨Nat.le_refl _, Nat.le_refl _⟩ hX hK hP hD hS hA [0, 1, 2, 3, 4] [] [0, 1, 2, 3, 4] (va_recv hK hP (ci := 11) (q0 := 0) rfl rfl) rfl rfl (by decide) rfl rfl rfl rfl rfl hl.1 rfl (Nat.le_of_ble_eq_true rfl) dX11_layChips_29 (fun H locs hP hD hS => ?_)
        refine lv_iinc (v := u22_3 + (1 : Int32)) (lv' := [(3, .int (u22_3 + (1 : Int32))), (0, .ref h0), (2, .int c22_2)]) hx hb dX11_layChips_32 hl (k := 2) rfl (by rfl) (by decide) rfl (fun ls hl => ?_)
        refine lv_goto (tgt := 22) hx hb dX11_layChips_35 (by decide) ?_
        exact ih22 _ _ hf _ _ hP hD hS _ (lv_sub hl [1, 2, 0] rfl)
  have kL2 : ∀ (c2_1 : Int32) (c2_2 : Int32) (n2 : Nat) (u2_3 : Int32) (a4_2 : Nat → Int32), p_X11_layChips_L2 F x0_5 a1 a2 a3 c2_1 c2_2 n2 u2_3 a4_2 = some e_a4 → ∀ (H : Heap) (locs : List Loc), va_P G.1 vwCl (wW_X11_layChips G h0 h1 h2 h3 h4 y0_3 y0_4 y0_6 y0_18 y0_21 y0_22 y0_23 y0_24 y0_25 y0_26 y0_34 y0_38 y0_39 y0_40 y0_41 y0_42 y0_43 y0_45 y0_46 y0_47 y0_48 x0_5 x0_7 x0_8 x0_9 x0_10 x0_11 x0_12 x0_13 x0_14 x0_15 x0_16 x0_17 x0_19 x0_20 x0_27 x0_28 x0_29 x0_30 x0_31 x0_32 x0_35 x0_36 x0_37 x0_44 x0_49 x0_50 a1 a2 a3 a4_2) H → va_D A (wW_X11_layChips G h0 h1 h2 h3 h4 y0_3 y0_4 y0_6 y0_18 y0_21 y0_22 y0_23 y0_24 y0_25 y0_26 y0_34 y0_38 y0_39 y0_40 y0_41 y0_42 y0_43 y0_45 y0_46 y0_47 y0_48 x0_5 x0_7 x0_8 x0_9 x0_10 x0_11 x0_12 x0_13 x0_14 x0_15 x0_16 x0_17 x0_19 x0_20 x0_27 x0_28 x0_29 x0_30 x0_31 x0_32 x0_35 x0_36 x0_37 x0_44 x0_49 x0_50 a1 a2 a3 a4_2) → va_S A s.heap H locs → ∀ ls : Array Slot, lv_has ls 4 [(0, .ref h0), (1, .int c2_1), (2, .int c2_2), (3, .int u2_3)] → W p l e ({ frames := 5, cells := 0, slots := 0, locals := 113 } : Room) s m (List.toArray [.ref h0, .int b1, .int b2]) below meth c H locs 0 0 (MQ below (QvS G A (wW_X11_layChips G h0 h1 h2 h3 h4 y0_3 y0_4 y0_6 y0_18 y0_21 y0_22 y0_23 y0_24 y0_25 y0_26 y0_34 y0_38 y0_39 y0_40 y0_41 y0_42 y0_43 y0_45 y0_46 y0_47 y0_48 x0_5 x0_7 x0_8 x0_9 x0_10 x0_11 x0_12 x0_13 x0_14 x0_15 x0_16 x0_17 x0_19 x0_20 x0_27 x0_28 x0_29 x0_30 x0_31 x0_32 x0_35 x0_36 x0_37 x0_44 x0_49 x0_50 a1 a2 a3 e_a4)) (List.toArray [.ref h0, .int b1, .int b2]) s 0 0 A) (F0 m 2 ls []) := by
    intro c2_1 c2_2 n2
    induction n2 with
    | zero =>
      intro u2_3 a4_2 hf
      cases hf
    | succ n2 ih2 =>
      intro u2_3 a4_2 hf H locs hP hD hS ls hl
      have hf : p_X11_layChips_L2b F x0_5 a1 a2 a3 c2_1 c2_2 (p_X11_layChips_L2 F x0_5 a1 a2 a3 c2_1 c2_2 n2) u2_3 a4_2 = some e_a4 := hf
      refine lv_iload_n hx hb dX11_layChips_2 rfl (lv_at hl 3 rfl) ?_
      refine lv_iconst (v := (3 : Int32)) hx hb dX11_layChips_3 (by decide) ?_
      refine lv_icmp_ge (tgt := 20) hx hb dX11_layChips_4 (by decide) (fun c3 => ?_) (fun c3 => ?_)
      · have hf := of_pos hf c3
        refine lv_iload_n hx hb dX11_layChips_20 rfl (lv_at hl 1 rfl) ?_
        refine lv_istore_n (lv' := [(3, .int c2_1), (0, .ref h0), (1, .int c2_1), (2, .int c2_2)]) hx hb dX11_layChips_21 rfl hl (by decide) rfl (fun ls hl => ?_)
        exact kL22 _ _ _ _ hf _ _ hP hD hS _ (lv_sub hl [1, 3, 0] rfl)
      · have hf := of_neg hf c3
        refine lv_aload_n hx hb dX11_layChips_7 rfl (lv_at hl 0 rfl) ?_
        refine va_get (ci := 11) (v := .ref h4) (C := RX11) (T := TX11) (N := 51) hx hb ht0 iX11 hown hK hP 0 rfl rfl 33 (by decide) (ht0 _ wd_1439) (fun _ h9 => h9) rfl dX11_layChips_8 ?_
        refine lv_iload_n hx hb dX11_layChips_11 rfl (lv_at hl 3 rfl) ?_
        refine lv_iconst (v := (0 : Int32)) hx hb dX11_layChips_12 (by decide) ?_
        obtain ⟨g4, hf⟩ := of_grd hf
        refine va_iast hx hb hK hP hD hS 4 0 rfl rfl g4 dX11_layChips_13 (fun H locs hP hD hS => ?_)
        have hP : va_P G.1 vwCl (wW_X11_layChips G h0 h1 h2 h3 h4 y0_3 y0_4 y0_6 y0_18 y0_21 y0_22 y0_23 y0_24 y0_25 y0_26 y0_34 y0_38 y0_39 y0_40 y0_41 y0_42 y0_43 y0_45 y0_46 y0_47 y0_48 x0_5 x0_7 x0_8 x0_9 x0_10 x0_11 x0_12 x0_13 x0_14 x0_15 x0_16 x0_17 x0_19 x0_20 x0_27 x0_28 x0_29 x0_30 x0_31 x0_32 x0_35 x0_36 x0_37 x0_44 x0_49 x0_50 a1 a2 a3 (upd a4_2 u2_3.toNatClampNeg (0 : Int32))) H := hP
        have hD : va_D A (wW_X11_layChips G h0 h1 h2 h3 h4 y0_3 y0_4 y0_6 y0_18 y0_21 y0_22 y0_23 y0_24 y0_25 y0_26 y0_34 y0_38 y0_39 y0_40 y0_41 y0_42 y0_43 y0_45 y0_46 y0_47 y0_48 x0_5 x0_7 x0_8 x0_9 x0_10 x0_11 x0_12 x0_13 x0_14 x0_15 x0_16 x0_17 x0_19 x0_20 x0_27 x0_28 x0_29 x0_30 x0_31 x0_32 x0_35 x0_36 x0_37 x0_44 x0_49 x0_50 a1 a2 a3 (upd a4_2 u2_3.toNatClampNeg (0 : Int32))) := hD
        refine lv_iinc (v := u2_3 + (1 : Int32)) (lv' := [(3, .int (u2_3 + (1 : Int32))), (0, .ref h0), (1, .int c2_1), (2, .int c2_2)]) hx hb dX11_layChips_14 hl (k := 3) rfl (by rfl) (by decide) rfl (fun ls hl => ?_)
        refine lv_goto (tgt := 2) hx hb dX11_layChips_17 (by decide) ?_
        exact ih2 _ _ hf _ _ hP hD hS _ (lv_sub hl [1, 2, 3, 0] rfl)
  refine lv_iconst (v := (0 : Int32)) hx hb dX11_layChips_0 (by decide) ?_
  refine lv_istore_n (lv' := [(3, .int (0 : Int32)), (0, .ref h0), (1, .int b1), (2, .int b2)]) hx hb dX11_layChips_1 rfl hl (by decide) rfl (fun ls hl => ?_)
  exact kL2 _ _ _ _ _ hf _ _ hP hD hS _ (lv_sub hl [1, 2, 3, 0] rfl)
theorem yk_X11_layChips : ykV yX11_layChips RX11 cX11_layChips 4 none 2 := ⟨wd_1875, wd_115, wd_142, wd_1876, rfl, by decide +kernel, by decide +kernel, by decide +kernel⟩
theorem dX11_chip_0 : decode cX11_chip 0 = .ok (.iload_n 2, 1) := by decide +kernel
theorem dX11_chip_1 : decode cX11_chip 1 = .ok (.iconst 0, 1) := by decide +kernel
theorem dX11_chip_2 : decode cX11_chip 2 = .ok (.iconst 2, 1) := by decide +kernel
theorem dX11_chip_3 : decode cX11_chip 3 = .ok (.invokestatic 163, 3) := by decide +kernel
theorem dX11_chip_6 : decode cX11_chip 6 = .ok (.ifCond .eq 17, 3) := by decide +kernel
theorem dX11_chip_9 : decode cX11_chip 9 = .ok (.iload_n 1, 1) := by decide +kernel
theorem dX11_chip_10 : decode cX11_chip 10 = .ok (.iconst (-1), 1) := by decide +kernel
theorem dX11_chip_11 : decode cX11_chip 11 = .ok (.aload_n 0, 1) := by decide +kernel
theorem dX11_chip_12 : decode cX11_chip 12 = .ok (.invokevirtual 436, 3) := by decide +kernel
theorem dX11_chip_15 : decode cX11_chip 15 = .ok (.iconst 1, 1) := by decide +kernel
theorem dX11_chip_16 : decode cX11_chip 16 = .ok (.isub, 1) := by decide +kernel
theorem dX11_chip_17 : decode cX11_chip 17 = .ok (.invokestatic 163, 3) := by decide +kernel
theorem dX11_chip_20 : decode cX11_chip 20 = .ok (.ifCond .ne 5, 3) := by decide +kernel
theorem dX11_chip_23 : decode cX11_chip 23 = .ok (.iconst (-1), 1) := by decide +kernel
theorem dX11_chip_24 : decode cX11_chip 24 = .ok (.ireturn, 1) := by decide +kernel
theorem dX11_chip_25 : decode cX11_chip 25 = .ok (.aload_n 0, 1) := by decide +kernel
theorem dX11_chip_26 : decode cX11_chip 26 = .ok (.iload_n 1, 1) := by decide +kernel
theorem dX11_chip_27 : decode cX11_chip 27 = .ok (.ifCond .ge 7, 3) := by decide +kernel
theorem dX11_chip_30 : decode cX11_chip 30 = .ok (.iconst 0, 1) := by decide +kernel
theorem dX11_chip_31 : decode cX11_chip 31 = .ok (.goto 4, 3) := by decide +kernel
theorem dX11_chip_34 : decode cX11_chip 34 = .ok (.iload_n 1, 1) := by decide +kernel
theorem dX11_chip_35 : decode cX11_chip 35 = .ok (.iload_n 1, 1) := by decide +kernel
theorem dX11_chip_36 : decode cX11_chip 36 = .ok (.ifCond .ge 10, 3) := by decide +kernel
theorem dX11_chip_39 : decode cX11_chip 39 = .ok (.aload_n 0, 1) := by decide +kernel
theorem dX11_chip_40 : decode cX11_chip 40 = .ok (.invokevirtual 436, 3) := by decide +kernel
theorem dX11_chip_43 : decode cX11_chip 43 = .ok (.goto 6, 3) := by decide +kernel
theorem dX11_chip_46 : decode cX11_chip 46 = .ok (.iload_n 1, 1) := by decide +kernel
theorem dX11_chip_47 : decode cX11_chip 47 = .ok (.iconst 1, 1) := by decide +kernel
theorem dX11_chip_48 : decode cX11_chip 48 = .ok (.iadd, 1) := by decide +kernel
theorem dX11_chip_49 : decode cX11_chip 49 = .ok (.invokevirtual 439, 3) := by decide +kernel
theorem dX11_chip_52 : decode cX11_chip 52 = .ok (.aload_n 0, 1) := by decide +kernel
theorem dX11_chip_53 : decode cX11_chip 53 = .ok (.getfield 55, 3) := by decide +kernel
theorem dX11_chip_56 : decode cX11_chip 56 = .ok (.iload_n 2, 1) := by decide +kernel
theorem dX11_chip_57 : decode cX11_chip 57 = .ok (.iaload, 1) := by decide +kernel
theorem dX11_chip_58 : decode cX11_chip 58 = .ok (.ireturn, 1) := by decide +kernel
def wW_X11_chip (G : GG) (h0 h1 h2 h3 h4 y0_3 y0_4 y0_6 y0_18 y0_21 y0_22 y0_23 y0_24 y0_25 y0_26 y0_34 y0_38 y0_39 y0_40 y0_41 y0_42 y0_43 y0_45 y0_46 y0_47 y0_48 : Nat) (x0_5 : Int32) (x0_7 : Int32) (x0_8 : Int32) (x0_9 : Int32) (x0_10 : Int32) (x0_11 : Int32) (x0_12 : Int32) (x0_13 : Int32) (x0_14 : Int32) (x0_15 : Int32) (x0_16 : Int32) (x0_17 : Int32) (x0_19 : Int32) (x0_20 : Int32) (x0_27 : Int32) (x0_28 : Int32) (x0_29 : Int32) (x0_30 : Int32) (x0_31 : Int32) (x0_32 : Int32) (x0_35 : Int32) (x0_36 : Int32) (x0_37 : Int32) (x0_44 : Int32) (x0_49 : Int32) (x0_50 : Int32) (a1 : Nat → Int32) (a2 : Nat → Int32) (a3 : Nat → Int32) (a4 : Nat → Int32) : va_W := [(h0, .inr (11, [.ref h1, .ref h2, .ref h3, .ref y0_3, .ref y0_4, .int x0_5, .ref y0_6, .int x0_7, .int x0_8, .int x0_9, .int x0_10, .int x0_11, .int x0_12, .int x0_13, .int x0_14, .int x0_15, .int x0_16, .int x0_17, .ref y0_18, .int x0_19, .int x0_20, .ref y0_21, .ref y0_22, .ref y0_23, .ref y0_24, .ref y0_25, .ref y0_26, .int x0_27, .int x0_28, .int x0_29, .int x0_30, .int x0_31, .int x0_32, .ref h4, .ref y0_34, .int x0_35, .int x0_36, .int x0_37, .ref y0_38, .ref y0_39, .ref y0_40, .ref y0_41, .ref y0_42, .ref y0_43, .int x0_44, .ref y0_45, .ref y0_46, .ref y0_47, .ref y0_48, .int x0_49, .int x0_50])), (h1, .inl (G.2.1, 121, .inl a1)), (h2, .inl (G.2.1, 2, .inl a2)), (h3, .inl (G.2.1, 2, .inl a3)), (h4, .inl (G.2.1, 3, .inl a4))]
set_option maxHeartbeats 4000000 in
set_option maxRecDepth 100000 in
theorem c_X11_chip (l : Launch) (G : GG) (h0 h1 h2 h3 h4 y0_3 y0_4 y0_6 y0_18 y0_21 y0_22 y0_23 y0_24 y0_25 y0_26 y0_34 y0_38 y0_39 y0_40 y0_41 y0_42 y0_43 y0_45 y0_46 y0_47 y0_48 : Nat) (sz : Nat) (x0_5 : Int32) (x0_7 : Int32) (x0_8 : Int32) (x0_9 : Int32) (x0_10 : Int32) (x0_11 : Int32) (x0_12 : Int32) (x0_13 : Int32) (x0_14 : Int32) (x0_15 : Int32) (x0_16 : Int32) (x0_17 : Int32) (x0_19 : Int32) (x0_20 : Int32) (x0_27 : Int32) (x0_28 : Int32) (x0_29 : Int32) (x0_30 : Int32) (x0_31 : Int32) (x0_32 : Int32) (x0_35 : Int32) (x0_36 : Int32) (x0_37 : Int32) (x0_44 : Int32) (x0_49 : Int32) (x0_50 : Int32) (a1 : Nat → Int32) (a2 : Nat → Int32) (a3 : Nat → Int32) (a4 : Nat → Int32) (F : Nat) (b1 : Int32) (b2 : Int32)  (r0 : Int32) (e_a4 : Nat → Int32) (hf : p_X11_chip F x0_5 a1 a2 a3 a4 b1 b2 = some (r0, e_a4)) : Met l yX11_chip (.code yX11_chip cX11_chip 3 (some .int) :: gtbl) ({ frames := 6, cells := 0, slots := 0, locals := 136 } : Room) (PcS G [.ref h0, .int b1, .int b2] (wW_X11_chip G h0 h1 h2 h3 h4 y0_3 y0_4 y0_6 y0_18 y0_21 y0_22 y0_23 y0_24 y0_25 y0_26 y0_34 y0_38 y0_39 y0_40 y0_41 y0_42 y0_43 y0_45 y0_46 y0_47 y0_48 x0_5 x0_7 x0_8 x0_9 x0_10 x0_11 x0_12 x0_13 x0_14 x0_15 x0_16 x0_17 x0_19 x0_20 x0_27 x0_28 x0_29 x0_30 x0_31 x0_32 x0_35 x0_36 x0_37 x0_44 x0_49 x0_50 a1 a2 a3 a4) sz) (QiS G r0 (va_A (wW_X11_chip G h0 h1 h2 h3 h4 y0_3 y0_4 y0_6 y0_18 y0_21 y0_22 y0_23 y0_24 y0_25 y0_26 y0_34 y0_38 y0_39 y0_40 y0_41 y0_42 y0_43 y0_45 y0_46 y0_47 y0_48 x0_5 x0_7 x0_8 x0_9 x0_10 x0_11 x0_12 x0_13 x0_14 x0_15 x0_16 x0_17 x0_19 x0_20 x0_27 x0_28 x0_29 x0_30 x0_31 x0_32 x0_35 x0_36 x0_37 x0_44 x0_49 x0_50 a1 a2 a3 a4) sz) (wW_X11_chip G h0 h1 h2 h3 h4 y0_3 y0_4 y0_6 y0_18 y0_21 y0_22 y0_23 y0_24 y0_25 y0_26 y0_34 y0_38 y0_39 y0_40 y0_41 y0_42 y0_43 y0_45 y0_46 y0_47 y0_48 x0_5 x0_7 x0_8 x0_9 x0_10 x0_11 x0_12 x0_13 x0_14 x0_15 x0_16 x0_17 x0_19 x0_20 x0_27 x0_28 x0_29 x0_30 x0_31 x0_32 x0_35 x0_36 x0_37 x0_44 x0_49 x0_50 a1 a2 a3 e_a4)) 0 0 (va_A (wW_X11_chip G h0 h1 h2 h3 h4 y0_3 y0_4 y0_6 y0_18 y0_21 y0_22 y0_23 y0_24 y0_25 y0_26 y0_34 y0_38 y0_39 y0_40 y0_41 y0_42 y0_43 y0_45 y0_46 y0_47 y0_48 x0_5 x0_7 x0_8 x0_9 x0_10 x0_11 x0_12 x0_13 x0_14 x0_15 x0_16 x0_17 x0_19 x0_20 x0_27 x0_28 x0_29 x0_30 x0_31 x0_32 x0_35 x0_36 x0_37 x0_44 x0_49 x0_50 a1 a2 a3 a4) sz) := by
  refine met_start (by decide) (Nat.le_of_ble_eq_true rfl) ?_
  intro p e s m below meth c hC hr hlk hnm hK hP hD hA hS hX ls hl
  obtain ⟨hx, hb, hml, hown, ht0⟩ := hC
  have hown : s.vm.findClass RX11 = some m.cls := hown
  generalize va_A (wW_X11_chip G h0 h1 h2 h3 h4 y0_3 y0_4 y0_6 y0_18 y0_21 y0_22 y0_23 y0_24 y0_25 y0_26 y0_34 y0_38 y0_39 y0_40 y0_41 y0_42 y0_43 y0_45 y0_46 y0_47 y0_48 x0_5 x0_7 x0_8 x0_9 x0_10 x0_11 x0_12 x0_13 x0_14 x0_15 x0_16 x0_17 x0_19 x0_20 x0_27 x0_28 x0_29 x0_30 x0_31 x0_32 x0_35 x0_36 x0_37 x0_44 x0_49 x0_50 a1 a2 a3 a4) sz = A at hD hA hS hX ⊢
  have hl : lv_has ls 3 [(0, .ref h0), (1, .int b1), (2, .int b2)] := hl
  have hf : p_X11_chip F x0_5 a1 a2 a3 a4 b1 b2 = some (r0, e_a4) := hf
  have kJ49 : ∀ (u49_2 : Int32) (s49_1 : Int32) (s49_2 : Int32) (a4_49 : Nat → Int32), p_X11_chip_J49 F x0_5 a1 a2 a3 u49_2 s49_1 s49_2 a4_49 = some (r0, e_a4) → ∀ (H : Heap) (locs : List Loc), va_P G.1 vwCl (wW_X11_chip G h0 h1 h2 h3 h4 y0_3 y0_4 y0_6 y0_18 y0_21 y0_22 y0_23 y0_24 y0_25 y0_26 y0_34 y0_38 y0_39 y0_40 y0_41 y0_42 y0_43 y0_45 y0_46 y0_47 y0_48 x0_5 x0_7 x0_8 x0_9 x0_10 x0_11 x0_12 x0_13 x0_14 x0_15 x0_16 x0_17 x0_19 x0_20 x0_27 x0_28 x0_29 x0_30 x0_31 x0_32 x0_35 x0_36 x0_37 x0_44 x0_49 x0_50 a1 a2 a3 a4_49) H → va_D A (wW_X11_chip G h0 h1 h2 h3 h4 y0_3 y0_4 y0_6 y0_18 y0_21 y0_22 y0_23 y0_24 y0_25 y0_26 y0_34 y0_38 y0_39 y0_40 y0_41 y0_42 y0_43 y0_45 y0_46 y0_47 y0_48 x0_5 x0_7 x0_8 x0_9 x0_10 x0_11 x0_12 x0_13 x0_14 x0_15 x0_16 x0_17 x0_19 x0_20 x0_27 x0_28 x0_29 x0_30 x0_31 x0_32 x0_35 x0_36 x0_37 x0_44 x0_49 x0_50 a1 a2 a3 a4_49) → va_S A s.heap H locs → ∀ ls : Array Slot, lv_has ls 3 [(0, .ref h0), (2, .int u49_2)] → W p l e ({ frames := 6, cells := 0, slots := 0, locals := 136 } : Room) s m (List.toArray [.ref h0, .int b1, .int b2]) below meth c H locs 0 0 (MQ below (QiS G r0 A (wW_X11_chip G h0 h1 h2 h3 h4 y0_3 y0_4 y0_6 y0_18 y0_21 y0_22 y0_23 y0_24 y0_25 y0_26 y0_34 y0_38 y0_39 y0_40 y0_41 y0_42 y0_43 y0_45 y0_46 y0_47 y0_48 x0_5 x0_7 x0_8 x0_9 x0_10 x0_11 x0_12 x0_13 x0_14 x0_15 x0_16 x0_17 x0_19 x0_20 x0_27 x0_28 x0_29 x0_30 x0_31 x0_32 x0_35 x0_36 x0_37 x0_44 x0_49 x0_50 a1 a2 a3 e_a4)) (List.toArray [.ref h0, .int b1, .int b2]) s 0 0 A) (F0 m 49 ls [.int s49_2, .int s49_1, .ref h0]) := by
    intro u49_2 s49_1 s49_2 a4_49 hf H locs hP hD hS ls hl
    obtain ⟨r_49_0_a4, hc_r_49_0, hf⟩ := of_bnd hf
    refine cl_Vv (w2 := (wW_X11_chip G h0 h1 h2 h3 h4 y0_3 y0_4 y0_6 y0_18 y0_21 y0_22 y0_23 y0_24 y0_25 y0_26 y0_34 y0_38 y0_39 y0_40 y0_41 y0_42 y0_43 y0_45 y0_46 y0_47 y0_48 x0_5 x0_7 x0_8 x0_9 x0_10 x0_11 x0_12 x0_13 x0_14 x0_15 x0_16 x0_17 x0_19 x0_20 x0_27 x0_28 x0_29 x0_30 x0_31 x0_32 x0_35 x0_36 x0_37 x0_44 x0_49 x0_50 a1 a2 a3 r_49_0_a4)) (As := [.int s49_1, .int s49_2]) (rest := []) ⟨hx, hb, hml, hown, ht0⟩ (c_X11_layChips l G h0 h1 h2 h3 h4 y0_3 y0_4 y0_6 y0_18 y0_21 y0_22 y0_23 y0_24 y0_25 y0_26 y0_34 y0_38 y0_39 y0_40 y0_41 y0_42 y0_43 y0_45 y0_46 y0_47 y0_48 _ x0_5 x0_7 x0_8 x0_9 x0_10 x0_11 x0_12 x0_13 x0_14 x0_15 x0_16 x0_17 x0_19 x0_20 x0_27 x0_28 x0_29 x0_30 x0_31 x0_32 x0_35 x0_36 x0_37 x0_44 x0_49 x0_50 a1 a2 a3 a4_49 F s49_1 s49_2 _ hc_r_49_0) yk_X11_layChips wd_1873 ⟨rfl, rfl, by decide, by decide⟩ ⟨Nat.le_refl _, Nat.le_refl _⟩ hX hK hP hD hS hA [0, 1, 2, 3, 4] [] [0, 1, 2, 3, 4] (va_recv hK hP (ci := 11) (q0 := 0) rfl rfl) rfl rfl (by decide) rfl rfl rfl rfl rfl hl.1 rfl (Nat.le_of_ble_eq_true rfl) dX11_chip_49 (fun H locs hP hD hS => ?_)
    refine lv_aload_n hx hb dX11_chip_52 rfl (lv_at hl 0 rfl) ?_
    refine va_get (ci := 11) (v := .ref h4) (C := RX11) (T := TX11) (N := 51) hx hb ht0 iX11 hown hK hP 0 rfl rfl 33 (by decide) (ht0 _ wd_1439) (fun _ h9 => h9) rfl dX11_chip_53 ?_
    refine lv_iload_n hx hb dX11_chip_56 rfl (lv_at hl 1 rfl) ?_
    obtain ⟨g2, hf⟩ := of_grd hf
    refine va_iald hx hb hK hP 4 0 rfl rfl g2 dX11_chip_57 ?_
    cases hf
    exact ret_i hx hb hr hlk hK hP hD hS dX11_chip_58
  have kJ35 : ∀ (u35_1 : Int32) (u35_2 : Int32) (s35_1 : Int32) (a4_35 : Nat → Int32), p_X11_chip_J35 F x0_5 a1 a2 a3 u35_1 u35_2 s35_1 a4_35 = some (r0, e_a4) → ∀ (H : Heap) (locs : List Loc), va_P G.1 vwCl (wW_X11_chip G h0 h1 h2 h3 h4 y0_3 y0_4 y0_6 y0_18 y0_21 y0_22 y0_23 y0_24 y0_25 y0_26 y0_34 y0_38 y0_39 y0_40 y0_41 y0_42 y0_43 y0_45 y0_46 y0_47 y0_48 x0_5 x0_7 x0_8 x0_9 x0_10 x0_11 x0_12 x0_13 x0_14 x0_15 x0_16 x0_17 x0_19 x0_20 x0_27 x0_28 x0_29 x0_30 x0_31 x0_32 x0_35 x0_36 x0_37 x0_44 x0_49 x0_50 a1 a2 a3 a4_35) H → va_D A (wW_X11_chip G h0 h1 h2 h3 h4 y0_3 y0_4 y0_6 y0_18 y0_21 y0_22 y0_23 y0_24 y0_25 y0_26 y0_34 y0_38 y0_39 y0_40 y0_41 y0_42 y0_43 y0_45 y0_46 y0_47 y0_48 x0_5 x0_7 x0_8 x0_9 x0_10 x0_11 x0_12 x0_13 x0_14 x0_15 x0_16 x0_17 x0_19 x0_20 x0_27 x0_28 x0_29 x0_30 x0_31 x0_32 x0_35 x0_36 x0_37 x0_44 x0_49 x0_50 a1 a2 a3 a4_35) → va_S A s.heap H locs → ∀ ls : Array Slot, lv_has ls 3 [(0, .ref h0), (1, .int u35_1), (2, .int u35_2)] → W p l e ({ frames := 6, cells := 0, slots := 0, locals := 136 } : Room) s m (List.toArray [.ref h0, .int b1, .int b2]) below meth c H locs 0 0 (MQ below (QiS G r0 A (wW_X11_chip G h0 h1 h2 h3 h4 y0_3 y0_4 y0_6 y0_18 y0_21 y0_22 y0_23 y0_24 y0_25 y0_26 y0_34 y0_38 y0_39 y0_40 y0_41 y0_42 y0_43 y0_45 y0_46 y0_47 y0_48 x0_5 x0_7 x0_8 x0_9 x0_10 x0_11 x0_12 x0_13 x0_14 x0_15 x0_16 x0_17 x0_19 x0_20 x0_27 x0_28 x0_29 x0_30 x0_31 x0_32 x0_35 x0_36 x0_37 x0_44 x0_49 x0_50 a1 a2 a3 e_a4)) (List.toArray [.ref h0, .int b1, .int b2]) s 0 0 A) (F0 m 35 ls [.int s35_1, .ref h0]) := by
    intro u35_1 u35_2 s35_1 a4_35 hf H locs hP hD hS ls hl
    refine lv_iload_n hx hb dX11_chip_35 rfl (lv_at hl 1 rfl) ?_
    refine lv_if_ge (tgt := 46) hx hb dX11_chip_36 (by decide) (fun c3 => ?_) (fun c3 => ?_)
    · have hf := of_pos hf c3
      refine lv_iload_n hx hb dX11_chip_46 rfl (lv_at hl 1 rfl) ?_
      refine lv_iconst (v := (1 : Int32)) hx hb dX11_chip_47 (by decide) ?_
      refine lv_iadd hx hb dX11_chip_48 ?_
      exact kJ49 _ _ _ _ hf _ _ hP hD hS _ (lv_sub hl [0, 2] rfl)
    · have hf := of_neg hf c3
      refine lv_aload_n hx hb dX11_chip_39 rfl (lv_at hl 0 rfl) ?_
      obtain ⟨r_40_3, hc_r_40_3, hf⟩ := of_bnd hf
      refine cl_Vi (w2 := (wW_X11_chip G h0 h1 h2 h3 h4 y0_3 y0_4 y0_6 y0_18 y0_21 y0_22 y0_23 y0_24 y0_25 y0_26 y0_34 y0_38 y0_39 y0_40 y0_41 y0_42 y0_43 y0_45 y0_46 y0_47 y0_48 x0_5 x0_7 x0_8 x0_9 x0_10 x0_11 x0_12 x0_13 x0_14 x0_15 x0_16 x0_17 x0_19 x0_20 x0_27 x0_28 x0_29 x0_30 x0_31 x0_32 x0_35 x0_36 x0_37 x0_44 x0_49 x0_50 a1 a2 a3 a4_35)) (As := []) (rest := [.int s35_1, .ref h0]) ⟨hx, hb, hml, hown, ht0⟩ (c_X11_chipMany l G h0 h2 h3 h1 y0_3 y0_4 y0_6 y0_18 y0_21 y0_22 y0_23 y0_24 y0_25 y0_26 h4 y0_34 y0_38 y0_39 y0_40 y0_41 y0_42 y0_43 y0_45 y0_46 y0_47 y0_48 _ x0_5 x0_7 x0_8 x0_9 x0_10 x0_11 x0_12 x0_13 x0_14 x0_15 x0_16 x0_17 x0_19 x0_20 x0_27 x0_28 x0_29 x0_30 x0_31 x0_32 x0_35 x0_36 x0_37 x0_44 x0_49 x0_50 a2 a3 F _ hc_r_40_3) yk_X11_chipMany wd_1869 ⟨rfl, rfl, by decide, by decide⟩ ⟨Nat.le_refl _, Nat.le_refl _⟩ hX hK hP hD hS hA [0, 2, 3] [1, 4] [2, 0, 3, 4, 1] (va_recv hK hP (ci := 11) (q0 := 0) rfl rfl) rfl rfl (by decide) rfl rfl rfl rfl rfl hl.1 rfl (Nat.le_of_ble_eq_true rfl) dX11_chip_40 (fun H locs hP hD hS => ?_)
      refine lv_goto (tgt := 49) hx hb dX11_chip_43 (by decide) ?_
      exact kJ49 _ _ _ _ hf _ _ hP hD hS _ (lv_sub hl [0, 2] rfl)
  refine lv_iload_n hx hb dX11_chip_0 rfl (lv_at hl 2 rfl) ?_
  refine lv_iconst (v := (0 : Int32)) hx hb dX11_chip_1 (by decide) ?_
  refine lv_iconst (v := (2 : Int32)) hx hb dX11_chip_2 (by decide) ?_
  obtain ⟨r_3_4, hc_r_3_4, hf⟩ := of_bnd hf
  refine cl_Si (w2 := (wW_X11_chip G h0 h1 h2 h3 h4 y0_3 y0_4 y0_6 y0_18 y0_21 y0_22 y0_23 y0_24 y0_25 y0_26 y0_34 y0_38 y0_39 y0_40 y0_41 y0_42 y0_43 y0_45 y0_46 y0_47 y0_48 x0_5 x0_7 x0_8 x0_9 x0_10 x0_11 x0_12 x0_13 x0_14 x0_15 x0_16 x0_17 x0_19 x0_20 x0_27 x0_28 x0_29 x0_30 x0_31 x0_32 x0_35 x0_36 x0_37 x0_44 x0_49 x0_50 a1 a2 a3 a4)) (As := [.int b2, .int (0 : Int32), .int (2 : Int32)]) (rest := []) ⟨hx, hb, hml, hown, ht0⟩ (c_X11_isIn l G _ F b2 (0 : Int32) (2 : Int32) _ hc_r_3_4) yk_X11_isIn wd_1321 ⟨rfl, rfl, by decide, by decide⟩ ⟨Nat.le_refl _, Nat.le_refl _⟩ hX hK hP hD hS hA [] [0, 1, 2, 3, 4] [0, 1, 2, 3, 4] rfl rfl (by decide) rfl rfl rfl rfl rfl hl.1 rfl (Nat.le_of_ble_eq_true rfl) dX11_chip_3 (fun H locs hP hD hS => ?_)
  refine lv_if_eq (tgt := 23) hx hb dX11_chip_6 (by decide) (fun c6 => ?_) (fun c6 => ?_)
  · have hf := of_pos hf c6
    refine lv_iconst (v := (-1 : Int32)) hx hb dX11_chip_23 (by decide) ?_
    cases hf
    exact ret_i hx hb hr hlk hK hP hD hS dX11_chip_24
  · have hf := of_neg hf c6
    refine lv_iload_n hx hb dX11_chip_9 rfl (lv_at hl 1 rfl) ?_
    refine lv_iconst (v := (-1 : Int32)) hx hb dX11_chip_10 (by decide) ?_
    refine lv_aload_n hx hb dX11_chip_11 rfl (lv_at hl 0 rfl) ?_
    obtain ⟨r_12_6, hc_r_12_6, hf⟩ := of_bnd hf
    refine cl_Vi (w2 := (wW_X11_chip G h0 h1 h2 h3 h4 y0_3 y0_4 y0_6 y0_18 y0_21 y0_22 y0_23 y0_24 y0_25 y0_26 y0_34 y0_38 y0_39 y0_40 y0_41 y0_42 y0_43 y0_45 y0_46 y0_47 y0_48 x0_5 x0_7 x0_8 x0_9 x0_10 x0_11 x0_12 x0_13 x0_14 x0_15 x0_16 x0_17 x0_19 x0_20 x0_27 x0_28 x0_29 x0_30 x0_31 x0_32 x0_35 x0_36 x0_37 x0_44 x0_49 x0_50 a1 a2 a3 a4)) (As := []) (rest := [.int (-1 : Int32), .int b1]) ⟨hx, hb, hml, hown, ht0⟩ (c_X11_chipMany l G h0 h2 h3 h1 y0_3 y0_4 y0_6 y0_18 y0_21 y0_22 y0_23 y0_24 y0_25 y0_26 h4 y0_34 y0_38 y0_39 y0_40 y0_41 y0_42 y0_43 y0_45 y0_46 y0_47 y0_48 _ x0_5 x0_7 x0_8 x0_9 x0_10 x0_11 x0_12 x0_13 x0_14 x0_15 x0_16 x0_17 x0_19 x0_20 x0_27 x0_28 x0_29 x0_30 x0_31 x0_32 x0_35 x0_36 x0_37 x0_44 x0_49 x0_50 a2 a3 F _ hc_r_12_6) yk_X11_chipMany wd_1869 ⟨rfl, rfl, by decide, by decide⟩ ⟨Nat.le_refl _, Nat.le_refl _⟩ hX hK hP hD hS hA [0, 2, 3] [1, 4] [2, 0, 3, 4, 1] (va_recv hK hP (ci := 11) (q0 := 0) rfl rfl) rfl rfl (by decide) rfl rfl rfl rfl rfl hl.1 rfl (Nat.le_of_ble_eq_true rfl) dX11_chip_12 (fun H locs hP hD hS => ?_)
    refine lv_iconst (v := (1 : Int32)) hx hb dX11_chip_15 (by decide) ?_
    refine lv_isub hx hb dX11_chip_16 ?_
    obtain ⟨r_17_7, hc_r_17_7, hf⟩ := of_bnd hf
    refine cl_Si (w2 := (wW_X11_chip G h0 h1 h2 h3 h4 y0_3 y0_4 y0_6 y0_18 y0_21 y0_22 y0_23 y0_24 y0_25 y0_26 y0_34 y0_38 y0_39 y0_40 y0_41 y0_42 y0_43 y0_45 y0_46 y0_47 y0_48 x0_5 x0_7 x0_8 x0_9 x0_10 x0_11 x0_12 x0_13 x0_14 x0_15 x0_16 x0_17 x0_19 x0_20 x0_27 x0_28 x0_29 x0_30 x0_31 x0_32 x0_35 x0_36 x0_37 x0_44 x0_49 x0_50 a1 a2 a3 a4)) (As := [.int b1, .int (-1 : Int32), .int (r_12_6 - (1 : Int32))]) (rest := []) ⟨hx, hb, hml, hown, ht0⟩ (c_X11_isIn l G _ F b1 (-1 : Int32) (r_12_6 - (1 : Int32)) _ hc_r_17_7) yk_X11_isIn wd_1321 ⟨rfl, rfl, by decide, by decide⟩ ⟨Nat.le_refl _, Nat.le_refl _⟩ hX hK hP hD hS hA [] [0, 1, 2, 3, 4] [0, 1, 2, 3, 4] rfl rfl (by decide) rfl rfl rfl rfl rfl hl.1 rfl (Nat.le_of_ble_eq_true rfl) dX11_chip_17 (fun H locs hP hD hS => ?_)
    refine lv_if_ne (tgt := 25) hx hb dX11_chip_20 (by decide) (fun c9 => ?_) (fun c9 => ?_)
    · have hf := of_neg hf c9
      refine lv_aload_n hx hb dX11_chip_25 rfl (lv_at hl 0 rfl) ?_
      refine lv_iload_n hx hb dX11_chip_26 rfl (lv_at hl 1 rfl) ?_
      refine lv_if_ge (tgt := 34) hx hb dX11_chip_27 (by decide) (fun c10 => ?_) (fun c10 => ?_)
      · have hf := of_pos hf c10
        refine lv_iload_n hx hb dX11_chip_34 rfl (lv_at hl 1 rfl) ?_
        exact kJ35 _ _ _ _ hf _ _ hP hD hS _ (lv_sub hl [0, 1, 2] rfl)
      · have hf := of_neg hf c10
        refine lv_iconst (v := (0 : Int32)) hx hb dX11_chip_30 (by decide) ?_
        refine lv_goto (tgt := 35) hx hb dX11_chip_31 (by decide) ?_
        exact kJ35 _ _ _ _ hf _ _ hP hD hS _ (lv_sub hl [0, 1, 2] rfl)
    · have hf := of_pos hf c9
      refine lv_iconst (v := (-1 : Int32)) hx hb dX11_chip_23 (by decide) ?_
      cases hf
      exact ret_i hx hb hr hlk hK hP hD hS dX11_chip_24
theorem yk_X11_chip : ykV yX11_chip RX11 cX11_chip 3 (some .int) 2 := ⟨wd_1866, wd_1867, wd_142, wd_1868, rfl, by decide +kernel, by decide +kernel, by decide +kernel⟩
theorem dX11_exchange_0 : decode cX11_exchange 0 = .ok (.iload_n 1, 1) := by decide +kernel
theorem dX11_exchange_1 : decode cX11_exchange 1 = .ok (.iconst 0, 1) := by decide +kernel
theorem dX11_exchange_2 : decode cX11_exchange 2 = .ok (.iconst 2, 1) := by decide +kernel
theorem dX11_exchange_3 : decode cX11_exchange 3 = .ok (.invokestatic 163, 3) := by decide +kernel
theorem dX11_exchange_6 : decode cX11_exchange 6 = .ok (.ifCond .ne 5, 3) := by decide +kernel
theorem dX11_exchange_9 : decode cX11_exchange 9 = .ok (.iconst (-1), 1) := by decide +kernel
theorem dX11_exchange_10 : decode cX11_exchange 10 = .ok (.ireturn, 1) := by decide +kernel
theorem dX11_exchange_11 : decode cX11_exchange 11 = .ok (.aload_n 0, 1) := by decide +kernel
theorem dX11_exchange_12 : decode cX11_exchange 12 = .ok (.iconst 0, 1) := by decide +kernel
theorem dX11_exchange_13 : decode cX11_exchange 13 = .ok (.aload_n 0, 1) := by decide +kernel
theorem dX11_exchange_14 : decode cX11_exchange 14 = .ok (.invokevirtual 436, 3) := by decide +kernel
theorem dX11_exchange_17 : decode cX11_exchange 17 = .ok (.invokevirtual 439, 3) := by decide +kernel
theorem dX11_exchange_20 : decode cX11_exchange 20 = .ok (.aload_n 0, 1) := by decide +kernel
theorem dX11_exchange_21 : decode cX11_exchange 21 = .ok (.getfield 55, 3) := by decide +kernel
theorem dX11_exchange_24 : decode cX11_exchange 24 = .ok (.iconst 2, 1) := by decide +kernel
theorem dX11_exchange_25 : decode cX11_exchange 25 = .ok (.iaload, 1) := by decide +kernel
theorem dX11_exchange_26 : decode cX11_exchange 26 = .ok (.istore_n 2, 1) := by decide +kernel
theorem dX11_exchange_27 : decode cX11_exchange 27 = .ok (.iconst (-1), 1) := by decide +kernel
theorem dX11_exchange_28 : decode cX11_exchange 28 = .ok (.istore_n 3, 1) := by decide +kernel
theorem dX11_exchange_29 : decode cX11_exchange 29 = .ok (.iconst 0, 1) := by decide +kernel
theorem dX11_exchange_30 : decode cX11_exchange 30 = .ok (.istore 4, 2) := by decide +kernel
theorem dX11_exchange_32 : decode cX11_exchange 32 = .ok (.iload 4, 2) := by decide +kernel
theorem dX11_exchange_34 : decode cX11_exchange 34 = .ok (.aload_n 0, 1) := by decide +kernel
theorem dX11_exchange_35 : decode cX11_exchange 35 = .ok (.invokevirtual 221, 3) := by decide +kernel
theorem dX11_exchange_38 : decode cX11_exchange 38 = .ok (.if_icmp .ge 84, 3) := by decide +kernel
theorem dX11_exchange_41 : decode cX11_exchange 41 = .ok (.iload 4, 2) := by decide +kernel
theorem dX11_exchange_43 : decode cX11_exchange 43 = .ok (.iconst 1, 1) := by decide +kernel
theorem dX11_exchange_44 : decode cX11_exchange 44 = .ok (.iadd, 1) := by decide +kernel
theorem dX11_exchange_45 : decode cX11_exchange 45 = .ok (.istore 5, 2) := by decide +kernel
theorem dX11_exchange_47 : decode cX11_exchange 47 = .ok (.iload 5, 2) := by decide +kernel
theorem dX11_exchange_49 : decode cX11_exchange 49 = .ok (.aload_n 0, 1) := by decide +kernel
theorem dX11_exchange_50 : decode cX11_exchange 50 = .ok (.invokevirtual 221, 3) := by decide +kernel
theorem dX11_exchange_53 : decode cX11_exchange 53 = .ok (.if_icmp .ge 63, 3) := by decide +kernel
theorem dX11_exchange_56 : decode cX11_exchange 56 = .ok (.aload_n 0, 1) := by decide +kernel
theorem dX11_exchange_57 : decode cX11_exchange 57 = .ok (.iload 4, 2) := by decide +kernel
theorem dX11_exchange_59 : decode cX11_exchange 59 = .ok (.iload 5, 2) := by decide +kernel
theorem dX11_exchange_61 : decode cX11_exchange 61 = .ok (.invokevirtual 381, 3) := by decide +kernel
theorem dX11_exchange_64 : decode cX11_exchange 64 = .ok (.aload_n 0, 1) := by decide +kernel
theorem dX11_exchange_65 : decode cX11_exchange 65 = .ok (.iconst 0, 1) := by decide +kernel
theorem dX11_exchange_66 : decode cX11_exchange 66 = .ok (.aload_n 0, 1) := by decide +kernel
theorem dX11_exchange_67 : decode cX11_exchange 67 = .ok (.invokevirtual 436, 3) := by decide +kernel
theorem dX11_exchange_70 : decode cX11_exchange 70 = .ok (.invokevirtual 439, 3) := by decide +kernel
theorem dX11_exchange_73 : decode cX11_exchange 73 = .ok (.aload_n 0, 1) := by decide +kernel
theorem dX11_exchange_74 : decode cX11_exchange 74 = .ok (.iload 4, 2) := by decide +kernel
theorem dX11_exchange_76 : decode cX11_exchange 76 = .ok (.iload 5, 2) := by decide +kernel
theorem dX11_exchange_78 : decode cX11_exchange 78 = .ok (.invokevirtual 381, 3) := by decide +kernel
theorem dX11_exchange_81 : decode cX11_exchange 81 = .ok (.aload_n 0, 1) := by decide +kernel
theorem dX11_exchange_82 : decode cX11_exchange 82 = .ok (.getfield 55, 3) := by decide +kernel
theorem dX11_exchange_85 : decode cX11_exchange 85 = .ok (.iconst 2, 1) := by decide +kernel
theorem dX11_exchange_86 : decode cX11_exchange 86 = .ok (.iaload, 1) := by decide +kernel
theorem dX11_exchange_87 : decode cX11_exchange 87 = .ok (.iload_n 2, 1) := by decide +kernel
theorem dX11_exchange_88 : decode cX11_exchange 88 = .ok (.if_icmp .lt 6, 3) := by decide +kernel
theorem dX11_exchange_91 : decode cX11_exchange 91 = .ok (.goto 19, 3) := by decide +kernel
theorem dX11_exchange_94 : decode cX11_exchange 94 = .ok (.aload_n 0, 1) := by decide +kernel
theorem dX11_exchange_95 : decode cX11_exchange 95 = .ok (.getfield 55, 3) := by decide +kernel
theorem dX11_exchange_98 : decode cX11_exchange 98 = .ok (.iconst 2, 1) := by decide +kernel
theorem dX11_exchange_99 : decode cX11_exchange 99 = .ok (.iaload, 1) := by decide +kernel
theorem dX11_exchange_100 : decode cX11_exchange 100 = .ok (.istore_n 2, 1) := by decide +kernel
theorem dX11_exchange_101 : decode cX11_exchange 101 = .ok (.bipush 32, 2) := by decide +kernel
theorem dX11_exchange_103 : decode cX11_exchange 103 = .ok (.iload 4, 2) := by decide +kernel
theorem dX11_exchange_105 : decode cX11_exchange 105 = .ok (.imul, 1) := by decide +kernel
theorem dX11_exchange_106 : decode cX11_exchange 106 = .ok (.iload 5, 2) := by decide +kernel
theorem dX11_exchange_108 : decode cX11_exchange 108 = .ok (.iadd, 1) := by decide +kernel
theorem dX11_exchange_109 : decode cX11_exchange 109 = .ok (.istore_n 3, 1) := by decide +kernel
theorem dX11_exchange_110 : decode cX11_exchange 110 = .ok (.iinc 5 1, 3) := by decide +kernel
theorem dX11_exchange_113 : decode cX11_exchange 113 = .ok (.goto (-66), 3) := by decide +kernel
theorem dX11_exchange_116 : decode cX11_exchange 116 = .ok (.iinc 4 1, 3) := by decide +kernel
theorem dX11_exchange_119 : decode cX11_exchange 119 = .ok (.goto (-87), 3) := by decide +kernel
theorem dX11_exchange_122 : decode cX11_exchange 122 = .ok (.iload_n 3, 1) := by decide +kernel
theorem dX11_exchange_123 : decode cX11_exchange 123 = .ok (.ifCond .ge 5, 3) := by decide +kernel
theorem dX11_exchange_126 : decode cX11_exchange 126 = .ok (.iconst (-1), 1) := by decide +kernel
theorem dX11_exchange_127 : decode cX11_exchange 127 = .ok (.ireturn, 1) := by decide +kernel
theorem dX11_exchange_128 : decode cX11_exchange 128 = .ok (.iload_n 1, 1) := by decide +kernel
theorem dX11_exchange_129 : decode cX11_exchange 129 = .ok (.ifCond .ne 10, 3) := by decide +kernel
theorem dX11_exchange_132 : decode cX11_exchange 132 = .ok (.iload_n 3, 1) := by decide +kernel
theorem dX11_exchange_133 : decode cX11_exchange 133 = .ok (.bipush 32, 2) := by decide +kernel
theorem dX11_exchange_135 : decode cX11_exchange 135 = .ok (.idiv, 1) := by decide +kernel
theorem dX11_exchange_136 : decode cX11_exchange 136 = .ok (.goto 16, 3) := by decide +kernel
theorem dX11_exchange_139 : decode cX11_exchange 139 = .ok (.iload_n 1, 1) := by decide +kernel
theorem dX11_exchange_140 : decode cX11_exchange 140 = .ok (.iconst 1, 1) := by decide +kernel
theorem dX11_exchange_141 : decode cX11_exchange 141 = .ok (.if_icmp .ne 10, 3) := by decide +kernel
theorem dX11_exchange_144 : decode cX11_exchange 144 = .ok (.iload_n 3, 1) := by decide +kernel
theorem dX11_exchange_145 : decode cX11_exchange 145 = .ok (.bipush 32, 2) := by decide +kernel
theorem dX11_exchange_147 : decode cX11_exchange 147 = .ok (.irem, 1) := by decide +kernel
theorem dX11_exchange_148 : decode cX11_exchange 148 = .ok (.goto 4, 3) := by decide +kernel
theorem dX11_exchange_151 : decode cX11_exchange 151 = .ok (.iload_n 2, 1) := by decide +kernel
theorem dX11_exchange_152 : decode cX11_exchange 152 = .ok (.ireturn, 1) := by decide +kernel
def wW_X11_exchange (G : GG) (h0 h1 h2 h3 h4 y0_3 y0_4 y0_6 y0_18 y0_21 y0_22 y0_23 y0_24 y0_25 y0_26 y0_34 y0_38 y0_39 y0_40 y0_41 y0_42 y0_43 y0_45 y0_46 y0_47 y0_48 : Nat) (x0_5 : Int32) (x0_7 : Int32) (x0_8 : Int32) (x0_9 : Int32) (x0_10 : Int32) (x0_11 : Int32) (x0_12 : Int32) (x0_13 : Int32) (x0_14 : Int32) (x0_15 : Int32) (x0_16 : Int32) (x0_17 : Int32) (x0_19 : Int32) (x0_20 : Int32) (x0_27 : Int32) (x0_28 : Int32) (x0_29 : Int32) (x0_30 : Int32) (x0_31 : Int32) (x0_32 : Int32) (x0_35 : Int32) (x0_36 : Int32) (x0_37 : Int32) (x0_44 : Int32) (x0_49 : Int32) (x0_50 : Int32) (a1 : Nat → Int32) (a2 : Nat → Int32) (a3 : Nat → Int32) (a4 : Nat → Int32) : va_W := [(h0, .inr (11, [.ref h1, .ref h2, .ref h3, .ref y0_3, .ref y0_4, .int x0_5, .ref y0_6, .int x0_7, .int x0_8, .int x0_9, .int x0_10, .int x0_11, .int x0_12, .int x0_13, .int x0_14, .int x0_15, .int x0_16, .int x0_17, .ref y0_18, .int x0_19, .int x0_20, .ref y0_21, .ref y0_22, .ref y0_23, .ref y0_24, .ref y0_25, .ref y0_26, .int x0_27, .int x0_28, .int x0_29, .int x0_30, .int x0_31, .int x0_32, .ref h4, .ref y0_34, .int x0_35, .int x0_36, .int x0_37, .ref y0_38, .ref y0_39, .ref y0_40, .ref y0_41, .ref y0_42, .ref y0_43, .int x0_44, .ref y0_45, .ref y0_46, .ref y0_47, .ref y0_48, .int x0_49, .int x0_50])), (h1, .inl (G.2.1, 121, .inl a1)), (h2, .inl (G.2.1, 2, .inl a2)), (h3, .inl (G.2.1, 2, .inl a3)), (h4, .inl (G.2.1, 3, .inl a4))]
set_option maxHeartbeats 4000000 in
set_option maxRecDepth 100000 in
theorem c_X11_exchange (l : Launch) (G : GG) (h0 h1 h2 h3 h4 y0_3 y0_4 y0_6 y0_18 y0_21 y0_22 y0_23 y0_24 y0_25 y0_26 y0_34 y0_38 y0_39 y0_40 y0_41 y0_42 y0_43 y0_45 y0_46 y0_47 y0_48 : Nat) (sz : Nat) (x0_5 : Int32) (x0_7 : Int32) (x0_8 : Int32) (x0_9 : Int32) (x0_10 : Int32) (x0_11 : Int32) (x0_12 : Int32) (x0_13 : Int32) (x0_14 : Int32) (x0_15 : Int32) (x0_16 : Int32) (x0_17 : Int32) (x0_19 : Int32) (x0_20 : Int32) (x0_27 : Int32) (x0_28 : Int32) (x0_29 : Int32) (x0_30 : Int32) (x0_31 : Int32) (x0_32 : Int32) (x0_35 : Int32) (x0_36 : Int32) (x0_37 : Int32) (x0_44 : Int32) (x0_49 : Int32) (x0_50 : Int32) (a1 : Nat → Int32) (a2 : Nat → Int32) (a3 : Nat → Int32) (a4 : Nat → Int32) (F : Nat) (b1 : Int32)  (r0 : Int32) (e_a1 : Nat → Int32) (e_a4 : Nat → Int32) (hf : p_X11_exchange F x0_5 a1 a2 a3 a4 b1 = some (r0, e_a1, e_a4)) : Met l yX11_exchange (.code yX11_exchange cX11_exchange 6 (some .int) :: gtbl) ({ frames := 6, cells := 0, slots := 0, locals := 136 } : Room) (PcS G [.ref h0, .int b1] (wW_X11_exchange G h0 h1 h2 h3 h4 y0_3 y0_4 y0_6 y0_18 y0_21 y0_22 y0_23 y0_24 y0_25 y0_26 y0_34 y0_38 y0_39 y0_40 y0_41 y0_42 y0_43 y0_45 y0_46 y0_47 y0_48 x0_5 x0_7 x0_8 x0_9 x0_10 x0_11 x0_12 x0_13 x0_14 x0_15 x0_16 x0_17 x0_19 x0_20 x0_27 x0_28 x0_29 x0_30 x0_31 x0_32 x0_35 x0_36 x0_37 x0_44 x0_49 x0_50 a1 a2 a3 a4) sz) (QiS G r0 (va_A (wW_X11_exchange G h0 h1 h2 h3 h4 y0_3 y0_4 y0_6 y0_18 y0_21 y0_22 y0_23 y0_24 y0_25 y0_26 y0_34 y0_38 y0_39 y0_40 y0_41 y0_42 y0_43 y0_45 y0_46 y0_47 y0_48 x0_5 x0_7 x0_8 x0_9 x0_10 x0_11 x0_12 x0_13 x0_14 x0_15 x0_16 x0_17 x0_19 x0_20 x0_27 x0_28 x0_29 x0_30 x0_31 x0_32 x0_35 x0_36 x0_37 x0_44 x0_49 x0_50 a1 a2 a3 a4) sz) (wW_X11_exchange G h0 h1 h2 h3 h4 y0_3 y0_4 y0_6 y0_18 y0_21 y0_22 y0_23 y0_24 y0_25 y0_26 y0_34 y0_38 y0_39 y0_40 y0_41 y0_42 y0_43 y0_45 y0_46 y0_47 y0_48 x0_5 x0_7 x0_8 x0_9 x0_10 x0_11 x0_12 x0_13 x0_14 x0_15 x0_16 x0_17 x0_19 x0_20 x0_27 x0_28 x0_29 x0_30 x0_31 x0_32 x0_35 x0_36 x0_37 x0_44 x0_49 x0_50 e_a1 a2 a3 e_a4)) 0 0 (va_A (wW_X11_exchange G h0 h1 h2 h3 h4 y0_3 y0_4 y0_6 y0_18 y0_21 y0_22 y0_23 y0_24 y0_25 y0_26 y0_34 y0_38 y0_39 y0_40 y0_41 y0_42 y0_43 y0_45 y0_46 y0_47 y0_48 x0_5 x0_7 x0_8 x0_9 x0_10 x0_11 x0_12 x0_13 x0_14 x0_15 x0_16 x0_17 x0_19 x0_20 x0_27 x0_28 x0_29 x0_30 x0_31 x0_32 x0_35 x0_36 x0_37 x0_44 x0_49 x0_50 a1 a2 a3 a4) sz) := by
  refine met_start (by decide) (Nat.le_of_ble_eq_true rfl) ?_
  intro p e s m below meth c hC hr hlk hnm hK hP hD hA hS hX ls hl
  obtain ⟨hx, hb, hml, hown, ht0⟩ := hC
  have hown : s.vm.findClass RX11 = some m.cls := hown
  generalize va_A (wW_X11_exchange G h0 h1 h2 h3 h4 y0_3 y0_4 y0_6 y0_18 y0_21 y0_22 y0_23 y0_24 y0_25 y0_26 y0_34 y0_38 y0_39 y0_40 y0_41 y0_42 y0_43 y0_45 y0_46 y0_47 y0_48 x0_5 x0_7 x0_8 x0_9 x0_10 x0_11 x0_12 x0_13 x0_14 x0_15 x0_16 x0_17 x0_19 x0_20 x0_27 x0_28 x0_29 x0_30 x0_31 x0_32 x0_35 x0_36 x0_37 x0_44 x0_49 x0_50 a1 a2 a3 a4) sz = A at hD hA hS hX ⊢
  have hl : lv_has ls 6 [(0, .ref h0), (1, .int b1)] := hl
  have hf : p_X11_exchange F x0_5 a1 a2 a3 a4 b1 = some (r0, e_a1, e_a4) := hf
  have kL32 : ∀ (c32_1 : Int32) (n32 : Nat) (u32_2 : Int32) (u32_3 : Int32) (u32_4 : Int32) (a1_32 : Nat → Int32) (a4_32 : Nat → Int32), p_X11_exchange_L32 F x0_5 a2 a3 c32_1 n32 u32_2 u32_3 u32_4 a1_32 a4_32 = some (r0, e_a1, e_a4) → ∀ (H : Heap) (locs : List Loc), va_P G.1 vwCl (wW_X11_exchange G h0 h1 h2 h3 h4 y0_3 y0_4 y0_6 y0_18 y0_21 y0_22 y0_23 y0_24 y0_25 y0_26 y0_34 y0_38 y0_39 y0_40 y0_41 y0_42 y0_43 y0_45 y0_46 y0_47 y0_48 x0_5 x0_7 x0_8 x0_9 x0_10 x0_11 x0_12 x0_13 x0_14 x0_15 x0_16 x0_17 x0_19 x0_20 x0_27 x0_28 x0_29 x0_30 x0_31 x0_32 x0_35 x0_36 x0_37 x0_44 x0_49 x0_50 a1_32 a2 a3 a4_32) H → va_D A (wW_X11_exchange G h0 h1 h2 h3 h4 y0_3 y0_4 y0_6 y0_18 y0_21 y0_22 y0_23 y0_24 y0_25 y0_26 y0_34 y0_38 y0_39 y0_40 y0_41 y0_42 y0_43 y0_45 y0_46 y0_47 y0_48 x0_5 x0_7 x0_8 x0_9 x0_10 x0_11 x0_12 x0_13 x0_14 x0_15 x0_16 x0_17 x0_19 x0_20 x0_27 x0_28 x0_29 x0_30 x0_31 x0_32 x0_35 x0_36 x0_37 x0_44 x0_49 x0_50 a1_32 a2 a3 a4_32) → va_S A s.heap H locs → ∀ ls : Array Slot, lv_has ls 6 [(0, .ref h0), (1, .int c32_1), (2, .int u32_2), (3, .int u32_3), (4, .int u32_4)] → W p l e ({ frames := 6, cells := 0, slots := 0, locals := 136 } : Room) s m (List.toArray [.ref h0, .int b1]) below meth c H locs 0 0 (MQ below (QiS G r0 A (wW_X11_exchange G h0 h1 h2 h3 h4 y0_3 y0_4 y0_6 y0_18 y0_21 y0_22 y0_23 y0_24 y0_25 y0_26 y0_34 y0_38 y0_39 y0_40 y0_41 y0_42 y0_43 y0_45 y0_46 y0_47 y0_48 x0_5 x0_7 x0_8 x0_9 x0_10 x0_11 x0_12 x0_13 x0_14 x0_15 x0_16 x0_17 x0_19 x0_20 x0_27 x0_28 x0_29 x0_30 x0_31 x0_32 x0_35 x0_36 x0_37 x0_44 x0_49 x0_50 e_a1 a2 a3 e_a4)) (List.toArray [.ref h0, .int b1]) s 0 0 A) (F0 m 32 ls []) := by
    intro c32_1 n32
    induction n32 with
    | zero =>
      intro u32_2 u32_3 u32_4 a1_32 a4_32 hf
      cases hf
    | succ n32 ih32 =>
      have kL47 : ∀ (c47_4 : Int32) (n47 : Nat) (u47_2 : Int32) (u47_3 : Int32) (u47_5 : Int32) (a1_47 : Nat → Int32) (a4_47 : Nat → Int32), p_X11_exchange_L47 F x0_5 a2 a3 c32_1 c47_4 (p_X11_exchange_L32 F x0_5 a2 a3 c32_1 n32) n47 u47_2 u47_3 u47_5 a1_47 a4_47 = some (r0, e_a1, e_a4) → ∀ (H : Heap) (locs : List Loc), va_P G.1 vwCl (wW_X11_exchange G h0 h1 h2 h3 h4 y0_3 y0_4 y0_6 y0_18 y0_21 y0_22 y0_23 y0_24 y0_25 y0_26 y0_34 y0_38 y0_39 y0_40 y0_41 y0_42 y0_43 y0_45 y0_46 y0_47 y0_48 x0_5 x0_7 x0_8 x0_9 x0_10 x0_11 x0_12 x0_13 x0_14 x0_15 x0_16 x0_17 x0_19 x0_20 x0_27 x0_28 x0_29 x0_30 x0_31 x0_32 x0_35 x0_36 x0_37 x0_44 x0_49 x0_50 a1_47 a2 a3 a4_47) H → va_D A (wW_X11_exchange G h0 h1 h2 h3 h4 y0_3 y0_4 y0_6 y0_18 y0_21 y0_22 y0_23 y0_24 y0_25 y0_26 y0_34 y0_38 y0_39 y0_40 y0_41 y0_42 y0_43 y0_45 y0_46 y0_47 y0_48 x0_5 x0_7 x0_8 x0_9 x0_10 x0_11 x0_12 x0_13 x0_14 x0_15 x0_16 x0_17 x0_19 x0_20 x0_27 x0_28 x0_29 x0_30 x0_31 x0_32 x0_35 x0_36 x0_37 x0_44 x0_49 x0_50 a1_47 a2 a3 a4_47) → va_S A s.heap H locs → ∀ ls : Array Slot, lv_has ls 6 [(0, .ref h0), (1, .int c32_1), (2, .int u47_2), (3, .int u47_3), (4, .int c47_4), (5, .int u47_5)] → W p l e ({ frames := 6, cells := 0, slots := 0, locals := 136 } : Room) s m (List.toArray [.ref h0, .int b1]) below meth c H locs 0 0 (MQ below (QiS G r0 A (wW_X11_exchange G h0 h1 h2 h3 h4 y0_3 y0_4 y0_6 y0_18 y0_21 y0_22 y0_23 y0_24 y0_25 y0_26 y0_34 y0_38 y0_39 y0_40 y0_41 y0_42 y0_43 y0_45 y0_46 y0_47 y0_48 x0_5 x0_7 x0_8 x0_9 x0_10 x0_11 x0_12 x0_13 x0_14 x0_15 x0_16 x0_17 x0_19 x0_20 x0_27 x0_28 x0_29 x0_30 x0_31 x0_32 x0_35 x0_36 x0_37 x0_44 x0_49 x0_50 e_a1 a2 a3 e_a4)) (List.toArray [.ref h0, .int b1]) s 0 0 A) (F0 m 47 ls []) := by
        intro c47_4 n47
        induction n47 with
        | zero =>
          intro u47_2 u47_3 u47_5 a1_47 a4_47 hf
          cases hf
        | succ n47 ih47 =>
          have kJ110 : ∀ (u110_2 : Int32) (u110_3 : Int32) (u110_5 : Int32) (a1_110 : Nat → Int32) (a4_110 : Nat → Int32), p_X11_exchange_J110 F x0_5 a2 a3 c32_1 c47_4 (p_X11_exchange_L32 F x0_5 a2 a3 c32_1 n32) (p_X11_exchange_L47 F x0_5 a2 a3 c32_1 c47_4 (p_X11_exchange_L32 F x0_5 a2 a3 c32_1 n32) n47) u110_2 u110_3 u110_5 a1_110 a4_110 = some (r0, e_a1, e_a4) → ∀ (H : Heap) (locs : List Loc), va_P G.1 vwCl (wW_X11_exchange G h0 h1 h2 h3 h4 y0_3 y0_4 y0_6 y0_18 y0_21 y0_22 y0_23 y0_24 y0_25 y0_26 y0_34 y0_38 y0_39 y0_40 y0_41 y0_42 y0_43 y0_45 y0_46 y0_47 y0_48 x0_5 x0_7 x0_8 x0_9 x0_10 x0_11 x0_12 x0_13 x0_14 x0_15 x0_16 x0_17 x0_19 x0_20 x0_27 x0_28 x0_29 x0_30 x0_31 x0_32 x0_35 x0_36 x0_37 x0_44 x0_49 x0_50 a1_110 a2 a3 a4_110) H → va_D A (wW_X11_exchange G h0 h1 h2 h3 h4 y0_3 y0_4 y0_6 y0_18 y0_21 y0_22 y0_23 y0_24 y0_25 y0_26 y0_34 y0_38 y0_39 y0_40 y0_41 y0_42 y0_43 y0_45 y0_46 y0_47 y0_48 x0_5 x0_7 x0_8 x0_9 x0_10 x0_11 x0_12 x0_13 x0_14 x0_15 x0_16 x0_17 x0_19 x0_20 x0_27 x0_28 x0_29 x0_30 x0_31 x0_32 x0_35 x0_36 x0_37 x0_44 x0_49 x0_50 a1_110 a2 a3 a4_110) → va_S A s.heap H locs → ∀ ls : Array Slot, lv_has ls 6 [(0, .ref h0), (1, .int c32_1), (2, .int u110_2), (3, .int u110_3), (4, .int c47_4), (5, .int u110_5)] → W p l e ({ frames := 6, cells := 0, slots := 0, locals := 136 } : Room) s m (List.toArray [.ref h0, .int b1]) below meth c H locs 0 0 (MQ below (QiS G r0 A (wW_X11_exchange G h0 h1 h2 h3 h4 y0_3 y0_4 y0_6 y0_18 y0_21 y0_22 y0_23 y0_24 y0_25 y0_26 y0_34 y0_38 y0_39 y0_40 y0_41 y0_42 y0_43 y0_45 y0_46 y0_47 y0_48 x0_5 x0_7 x0_8 x0_9 x0_10 x0_11 x0_12 x0_13 x0_14 x0_15 x0_16 x0_17 x0_19 x0_20 x0_27 x0_28 x0_29 x0_30 x0_31 x0_32 x0_35 x0_36 x0_37 x0_44 x0_49 x0_50 e_a1 a2 a3 e_a4)) (List.toArray [.ref h0, .int b1]) s 0 0 A) (F0 m 110 ls []) := by
            intro u110_2 u110_3 u110_5 a1_110 a4_110 hf H locs hP hD hS ls hl
            refine lv_iinc (v := u110_5 + (1 : Int32)) (lv' := [(5, .int (u110_5 + (1 : Int32))), (0, .ref h0), (1, .int c32_1), (2, .int u110_2), (3, .int u110_3), (4, .int c47_4)]) hx hb dX11_exchange_110 hl (k := 5) rfl (by rfl) (by decide) rfl (fun ls hl => ?_)
            refine lv_goto (tgt := 47) hx hb dX11_exchange_113 (by decide) ?_
            exact ih47 _ _ _ _ _ hf _ _ hP hD hS _ (lv_sub hl [1, 2, 3, 4, 5, 0] rfl)
          intro u47_2 u47_3 u47_5 a1_47 a4_47 hf H locs hP hD hS ls hl
          have hf : p_X11_exchange_L47b F x0_5 a2 a3 c32_1 c47_4 (p_X11_exchange_L32 F x0_5 a2 a3 c32_1 n32) (p_X11_exchange_L47 F x0_5 a2 a3 c32_1 c47_4 (p_X11_exchange_L32 F x0_5 a2 a3 c32_1 n32) n47) u47_2 u47_3 u47_5 a1_47 a4_47 = some (r0, e_a1, e_a4) := hf
          refine lv_iload hx hb dX11_exchange_47 (lv_at hl 5 rfl) ?_
          refine lv_aload_n hx hb dX11_exchange_49 rfl (lv_at hl 0 rfl) ?_
          obtain ⟨r_50_0, hc_r_50_0, hf⟩ := of_bnd hf
          refine cl_Vi (w2 := (wW_X11_exchange G h0 h1 h2 h3 h4 y0_3 y0_4 y0_6 y0_18 y0_21 y0_22 y0_23 y0_24 y0_25 y0_26 y0_34 y0_38 y0_39 y0_40 y0_41 y0_42 y0_43 y0_45 y0_46 y0_47 y0_48 x0_5 x0_7 x0_8 x0_9 x0_10 x0_11 x0_12 x0_13 x0_14 x0_15 x0_16 x0_17 x0_19 x0_20 x0_27 x0_28 x0_29 x0_30 x0_31 x0_32 x0_35 x0_36 x0_37 x0_44 x0_49 x0_50 a1_47 a2 a3 a4_47)) (As := []) (rest := [.int u47_5]) ⟨hx, hb, hml, hown, ht0⟩ (c_X11_dataNow l G h0 h2 h1 h3 y0_3 y0_4 y0_6 y0_18 y0_21 y0_22 y0_23 y0_24 y0_25 y0_26 h4 y0_34 y0_38 y0_39 y0_40 y0_41 y0_42 y0_43 y0_45 y0_46 y0_47 y0_48 _ x0_5 x0_7 x0_8 x0_9 x0_10 x0_11 x0_12 x0_13 x0_14 x0_15 x0_16 x0_17 x0_19 x0_20 x0_27 x0_28 x0_29 x0_30 x0_31 x0_32 x0_35 x0_36 x0_37 x0_44 x0_49 x0_50 a2 F _ hc_r_50_0) yk_X11_dataNow wd_1398 ⟨rfl, rfl, by decide, by decide⟩ ⟨Nat.le_refl _, Nat.le_refl _⟩ hX hK hP hD hS hA [0, 2] [1, 3, 4] [3, 0, 4, 1, 2] (va_recv hK hP (ci := 11) (q0 := 0) rfl rfl) rfl rfl (by decide) rfl rfl rfl rfl rfl hl.1 rfl (Nat.le_of_ble_eq_true rfl) dX11_exchange_50 (fun H locs hP hD hS => ?_)
          refine lv_icmp_ge (tgt := 116) hx hb dX11_exchange_53 (by decide) (fun c2 => ?_) (fun c2 => ?_)
          · have hf := of_pos hf c2
            refine lv_iinc (v := c47_4 + (1 : Int32)) (lv' := [(4, .int (c47_4 + (1 : Int32))), (0, .ref h0), (1, .int c32_1), (2, .int u47_2), (3, .int u47_3), (5, .int u47_5)]) hx hb dX11_exchange_116 hl (k := 4) rfl (by rfl) (by decide) rfl (fun ls hl => ?_)
            refine lv_goto (tgt := 32) hx hb dX11_exchange_119 (by decide) ?_
            exact ih32 _ _ _ _ _ hf _ _ hP hD hS _ (lv_sub hl [1, 2, 3, 4, 0] rfl)
          · have hf := of_neg hf c2
            refine lv_aload_n hx hb dX11_exchange_56 rfl (lv_at hl 0 rfl) ?_
            refine lv_iload hx hb dX11_exchange_57 (lv_at hl 4 rfl) ?_
            refine lv_iload hx hb dX11_exchange_59 (lv_at hl 5 rfl) ?_
            obtain ⟨r_61_2_a1, hc_r_61_2, hf⟩ := of_bnd hf
            refine cl_Vv (w2 := (wW_X11_exchange G h0 h1 h2 h3 h4 y0_3 y0_4 y0_6 y0_18 y0_21 y0_22 y0_23 y0_24 y0_25 y0_26 y0_34 y0_38 y0_39 y0_40 y0_41 y0_42 y0_43 y0_45 y0_46 y0_47 y0_48 x0_5 x0_7 x0_8 x0_9 x0_10 x0_11 x0_12 x0_13 x0_14 x0_15 x0_16 x0_17 x0_19 x0_20 x0_27 x0_28 x0_29 x0_30 x0_31 x0_32 x0_35 x0_36 x0_37 x0_44 x0_49 x0_50 r_61_2_a1 a2 a3 a4_47)) (As := [.int c47_4, .int u47_5]) (rest := []) ⟨hx, hb, hml, hown, ht0⟩ (c_X11_exchangeAt l G h0 h1 h2 h3 y0_3 y0_4 y0_6 y0_18 y0_21 y0_22 y0_23 y0_24 y0_25 y0_26 h4 y0_34 y0_38 y0_39 y0_40 y0_41 y0_42 y0_43 y0_45 y0_46 y0_47 y0_48 _ x0_5 x0_7 x0_8 x0_9 x0_10 x0_11 x0_12 x0_13 x0_14 x0_15 x0_16 x0_17 x0_19 x0_20 x0_27 x0_28 x0_29 x0_30 x0_31 x0_32 x0_35 x0_36 x0_37 x0_44 x0_49 x0_50 a1_47 F c47_4 u47_5 _ hc_r_61_2) yk_X11_exchangeAt wd_1754 ⟨rfl, rfl, by decide, by decide⟩ ⟨Nat.le_refl _, Nat.le_refl _⟩ hX hK hP hD hS hA [0, 1] [2, 3, 4] [3, 4, 0, 1, 2] (va_recv hK hP (ci := 11) (q0 := 0) rfl rfl) rfl rfl (by decide) rfl rfl rfl rfl rfl hl.1 rfl (Nat.le_of_ble_eq_true rfl) dX11_exchange_61 (fun H locs hP hD hS => ?_)
            refine lv_aload_n hx hb dX11_exchange_64 rfl (lv_at hl 0 rfl) ?_
            refine lv_iconst (v := (0 : Int32)) hx hb dX11_exchange_65 (by decide) ?_
            refine lv_aload_n hx hb dX11_exchange_66 rfl (lv_at hl 0 rfl) ?_
            obtain ⟨r_67_3, hc_r_67_3, hf⟩ := of_bnd hf
            refine cl_Vi (w2 := (wW_X11_exchange G h0 h1 h2 h3 h4 y0_3 y0_4 y0_6 y0_18 y0_21 y0_22 y0_23 y0_24 y0_25 y0_26 y0_34 y0_38 y0_39 y0_40 y0_41 y0_42 y0_43 y0_45 y0_46 y0_47 y0_48 x0_5 x0_7 x0_8 x0_9 x0_10 x0_11 x0_12 x0_13 x0_14 x0_15 x0_16 x0_17 x0_19 x0_20 x0_27 x0_28 x0_29 x0_30 x0_31 x0_32 x0_35 x0_36 x0_37 x0_44 x0_49 x0_50 r_61_2_a1 a2 a3 a4_47)) (As := []) (rest := [.int (0 : Int32), .ref h0]) ⟨hx, hb, hml, hown, ht0⟩ (c_X11_chipMany l G h0 h2 h3 h1 y0_3 y0_4 y0_6 y0_18 y0_21 y0_22 y0_23 y0_24 y0_25 y0_26 h4 y0_34 y0_38 y0_39 y0_40 y0_41 y0_42 y0_43 y0_45 y0_46 y0_47 y0_48 _ x0_5 x0_7 x0_8 x0_9 x0_10 x0_11 x0_12 x0_13 x0_14 x0_15 x0_16 x0_17 x0_19 x0_20 x0_27 x0_28 x0_29 x0_30 x0_31 x0_32 x0_35 x0_36 x0_37 x0_44 x0_49 x0_50 a2 a3 F _ hc_r_67_3) yk_X11_chipMany wd_1869 ⟨rfl, rfl, by decide, by decide⟩ ⟨Nat.le_refl _, Nat.le_refl _⟩ hX hK hP hD hS hA [0, 2, 3] [1, 4] [2, 0, 3, 4, 1] (va_recv hK hP (ci := 11) (q0 := 0) rfl rfl) rfl rfl (by decide) rfl rfl rfl rfl rfl hl.1 rfl (Nat.le_of_ble_eq_true rfl) dX11_exchange_67 (fun H locs hP hD hS => ?_)
            obtain ⟨r_70_4_a4, hc_r_70_4, hf⟩ := of_bnd hf
            refine cl_Vv (w2 := (wW_X11_exchange G h0 h1 h2 h3 h4 y0_3 y0_4 y0_6 y0_18 y0_21 y0_22 y0_23 y0_24 y0_25 y0_26 y0_34 y0_38 y0_39 y0_40 y0_41 y0_42 y0_43 y0_45 y0_46 y0_47 y0_48 x0_5 x0_7 x0_8 x0_9 x0_10 x0_11 x0_12 x0_13 x0_14 x0_15 x0_16 x0_17 x0_19 x0_20 x0_27 x0_28 x0_29 x0_30 x0_31 x0_32 x0_35 x0_36 x0_37 x0_44 x0_49 x0_50 r_61_2_a1 a2 a3 r_70_4_a4)) (As := [.int (0 : Int32), .int r_67_3]) (rest := []) ⟨hx, hb, hml, hown, ht0⟩ (c_X11_layChips l G h0 h1 h2 h3 h4 y0_3 y0_4 y0_6 y0_18 y0_21 y0_22 y0_23 y0_24 y0_25 y0_26 y0_34 y0_38 y0_39 y0_40 y0_41 y0_42 y0_43 y0_45 y0_46 y0_47 y0_48 _ x0_5 x0_7 x0_8 x0_9 x0_10 x0_11 x0_12 x0_13 x0_14 x0_15 x0_16 x0_17 x0_19 x0_20 x0_27 x0_28 x0_29 x0_30 x0_31 x0_32 x0_35 x0_36 x0_37 x0_44 x0_49 x0_50 r_61_2_a1 a2 a3 a4_47 F (0 : Int32) r_67_3 _ hc_r_70_4) yk_X11_layChips wd_1873 ⟨rfl, rfl, by decide, by decide⟩ ⟨Nat.le_refl _, Nat.le_refl _⟩ hX hK hP hD hS hA [0, 1, 2, 3, 4] [] [0, 1, 2, 3, 4] (va_recv hK hP (ci := 11) (q0 := 0) rfl rfl) rfl rfl (by decide) rfl rfl rfl rfl rfl hl.1 rfl (Nat.le_of_ble_eq_true rfl) dX11_exchange_70 (fun H locs hP hD hS => ?_)
            refine lv_aload_n hx hb dX11_exchange_73 rfl (lv_at hl 0 rfl) ?_
            refine lv_iload hx hb dX11_exchange_74 (lv_at hl 4 rfl) ?_
            refine lv_iload hx hb dX11_exchange_76 (lv_at hl 5 rfl) ?_
            obtain ⟨r_78_5_a1, hc_r_78_5, hf⟩ := of_bnd hf
            refine cl_Vv (w2 := (wW_X11_exchange G h0 h1 h2 h3 h4 y0_3 y0_4 y0_6 y0_18 y0_21 y0_22 y0_23 y0_24 y0_25 y0_26 y0_34 y0_38 y0_39 y0_40 y0_41 y0_42 y0_43 y0_45 y0_46 y0_47 y0_48 x0_5 x0_7 x0_8 x0_9 x0_10 x0_11 x0_12 x0_13 x0_14 x0_15 x0_16 x0_17 x0_19 x0_20 x0_27 x0_28 x0_29 x0_30 x0_31 x0_32 x0_35 x0_36 x0_37 x0_44 x0_49 x0_50 r_78_5_a1 a2 a3 r_70_4_a4)) (As := [.int c47_4, .int u47_5]) (rest := []) ⟨hx, hb, hml, hown, ht0⟩ (c_X11_exchangeAt l G h0 h1 h2 h3 y0_3 y0_4 y0_6 y0_18 y0_21 y0_22 y0_23 y0_24 y0_25 y0_26 h4 y0_34 y0_38 y0_39 y0_40 y0_41 y0_42 y0_43 y0_45 y0_46 y0_47 y0_48 _ x0_5 x0_7 x0_8 x0_9 x0_10 x0_11 x0_12 x0_13 x0_14 x0_15 x0_16 x0_17 x0_19 x0_20 x0_27 x0_28 x0_29 x0_30 x0_31 x0_32 x0_35 x0_36 x0_37 x0_44 x0_49 x0_50 r_61_2_a1 F c47_4 u47_5 _ hc_r_78_5) yk_X11_exchangeAt wd_1754 ⟨rfl, rfl, by decide, by decide⟩ ⟨Nat.le_refl _, Nat.le_refl _⟩ hX hK hP hD hS hA [0, 1] [2, 3, 4] [3, 4, 0, 1, 2] (va_recv hK hP (ci := 11) (q0 := 0) rfl rfl) rfl rfl (by decide) rfl rfl rfl rfl rfl hl.1 rfl (Nat.le_of_ble_eq_true rfl) dX11_exchange_78 (fun H locs hP hD hS => ?_)
            refine lv_aload_n hx hb dX11_exchange_81 rfl (lv_at hl 0 rfl) ?_
            refine va_get (ci := 11) (v := .ref h4) (C := RX11) (T := TX11) (N := 51) hx hb ht0 iX11 hown hK hP 0 rfl rfl 33 (by decide) (ht0 _ wd_1439) (fun _ h9 => h9) rfl dX11_exchange_82 ?_
            refine lv_iconst (v := (2 : Int32)) hx hb dX11_exchange_85 (by decide) ?_
            refine va_iald hx hb hK hP 4 0 rfl rfl (show ¬ ixBad (2 : Int32) 3 by decide) dX11_exchange_86 ?_
            refine lv_iload_n hx hb dX11_exchange_87 rfl (lv_at hl 2 rfl) ?_
            refine lv_icmp_lt (tgt := 94) hx hb dX11_exchange_88 (by decide) (fun c7 => ?_) (fun c7 => ?_)
            · have hf := of_pos hf c7
              refine lv_aload_n hx hb dX11_exchange_94 rfl (lv_at hl 0 rfl) ?_
              refine va_get (ci := 11) (v := .ref h4) (C := RX11) (T := TX11) (N := 51) hx hb ht0 iX11 hown hK hP 0 rfl rfl 33 (by decide) (ht0 _ wd_1439) (fun _ h9 => h9) rfl dX11_exchange_95 ?_
              refine lv_iconst (v := (2 : Int32)) hx hb dX11_exchange_98 (by decide) ?_
              refine va_iald hx hb hK hP 4 0 rfl rfl (show ¬ ixBad (2 : Int32) 3 by decide) dX11_exchange_99 ?_
              refine lv_istore_n (lv' := [(2, .int (r_70_4_a4 (2 : Int32).toNatClampNeg)), (0, .ref h0), (1, .int c32_1), (3, .int u47_3), (4, .int c47_4), (5, .int u47_5)]) hx hb dX11_exchange_100 rfl hl (by decide) rfl (fun ls hl => ?_)
              refine lv_bipush (v := (32 : Int32)) hx hb dX11_exchange_101 (by decide) ?_
              refine lv_iload hx hb dX11_exchange_103 (lv_at hl 4 rfl) ?_
              refine lv_imul hx hb dX11_exchange_105 ?_
              refine lv_iload hx hb dX11_exchange_106 (lv_at hl 5 rfl) ?_
              refine lv_iadd hx hb dX11_exchange_108 ?_
              refine lv_istore_n (lv' := [(3, .int (((32 : Int32) * c47_4) + u47_5)), (2, .int (r_70_4_a4 (2 : Int32).toNatClampNeg)), (0, .ref h0), (1, .int c32_1), (4, .int c47_4), (5, .int u47_5)]) hx hb dX11_exchange_109 rfl hl (by decide) rfl (fun ls hl => ?_)
              exact kJ110 _ _ _ _ _ hf _ _ hP hD hS _ (lv_sub hl [2, 3, 1, 0, 4, 5] rfl)
            · have hf := of_neg hf c7
              refine lv_goto (tgt := 110) hx hb dX11_exchange_91 (by decide) ?_
              exact kJ110 _ _ _ _ _ hf _ _ hP hD hS _ (lv_sub hl [0, 1, 2, 3, 4, 5] rfl)
      intro u32_2 u32_3 u32_4 a1_32 a4_32 hf H locs hP hD hS ls hl
      have hf : p_X11_exchange_L32b F x0_5 a2 a3 c32_1 (p_X11_exchange_L32 F x0_5 a2 a3 c32_1 n32) u32_2 u32_3 u32_4 a1_32 a4_32 = some (r0, e_a1, e_a4) := hf
      refine lv_iload hx hb dX11_exchange_32 (lv_at hl 4 rfl) ?_
      refine lv_aload_n hx hb dX11_exchange_34 rfl (lv_at hl 0 rfl) ?_
      obtain ⟨r_35_7, hc_r_35_7, hf⟩ := of_bnd hf
      refine cl_Vi (w2 := (wW_X11_exchange G h0 h1 h2 h3 h4 y0_3 y0_4 y0_6 y0_18 y0_21 y0_22 y0_23 y0_24 y0_25 y0_26 y0_34 y0_38 y0_39 y0_40 y0_41 y0_42 y0_43 y0_45 y0_46 y0_47 y0_48 x0_5 x0_7 x0_8 x0_9 x0_10 x0_11 x0_12 x0_13 x0_14 x0_15 x0_16 x0_17 x0_19 x0_20 x0_27 x0_28 x0_29 x0_30 x0_31 x0_32 x0_35 x0_36 x0_37 x0_44 x0_49 x0_50 a1_32 a2 a3 a4_32)) (As := []) (rest := [.int u32_4]) ⟨hx, hb, hml, hown, ht0⟩ (c_X11_dataNow l G h0 h2 h1 h3 y0_3 y0_4 y0_6 y0_18 y0_21 y0_22 y0_23 y0_24 y0_25 y0_26 h4 y0_34 y0_38 y0_39 y0_40 y0_41 y0_42 y0_43 y0_45 y0_46 y0_47 y0_48 _ x0_5 x0_7 x0_8 x0_9 x0_10 x0_11 x0_12 x0_13 x0_14 x0_15 x0_16 x0_17 x0_19 x0_20 x0_27 x0_28 x0_29 x0_30 x0_31 x0_32 x0_35 x0_36 x0_37 x0_44 x0_49 x0_50 a2 F _ hc_r_35_7) yk_X11_dataNow wd_1398 ⟨rfl, rfl, by decide, by decide⟩ ⟨Nat.le_refl _, Nat.le_refl _⟩ hX hK hP hD hS hA [0, 2] [1, 3, 4] [3, 0, 4, 1, 2] (va_recv hK hP (ci := 11) (q0 := 0) rfl rfl) rfl rfl (by decide) rfl rfl rfl rfl rfl hl.1 rfl (Nat.le_of_ble_eq_true rfl) dX11_exchange_35 (fun H locs hP hD hS => ?_)
      refine lv_icmp_ge (tgt := 122) hx hb dX11_exchange_38 (by decide) (fun c9 => ?_) (fun c9 => ?_)
      · have hf := of_pos hf c9
        refine lv_iload_n hx hb dX11_exchange_122 rfl (lv_at hl 3 rfl) ?_
        refine lv_if_ge (tgt := 128) hx hb dX11_exchange_123 (by decide) (fun c10 => ?_) (fun c10 => ?_)
        · have hf := of_pos hf c10
          refine lv_iload_n hx hb dX11_exchange_128 rfl (lv_at hl 1 rfl) ?_
          refine lv_if_ne (tgt := 139) hx hb dX11_exchange_129 (by decide) (fun c11 => ?_) (fun c11 => ?_)
          · have hf := of_neg hf c11
            refine lv_iload_n hx hb dX11_exchange_139 rfl (lv_at hl 1 rfl) ?_
            refine lv_iconst (v := (1 : Int32)) hx hb dX11_exchange_140 (by decide) ?_
            refine lv_icmp_ne (tgt := 151) hx hb dX11_exchange_141 (by decide) (fun c12 => ?_) (fun c12 => ?_)
            · have hf := of_neg hf c12
              refine lv_iload_n hx hb dX11_exchange_151 rfl (lv_at hl 2 rfl) ?_
              cases hf
              exact ret_i hx hb hr hlk hK hP hD hS dX11_exchange_152
            · have hf := of_pos hf c12
              refine lv_iload_n hx hb dX11_exchange_144 rfl (lv_at hl 3 rfl) ?_
              refine lv_bipush (v := (32 : Int32)) hx hb dX11_exchange_145 (by decide) ?_
              refine lv_irem hx hb dX11_exchange_147 (by decide) ?_
              refine lv_goto (tgt := 152) hx hb dX11_exchange_148 (by decide) ?_
              cases hf
              exact ret_i hx hb hr hlk hK hP hD hS dX11_exchange_152
          · have hf := of_pos hf c11
            refine lv_iload_n hx hb dX11_exchange_132 rfl (lv_at hl 3 rfl) ?_
            refine lv_bipush (v := (32 : Int32)) hx hb dX11_exchange_133 (by decide) ?_
            refine lv_idiv hx hb dX11_exchange_135 (by decide) ?_
            refine lv_goto (tgt := 152) hx hb dX11_exchange_136 (by decide) ?_
            cases hf
            exact ret_i hx hb hr hlk hK hP hD hS dX11_exchange_152
        · have hf := of_neg hf c10
          refine lv_iconst (v := (-1 : Int32)) hx hb dX11_exchange_126 (by decide) ?_
          cases hf
          exact ret_i hx hb hr hlk hK hP hD hS dX11_exchange_127
      · have hf := of_neg hf c9
        refine lv_iload hx hb dX11_exchange_41 (lv_at hl 4 rfl) ?_
        refine lv_iconst (v := (1 : Int32)) hx hb dX11_exchange_43 (by decide) ?_
        refine lv_iadd hx hb dX11_exchange_44 ?_
        refine lv_istore (lv' := [(5, .int (u32_4 + (1 : Int32))), (0, .ref h0), (1, .int c32_1), (2, .int u32_2), (3, .int u32_3), (4, .int u32_4)]) hx hb dX11_exchange_45 hl (by decide) rfl (fun ls hl => ?_)
        exact kL47 _ _ _ _ _ _ _ hf _ _ hP hD hS _ (lv_sub hl [1, 2, 3, 4, 5, 0] rfl)
  refine lv_iload_n hx hb dX11_exchange_0 rfl (lv_at hl 1 rfl) ?_
  refine lv_iconst (v := (0 : Int32)) hx hb dX11_exchange_1 (by decide) ?_
  refine lv_iconst (v := (2 : Int32)) hx hb dX11_exchange_2 (by decide) ?_
  obtain ⟨r_3_12, hc_r_3_12, hf⟩ := of_bnd hf
  refine cl_Si (w2 := (wW_X11_exchange G h0 h1 h2 h3 h4 y0_3 y0_4 y0_6 y0_18 y0_21 y0_22 y0_23 y0_24 y0_25 y0_26 y0_34 y0_38 y0_39 y0_40 y0_41 y0_42 y0_43 y0_45 y0_46 y0_47 y0_48 x0_5 x0_7 x0_8 x0_9 x0_10 x0_11 x0_12 x0_13 x0_14 x0_15 x0_16 x0_17 x0_19 x0_20 x0_27 x0_28 x0_29 x0_30 x0_31 x0_32 x0_35 x0_36 x0_37 x0_44 x0_49 x0_50 a1 a2 a3 a4)) (As := [.int b1, .int (0 : Int32), .int (2 : Int32)]) (rest := []) ⟨hx, hb, hml, hown, ht0⟩ (c_X11_isIn l G _ F b1 (0 : Int32) (2 : Int32) _ hc_r_3_12) yk_X11_isIn wd_1321 ⟨rfl, rfl, by decide, by decide⟩ ⟨Nat.le_refl _, Nat.le_refl _⟩ hX hK hP hD hS hA [] [0, 1, 2, 3, 4] [0, 1, 2, 3, 4] rfl rfl (by decide) rfl rfl rfl rfl rfl hl.1 rfl (Nat.le_of_ble_eq_true rfl) dX11_exchange_3 (fun H locs hP hD hS => ?_)
  refine lv_if_ne (tgt := 11) hx hb dX11_exchange_6 (by decide) (fun c14 => ?_) (fun c14 => ?_)
  · have hf := of_neg hf c14
    refine lv_aload_n hx hb dX11_exchange_11 rfl (lv_at hl 0 rfl) ?_
    refine lv_iconst (v := (0 : Int32)) hx hb dX11_exchange_12 (by decide) ?_
    refine lv_aload_n hx hb dX11_exchange_13 rfl (lv_at hl 0 rfl) ?_
    obtain ⟨r_14_14, hc_r_14_14, hf⟩ := of_bnd hf
    refine cl_Vi (w2 := (wW_X11_exchange G h0 h1 h2 h3 h4 y0_3 y0_4 y0_6 y0_18 y0_21 y0_22 y0_23 y0_24 y0_25 y0_26 y0_34 y0_38 y0_39 y0_40 y0_41 y0_42 y0_43 y0_45 y0_46 y0_47 y0_48 x0_5 x0_7 x0_8 x0_9 x0_10 x0_11 x0_12 x0_13 x0_14 x0_15 x0_16 x0_17 x0_19 x0_20 x0_27 x0_28 x0_29 x0_30 x0_31 x0_32 x0_35 x0_36 x0_37 x0_44 x0_49 x0_50 a1 a2 a3 a4)) (As := []) (rest := [.int (0 : Int32), .ref h0]) ⟨hx, hb, hml, hown, ht0⟩ (c_X11_chipMany l G h0 h2 h3 h1 y0_3 y0_4 y0_6 y0_18 y0_21 y0_22 y0_23 y0_24 y0_25 y0_26 h4 y0_34 y0_38 y0_39 y0_40 y0_41 y0_42 y0_43 y0_45 y0_46 y0_47 y0_48 _ x0_5 x0_7 x0_8 x0_9 x0_10 x0_11 x0_12 x0_13 x0_14 x0_15 x0_16 x0_17 x0_19 x0_20 x0_27 x0_28 x0_29 x0_30 x0_31 x0_32 x0_35 x0_36 x0_37 x0_44 x0_49 x0_50 a2 a3 F _ hc_r_14_14) yk_X11_chipMany wd_1869 ⟨rfl, rfl, by decide, by decide⟩ ⟨Nat.le_refl _, Nat.le_refl _⟩ hX hK hP hD hS hA [0, 2, 3] [1, 4] [2, 0, 3, 4, 1] (va_recv hK hP (ci := 11) (q0 := 0) rfl rfl) rfl rfl (by decide) rfl rfl rfl rfl rfl hl.1 rfl (Nat.le_of_ble_eq_true rfl) dX11_exchange_14 (fun H locs hP hD hS => ?_)
    obtain ⟨r_17_15_a4, hc_r_17_15, hf⟩ := of_bnd hf
    refine cl_Vv (w2 := (wW_X11_exchange G h0 h1 h2 h3 h4 y0_3 y0_4 y0_6 y0_18 y0_21 y0_22 y0_23 y0_24 y0_25 y0_26 y0_34 y0_38 y0_39 y0_40 y0_41 y0_42 y0_43 y0_45 y0_46 y0_47 y0_48 x0_5 x0_7 x0_8 x0_9 x0_10 x0_11 x0_12 x0_13 x0_14 x0_15 x0_16 x0_17 x0_19 x0_20 x0_27 x0_28 x0_29 x0_30 x0_31 x0_32 x0_35 x0_36 x0_37 x0_44 x0_49 x0_50 a1 a2 a3 r_17_15_a4)) (As := [.int (0 : Int32), .int r_14_14]) (rest := []) ⟨hx, hb, hml, hown, ht0⟩ (c_X11_layChips l G h0 h1 h2 h3 h4 y0_3 y0_4 y0_6 y0_18 y0_21 y0_22 y0_23 y0_24 y0_25 y0_26 y0_34 y0_38 y0_39 y0_40 y0_41 y0_42 y0_43 y0_45 y0_46 y0_47 y0_48 _ x0_5 x0_7 x0_8 x0_9 x0_10 x0_11 x0_12 x0_13 x0_14 x0_15 x0_16 x0_17 x0_19 x0_20 x0_27 x0_28 x0_29 x0_30 x0_31 x0_32 x0_35 x0_36 x0_37 x0_44 x0_49 x0_50 a1 a2 a3 a4 F (0 : Int32) r_14_14 _ hc_r_17_15) yk_X11_layChips wd_1873 ⟨rfl, rfl, by decide, by decide⟩ ⟨Nat.le_refl _, Nat.le_refl _⟩ hX hK hP hD hS hA [0, 1, 2, 3, 4] [] [0, 1, 2, 3, 4] (va_recv hK hP (ci := 11) (q0 := 0) rfl rfl) rfl rfl (by decide) rfl rfl rfl rfl rfl hl.1 rfl (Nat.le_of_ble_eq_true rfl) dX11_exchange_17 (fun H locs hP hD hS => ?_)
    refine lv_aload_n hx hb dX11_exchange_20 rfl (lv_at hl 0 rfl) ?_
    refine va_get (ci := 11) (v := .ref h4) (C := RX11) (T := TX11) (N := 51) hx hb ht0 iX11 hown hK hP 0 rfl rfl 33 (by decide) (ht0 _ wd_1439) (fun _ h9 => h9) rfl dX11_exchange_21 ?_
    refine lv_iconst (v := (2 : Int32)) hx hb dX11_exchange_24 (by decide) ?_
    refine va_iald hx hb hK hP 4 0 rfl rfl (show ¬ ixBad (2 : Int32) 3 by decide) dX11_exchange_25 ?_
    refine lv_istore_n (lv' := [(2, .int (r_17_15_a4 (2 : Int32).toNatClampNeg)), (0, .ref h0), (1, .int b1)]) hx hb dX11_exchange_26 rfl hl (by decide) rfl (fun ls hl => ?_)
    refine lv_iconst (v := (-1 : Int32)) hx hb dX11_exchange_27 (by decide) ?_
    refine lv_istore_n (lv' := [(3, .int (-1 : Int32)), (2, .int (r_17_15_a4 (2 : Int32).toNatClampNeg)), (0, .ref h0), (1, .int b1)]) hx hb dX11_exchange_28 rfl hl (by decide) rfl (fun ls hl => ?_)
    refine lv_iconst (v := (0 : Int32)) hx hb dX11_exchange_29 (by decide) ?_
    refine lv_istore (lv' := [(4, .int (0 : Int32)), (3, .int (-1 : Int32)), (2, .int (r_17_15_a4 (2 : Int32).toNatClampNeg)), (0, .ref h0), (1, .int b1)]) hx hb dX11_exchange_30 hl (by decide) rfl (fun ls hl => ?_)
    exact kL32 _ _ _ _ _ _ _ hf _ _ hP hD hS _ (lv_sub hl [3, 4, 2, 1, 0] rfl)
  · have hf := of_pos hf c14
    refine lv_iconst (v := (-1 : Int32)) hx hb dX11_exchange_9 (by decide) ?_
    cases hf
    exact ret_i hx hb hr hlk hK hP hD hS dX11_exchange_10
theorem yk_X11_exchange : ykV yX11_exchange RX11 cX11_exchange 6 (some .int) 1 := ⟨wd_1886, wd_1887, wd_142, wd_1888, rfl, by decide +kernel, by decide +kernel, by decide +kernel⟩
theorem dX11_makeSignal_0 : decode cX11_makeSignal 0 = .ok (.iconst 1, 1) := by decide +kernel
theorem dX11_makeSignal_1 : decode cX11_makeSignal 1 = .ok (.istore_n 1, 1) := by decide +kernel
theorem dX11_makeSignal_2 : decode cX11_makeSignal 2 = .ok (.iconst (-1), 1) := by decide +kernel
theorem dX11_makeSignal_3 : decode cX11_makeSignal 3 = .ok (.istore_n 2, 1) := by decide +kernel
theorem dX11_makeSignal_4 : decode cX11_makeSignal 4 = .ok (.iconst (-1), 1) := by decide +kernel
theorem dX11_makeSignal_5 : decode cX11_makeSignal 5 = .ok (.istore_n 3, 1) := by decide +kernel
theorem dX11_makeSignal_6 : decode cX11_makeSignal 6 = .ok (.iconst 0, 1) := by decide +kernel
theorem dX11_makeSignal_7 : decode cX11_makeSignal 7 = .ok (.istore 4, 2) := by decide +kernel
theorem dX11_makeSignal_9 : decode cX11_makeSignal 9 = .ok (.iload 4, 2) := by decide +kernel
theorem dX11_makeSignal_11 : decode cX11_makeSignal 11 = .ok (.aload_n 0, 1) := by decide +kernel
theorem dX11_makeSignal_12 : decode cX11_makeSignal 12 = .ok (.getfield 442, 3) := by decide +kernel
theorem dX11_makeSignal_15 : decode cX11_makeSignal 15 = .ok (.if_icmp .ge 68, 3) := by decide +kernel
theorem dX11_makeSignal_18 : decode cX11_makeSignal 18 = .ok (.iload 4, 2) := by decide +kernel
theorem dX11_makeSignal_20 : decode cX11_makeSignal 20 = .ok (.iconst 1, 1) := by decide +kernel
theorem dX11_makeSignal_21 : decode cX11_makeSignal 21 = .ok (.iadd, 1) := by decide +kernel
theorem dX11_makeSignal_22 : decode cX11_makeSignal 22 = .ok (.istore 5, 2) := by decide +kernel
theorem dX11_makeSignal_24 : decode cX11_makeSignal 24 = .ok (.iload 5, 2) := by decide +kernel
theorem dX11_makeSignal_26 : decode cX11_makeSignal 26 = .ok (.aload_n 0, 1) := by decide +kernel
theorem dX11_makeSignal_27 : decode cX11_makeSignal 27 = .ok (.getfield 442, 3) := by decide +kernel
theorem dX11_makeSignal_30 : decode cX11_makeSignal 30 = .ok (.if_icmp .ge 47, 3) := by decide +kernel
theorem dX11_makeSignal_33 : decode cX11_makeSignal 33 = .ok (.aload_n 0, 1) := by decide +kernel
theorem dX11_makeSignal_34 : decode cX11_makeSignal 34 = .ok (.getfield 61, 3) := by decide +kernel
theorem dX11_makeSignal_37 : decode cX11_makeSignal 37 = .ok (.iload 4, 2) := by decide +kernel
theorem dX11_makeSignal_39 : decode cX11_makeSignal 39 = .ok (.iaload, 1) := by decide +kernel
theorem dX11_makeSignal_40 : decode cX11_makeSignal 40 = .ok (.aload_n 0, 1) := by decide +kernel
theorem dX11_makeSignal_41 : decode cX11_makeSignal 41 = .ok (.getfield 61, 3) := by decide +kernel
theorem dX11_makeSignal_44 : decode cX11_makeSignal 44 = .ok (.iload 5, 2) := by decide +kernel
theorem dX11_makeSignal_46 : decode cX11_makeSignal 46 = .ok (.iaload, 1) := by decide +kernel
theorem dX11_makeSignal_47 : decode cX11_makeSignal 47 = .ok (.iand, 1) := by decide +kernel
theorem dX11_makeSignal_48 : decode cX11_makeSignal 48 = .ok (.invokestatic 192, 3) := by decide +kernel
theorem dX11_makeSignal_51 : decode cX11_makeSignal 51 = .ok (.istore 6, 2) := by decide +kernel
theorem dX11_makeSignal_53 : decode cX11_makeSignal 53 = .ok (.iload 6, 2) := by decide +kernel
theorem dX11_makeSignal_55 : decode cX11_makeSignal 55 = .ok (.iload_n 1, 1) := by decide +kernel
theorem dX11_makeSignal_56 : decode cX11_makeSignal 56 = .ok (.if_icmp .gt 6, 3) := by decide +kernel
theorem dX11_makeSignal_59 : decode cX11_makeSignal 59 = .ok (.goto 12, 3) := by decide +kernel
theorem dX11_makeSignal_62 : decode cX11_makeSignal 62 = .ok (.iload 6, 2) := by decide +kernel
theorem dX11_makeSignal_64 : decode cX11_makeSignal 64 = .ok (.istore_n 1, 1) := by decide +kernel
theorem dX11_makeSignal_65 : decode cX11_makeSignal 65 = .ok (.iload 4, 2) := by decide +kernel
theorem dX11_makeSignal_67 : decode cX11_makeSignal 67 = .ok (.istore_n 2, 1) := by decide +kernel
theorem dX11_makeSignal_68 : decode cX11_makeSignal 68 = .ok (.iload 5, 2) := by decide +kernel
theorem dX11_makeSignal_70 : decode cX11_makeSignal 70 = .ok (.istore_n 3, 1) := by decide +kernel
theorem dX11_makeSignal_71 : decode cX11_makeSignal 71 = .ok (.iinc 5 1, 3) := by decide +kernel
theorem dX11_makeSignal_74 : decode cX11_makeSignal 74 = .ok (.goto (-50), 3) := by decide +kernel
theorem dX11_makeSignal_77 : decode cX11_makeSignal 77 = .ok (.iinc 4 1, 3) := by decide +kernel
theorem dX11_makeSignal_80 : decode cX11_makeSignal 80 = .ok (.goto (-71), 3) := by decide +kernel
theorem dX11_makeSignal_83 : decode cX11_makeSignal 83 = .ok (.iload_n 2, 1) := by decide +kernel
theorem dX11_makeSignal_84 : decode cX11_makeSignal 84 = .ok (.ifCond .ge 5, 3) := by decide +kernel
theorem dX11_makeSignal_87 : decode cX11_makeSignal 87 = .ok (.iconst 0, 1) := by decide +kernel
theorem dX11_makeSignal_88 : decode cX11_makeSignal 88 = .ok (.ireturn, 1) := by decide +kernel
theorem dX11_makeSignal_89 : decode cX11_makeSignal 89 = .ok (.aload_n 0, 1) := by decide +kernel
theorem dX11_makeSignal_90 : decode cX11_makeSignal 90 = .ok (.getfield 61, 3) := by decide +kernel
theorem dX11_makeSignal_93 : decode cX11_makeSignal 93 = .ok (.iload_n 2, 1) := by decide +kernel
theorem dX11_makeSignal_94 : decode cX11_makeSignal 94 = .ok (.iaload, 1) := by decide +kernel
theorem dX11_makeSignal_95 : decode cX11_makeSignal 95 = .ok (.aload_n 0, 1) := by decide +kernel
theorem dX11_makeSignal_96 : decode cX11_makeSignal 96 = .ok (.getfield 61, 3) := by decide +kernel
theorem dX11_makeSignal_99 : decode cX11_makeSignal 99 = .ok (.iload_n 3, 1) := by decide +kernel
theorem dX11_makeSignal_100 : decode cX11_makeSignal 100 = .ok (.iaload, 1) := by decide +kernel
theorem dX11_makeSignal_101 : decode cX11_makeSignal 101 = .ok (.iand, 1) := by decide +kernel
theorem dX11_makeSignal_102 : decode cX11_makeSignal 102 = .ok (.istore 4, 2) := by decide +kernel
theorem dX11_makeSignal_104 : decode cX11_makeSignal 104 = .ok (.aload_n 0, 1) := by decide +kernel
theorem dX11_makeSignal_105 : decode cX11_makeSignal 105 = .ok (.getfield 61, 3) := by decide +kernel
theorem dX11_makeSignal_108 : decode cX11_makeSignal 108 = .ok (.aload_n 0, 1) := by decide +kernel
theorem dX11_makeSignal_109 : decode cX11_makeSignal 109 = .ok (.getfield 442, 3) := by decide +kernel
theorem dX11_makeSignal_112 : decode cX11_makeSignal 112 = .ok (.iload 4, 2) := by decide +kernel
theorem dX11_makeSignal_114 : decode cX11_makeSignal 114 = .ok (.iastore, 1) := by decide +kernel
theorem dX11_makeSignal_115 : decode cX11_makeSignal 115 = .ok (.aload_n 0, 1) := by decide +kernel
theorem dX11_makeSignal_116 : decode cX11_makeSignal 116 = .ok (.getfield 61, 3) := by decide +kernel
theorem dX11_makeSignal_119 : decode cX11_makeSignal 119 = .ok (.iload_n 2, 1) := by decide +kernel
theorem dX11_makeSignal_120 : decode cX11_makeSignal 120 = .ok (.dup2, 1) := by decide +kernel
theorem dX11_makeSignal_121 : decode cX11_makeSignal 121 = .ok (.iaload, 1) := by decide +kernel
theorem dX11_makeSignal_122 : decode cX11_makeSignal 122 = .ok (.iload 4, 2) := by decide +kernel
theorem dX11_makeSignal_124 : decode cX11_makeSignal 124 = .ok (.iconst (-1), 1) := by decide +kernel
theorem dX11_makeSignal_125 : decode cX11_makeSignal 125 = .ok (.ixor, 1) := by decide +kernel
theorem dX11_makeSignal_126 : decode cX11_makeSignal 126 = .ok (.iand, 1) := by decide +kernel
theorem dX11_makeSignal_127 : decode cX11_makeSignal 127 = .ok (.iastore, 1) := by decide +kernel
theorem dX11_makeSignal_128 : decode cX11_makeSignal 128 = .ok (.aload_n 0, 1) := by decide +kernel
theorem dX11_makeSignal_129 : decode cX11_makeSignal 129 = .ok (.getfield 61, 3) := by decide +kernel
theorem dX11_makeSignal_132 : decode cX11_makeSignal 132 = .ok (.iload_n 3, 1) := by decide +kernel
theorem dX11_makeSignal_133 : decode cX11_makeSignal 133 = .ok (.dup2, 1) := by decide +kernel
theorem dX11_makeSignal_134 : decode cX11_makeSignal 134 = .ok (.iaload, 1) := by decide +kernel
theorem dX11_makeSignal_135 : decode cX11_makeSignal 135 = .ok (.iload 4, 2) := by decide +kernel
theorem dX11_makeSignal_137 : decode cX11_makeSignal 137 = .ok (.iconst (-1), 1) := by decide +kernel
theorem dX11_makeSignal_138 : decode cX11_makeSignal 138 = .ok (.ixor, 1) := by decide +kernel
theorem dX11_makeSignal_139 : decode cX11_makeSignal 139 = .ok (.iand, 1) := by decide +kernel
theorem dX11_makeSignal_140 : decode cX11_makeSignal 140 = .ok (.iastore, 1) := by decide +kernel
theorem dX11_makeSignal_141 : decode cX11_makeSignal 141 = .ok (.aload_n 0, 1) := by decide +kernel
theorem dX11_makeSignal_142 : decode cX11_makeSignal 142 = .ok (.getfield 64, 3) := by decide +kernel
theorem dX11_makeSignal_145 : decode cX11_makeSignal 145 = .ok (.aload_n 0, 1) := by decide +kernel
theorem dX11_makeSignal_146 : decode cX11_makeSignal 146 = .ok (.getfield 442, 3) := by decide +kernel
theorem dX11_makeSignal_149 : decode cX11_makeSignal 149 = .ok (.iconst 1, 1) := by decide +kernel
theorem dX11_makeSignal_150 : decode cX11_makeSignal 150 = .ok (.aload_n 0, 1) := by decide +kernel
theorem dX11_makeSignal_151 : decode cX11_makeSignal 151 = .ok (.getfield 64, 3) := by decide +kernel
theorem dX11_makeSignal_154 : decode cX11_makeSignal 154 = .ok (.iload_n 2, 1) := by decide +kernel
theorem dX11_makeSignal_155 : decode cX11_makeSignal 155 = .ok (.iaload, 1) := by decide +kernel
theorem dX11_makeSignal_156 : decode cX11_makeSignal 156 = .ok (.aload_n 0, 1) := by decide +kernel
theorem dX11_makeSignal_157 : decode cX11_makeSignal 157 = .ok (.getfield 64, 3) := by decide +kernel
theorem dX11_makeSignal_160 : decode cX11_makeSignal 160 = .ok (.iload_n 3, 1) := by decide +kernel
theorem dX11_makeSignal_161 : decode cX11_makeSignal 161 = .ok (.iaload, 1) := by decide +kernel
theorem dX11_makeSignal_162 : decode cX11_makeSignal 162 = .ok (.invokestatic 252, 3) := by decide +kernel
theorem dX11_makeSignal_165 : decode cX11_makeSignal 165 = .ok (.iadd, 1) := by decide +kernel
theorem dX11_makeSignal_166 : decode cX11_makeSignal 166 = .ok (.iastore, 1) := by decide +kernel
theorem dX11_makeSignal_167 : decode cX11_makeSignal 167 = .ok (.aload_n 0, 1) := by decide +kernel
theorem dX11_makeSignal_168 : decode cX11_makeSignal 168 = .ok (.getfield 67, 3) := by decide +kernel
theorem dX11_makeSignal_171 : decode cX11_makeSignal 171 = .ok (.aload_n 0, 1) := by decide +kernel
theorem dX11_makeSignal_172 : decode cX11_makeSignal 172 = .ok (.getfield 442, 3) := by decide +kernel
theorem dX11_makeSignal_175 : decode cX11_makeSignal 175 = .ok (.iload_n 2, 1) := by decide +kernel
theorem dX11_makeSignal_176 : decode cX11_makeSignal 176 = .ok (.iastore, 1) := by decide +kernel
theorem dX11_makeSignal_177 : decode cX11_makeSignal 177 = .ok (.aload_n 0, 1) := by decide +kernel
theorem dX11_makeSignal_178 : decode cX11_makeSignal 178 = .ok (.getfield 70, 3) := by decide +kernel
theorem dX11_makeSignal_181 : decode cX11_makeSignal 181 = .ok (.aload_n 0, 1) := by decide +kernel
theorem dX11_makeSignal_182 : decode cX11_makeSignal 182 = .ok (.getfield 442, 3) := by decide +kernel
theorem dX11_makeSignal_185 : decode cX11_makeSignal 185 = .ok (.iload_n 3, 1) := by decide +kernel
theorem dX11_makeSignal_186 : decode cX11_makeSignal 186 = .ok (.iastore, 1) := by decide +kernel
theorem dX11_makeSignal_187 : decode cX11_makeSignal 187 = .ok (.aload_n 0, 1) := by decide +kernel
theorem dX11_makeSignal_188 : decode cX11_makeSignal 188 = .ok (.getfield 73, 3) := by decide +kernel
theorem dX11_makeSignal_191 : decode cX11_makeSignal 191 = .ok (.aload_n 0, 1) := by decide +kernel
theorem dX11_makeSignal_192 : decode cX11_makeSignal 192 = .ok (.getfield 442, 3) := by decide +kernel
theorem dX11_makeSignal_195 : decode cX11_makeSignal 195 = .ok (.iload_n 1, 1) := by decide +kernel
theorem dX11_makeSignal_196 : decode cX11_makeSignal 196 = .ok (.iastore, 1) := by decide +kernel
theorem dX11_makeSignal_197 : decode cX11_makeSignal 197 = .ok (.aload_n 0, 1) := by decide +kernel
theorem dX11_makeSignal_198 : decode cX11_makeSignal 198 = .ok (.dup, 1) := by decide +kernel
theorem dX11_makeSignal_199 : decode cX11_makeSignal 199 = .ok (.getfield 442, 3) := by decide +kernel
theorem dX11_makeSignal_202 : decode cX11_makeSignal 202 = .ok (.iconst 1, 1) := by decide +kernel
theorem dX11_makeSignal_203 : decode cX11_makeSignal 203 = .ok (.iadd, 1) := by decide +kernel
theorem dX11_makeSignal_204 : decode cX11_makeSignal 204 = .ok (.putfield 442, 3) := by decide +kernel
theorem dX11_makeSignal_207 : decode cX11_makeSignal 207 = .ok (.iconst 1, 1) := by decide +kernel
theorem dX11_makeSignal_208 : decode cX11_makeSignal 208 = .ok (.ireturn, 1) := by decide +kernel
def wW_X11_makeSignal (G : GG) (h0 h1 h2 h3 h4 h5 y0_0 y0_1 y0_2 y0_3 y0_4 y0_6 y0_18 y0_21 y0_22 y0_23 y0_24 y0_25 y0_26 y0_33 y0_34 y0_43 y0_45 y0_46 y0_47 y0_48 : Nat) (x0_5 : Int32) (x0_7 : Int32) (x0_8 : Int32) (x0_9 : Int32) (x0_10 : Int32) (x0_11 : Int32) (x0_12 : Int32) (x0_13 : Int32) (x0_14 : Int32) (x0_15 : Int32) (x0_16 : Int32) (x0_17 : Int32) (x0_19 : Int32) (x0_20 : Int32) (x0_27 : Int32) (x0_28 : Int32) (x0_29 : Int32) (x0_30 : Int32) (x0_31 : Int32) (x0_32 : Int32) (x0_35 : Int32) (x0_36 : Int32) (x0_37 : Int32) (x0_44 : Int32) (x0_49 : Int32) (x0_50 : Int32) (a1 : Nat → Int32) (a2 : Nat → Int32) (a3 : Nat → Int32) (a4 : Nat → Int32) (a5 : Nat → Int32) : va_W := [(h0, .inr (11, [.ref y0_0, .ref y0_1, .ref y0_2, .ref y0_3, .ref y0_4, .int x0_5, .ref y0_6, .int x0_7, .int x0_8, .int x0_9, .int x0_10, .int x0_11, .int x0_12, .int x0_13, .int x0_14, .int x0_15, .int x0_16, .int x0_17, .ref y0_18, .int x0_19, .int x0_20, .ref y0_21, .ref y0_22, .ref y0_23, .ref y0_24, .ref y0_25, .ref y0_26, .int x0_27, .int x0_28, .int x0_29, .int x0_30, .int x0_31, .int x0_32, .ref y0_33, .ref y0_34, .int x0_35, .int x0_36, .int x0_37, .ref h1, .ref h2, .ref h3, .ref h4, .ref h5, .ref y0_43, .int x0_44, .ref y0_45, .ref y0_46, .ref y0_47, .ref y0_48, .int x0_49, .int x0_50])), (h1, .inl (G.2.1, 240, .inl a1)), (h2, .inl (G.2.1, 240, .inl a2)), (h3, .inl (G.2.1, 240, .inl a3)), (h4, .inl (G.2.1, 240, .inl a4)), (h5, .inl (G.2.1, 240, .inl a5))]
set_option maxHeartbeats 4000000 in
set_option maxRecDepth 100000 in
theorem c_X11_makeSignal (l : Launch) (G : GG) (h0 h1 h2 h3 h4 h5 y0_0 y0_1 y0_2 y0_3 y0_4 y0_6 y0_18 y0_21 y0_22 y0_23 y0_24 y0_25 y0_26 y0_33 y0_34 y0_43 y0_45 y0_46 y0_47 y0_48 : Nat) (sz : Nat) (x0_5 : Int32) (x0_7 : Int32) (x0_8 : Int32) (x0_9 : Int32) (x0_10 : Int32) (x0_11 : Int32) (x0_12 : Int32) (x0_13 : Int32) (x0_14 : Int32) (x0_15 : Int32) (x0_16 : Int32) (x0_17 : Int32) (x0_19 : Int32) (x0_20 : Int32) (x0_27 : Int32) (x0_28 : Int32) (x0_29 : Int32) (x0_30 : Int32) (x0_31 : Int32) (x0_32 : Int32) (x0_35 : Int32) (x0_36 : Int32) (x0_37 : Int32) (x0_44 : Int32) (x0_49 : Int32) (x0_50 : Int32) (a1 : Nat → Int32) (a2 : Nat → Int32) (a3 : Nat → Int32) (a4 : Nat → Int32) (a5 : Nat → Int32) (F : Nat)   (r0 : Int32) (e_x0_44 : Int32) (e_a1 : Nat → Int32) (e_a2 : Nat → Int32) (e_a3 : Nat → Int32) (e_a4 : Nat → Int32) (e_a5 : Nat → Int32) (hf : p_X11_makeSignal F x0_44 a1 a2 a3 a4 a5  = some (r0, e_x0_44, e_a1, e_a2, e_a3, e_a4, e_a5)) : Met l yX11_makeSignal (.code yX11_makeSignal cX11_makeSignal 7 (some .boolean) :: gtbl) ({ frames := 1, cells := 0, slots := 0, locals := 22 } : Room) (PcS G [.ref h0] (wW_X11_makeSignal G h0 h1 h2 h3 h4 h5 y0_0 y0_1 y0_2 y0_3 y0_4 y0_6 y0_18 y0_21 y0_22 y0_23 y0_24 y0_25 y0_26 y0_33 y0_34 y0_43 y0_45 y0_46 y0_47 y0_48 x0_5 x0_7 x0_8 x0_9 x0_10 x0_11 x0_12 x0_13 x0_14 x0_15 x0_16 x0_17 x0_19 x0_20 x0_27 x0_28 x0_29 x0_30 x0_31 x0_32 x0_35 x0_36 x0_37 x0_44 x0_49 x0_50 a1 a2 a3 a4 a5) sz) (QiS G r0 (va_A (wW_X11_makeSignal G h0 h1 h2 h3 h4 h5 y0_0 y0_1 y0_2 y0_3 y0_4 y0_6 y0_18 y0_21 y0_22 y0_23 y0_24 y0_25 y0_26 y0_33 y0_34 y0_43 y0_45 y0_46 y0_47 y0_48 x0_5 x0_7 x0_8 x0_9 x0_10 x0_11 x0_12 x0_13 x0_14 x0_15 x0_16 x0_17 x0_19 x0_20 x0_27 x0_28 x0_29 x0_30 x0_31 x0_32 x0_35 x0_36 x0_37 x0_44 x0_49 x0_50 a1 a2 a3 a4 a5) sz) (wW_X11_makeSignal G h0 h1 h2 h3 h4 h5 y0_0 y0_1 y0_2 y0_3 y0_4 y0_6 y0_18 y0_21 y0_22 y0_23 y0_24 y0_25 y0_26 y0_33 y0_34 y0_43 y0_45 y0_46 y0_47 y0_48 x0_5 x0_7 x0_8 x0_9 x0_10 x0_11 x0_12 x0_13 x0_14 x0_15 x0_16 x0_17 x0_19 x0_20 x0_27 x0_28 x0_29 x0_30 x0_31 x0_32 x0_35 x0_36 x0_37 e_x0_44 x0_49 x0_50 e_a1 e_a2 e_a3 e_a4 e_a5)) 0 0 (va_A (wW_X11_makeSignal G h0 h1 h2 h3 h4 h5 y0_0 y0_1 y0_2 y0_3 y0_4 y0_6 y0_18 y0_21 y0_22 y0_23 y0_24 y0_25 y0_26 y0_33 y0_34 y0_43 y0_45 y0_46 y0_47 y0_48 x0_5 x0_7 x0_8 x0_9 x0_10 x0_11 x0_12 x0_13 x0_14 x0_15 x0_16 x0_17 x0_19 x0_20 x0_27 x0_28 x0_29 x0_30 x0_31 x0_32 x0_35 x0_36 x0_37 x0_44 x0_49 x0_50 a1 a2 a3 a4 a5) sz) := by
  refine met_start (by decide) (Nat.le_of_ble_eq_true rfl) ?_
  intro p e s m below meth c hC hr hlk hnm hK hP hD hA hS hX ls hl
  obtain ⟨hx, hb, hml, hown, ht0⟩ := hC
  have hown : s.vm.findClass RX11 = some m.cls := hown
  generalize va_A (wW_X11_makeSignal G h0 h1 h2 h3 h4 h5 y0_0 y0_1 y0_2 y0_3 y0_4 y0_6 y0_18 y0_21 y0_22 y0_23 y0_24 y0_25 y0_26 y0_33 y0_34 y0_43 y0_45 y0_46 y0_47 y0_48 x0_5 x0_7 x0_8 x0_9 x0_10 x0_11 x0_12 x0_13 x0_14 x0_15 x0_16 x0_17 x0_19 x0_20 x0_27 x0_28 x0_29 x0_30 x0_31 x0_32 x0_35 x0_36 x0_37 x0_44 x0_49 x0_50 a1 a2 a3 a4 a5) sz = A at hD hA hS hX ⊢
  have hl : lv_has ls 7 [(0, .ref h0)] := hl
  have hf : p_X11_makeSignal F x0_44 a1 a2 a3 a4 a5  = some (r0, e_x0_44, e_a1, e_a2, e_a3, e_a4, e_a5) := hf
  have kL9 : ∀ (n9 : Nat) (u9_1 : Int32) (u9_2 : Int32) (u9_3 : Int32) (u9_4 : Int32) (x0_44_9 : Int32) (a1_9 : Nat → Int32) (a2_9 : Nat → Int32) (a3_9 : Nat → Int32) (a4_9 : Nat → Int32) (a5_9 : Nat → Int32), p_X11_makeSignal_L9 F n9 u9_1 u9_2 u9_3 u9_4 x0_44_9 a1_9 a2_9 a3_9 a4_9 a5_9 = some (r0, e_x0_44, e_a1, e_a2, e_a3, e_a4, e_a5) → ∀ (H : Heap) (locs : List Loc), va_P G.1 vwCl (wW_X11_makeSignal G h0 h1 h2 h3 h4 h5 y0_0 y0_1 y0_2 y0_3 y0_4 y0_6 y0_18 y0_21 y0_22 y0_23 y0_24 y0_25 y0_26 y0_33 y0_34 y0_43 y0_45 y0_46 y0_47 y0_48 x0_5 x0_7 x0_8 x0_9 x0_10 x0_11 x0_12 x0_13 x0_14 x0_15 x0_16 x0_17 x0_19 x0_20 x0_27 x0_28 x0_29 x0_30 x0_31 x0_32 x0_35 x0_36 x0_37 x0_44_9 x0_49 x0_50 a1_9 a2_9 a3_9 a4_9 a5_9) H → va_D A (wW_X11_makeSignal G h0 h1 h2 h3 h4 h5 y0_0 y0_1 y0_2 y0_3 y0_4 y0_6 y0_18 y0_21 y0_22 y0_23 y0_24 y0_25 y0_26 y0_33 y0_34 y0_43 y0_45 y0_46 y0_47 y0_48 x0_5 x0_7 x0_8 x0_9 x0_10 x0_11 x0_12 x0_13 x0_14 x0_15 x0_16 x0_17 x0_19 x0_20 x0_27 x0_28 x0_29 x0_30 x0_31 x0_32 x0_35 x0_36 x0_37 x0_44_9 x0_49 x0_50 a1_9 a2_9 a3_9 a4_9 a5_9) → va_S A s.heap H locs → ∀ ls : Array Slot, lv_has ls 7 [(0, .ref h0), (1, .int u9_1), (2, .int u9_2), (3, .int u9_3), (4, .int u9_4)] → W p l e ({ frames := 1, cells := 0, slots := 0, locals := 22 } : Room) s m (List.toArray [.ref h0]) below meth c H locs 0 0 (MQ below (QiS G r0 A (wW_X11_makeSignal G h0 h1 h2 h3 h4 h5 y0_0 y0_1 y0_2 y0_3 y0_4 y0_6 y0_18 y0_21 y0_22 y0_23 y0_24 y0_25 y0_26 y0_33 y0_34 y0_43 y0_45 y0_46 y0_47 y0_48 x0_5 x0_7 x0_8 x0_9 x0_10 x0_11 x0_12 x0_13 x0_14 x0_15 x0_16 x0_17 x0_19 x0_20 x0_27 x0_28 x0_29 x0_30 x0_31 x0_32 x0_35 x0_36 x0_37 e_x0_44 x0_49 x0_50 e_a1 e_a2 e_a3 e_a4 e_a5)) (List.toArray [.ref h0]) s 0 0 A) (F0 m 9 ls []) := by
    intro n9
    induction n9 with
    | zero =>
      intro u9_1 u9_2 u9_3 u9_4 x0_44_9 a1_9 a2_9 a3_9 a4_9 a5_9 hf
      cases hf
    | succ n9 ih9 =>
      have kL24 : ∀ (c24_4 : Int32) (n24 : Nat) (u24_1 : Int32) (u24_2 : Int32) (u24_3 : Int32) (u24_5 : Int32) (x0_44_24 : Int32) (a1_24 : Nat → Int32) (a2_24 : Nat → Int32) (a3_24 : Nat → Int32) (a4_24 : Nat → Int32) (a5_24 : Nat → Int32), p_X11_makeSignal_L24 F c24_4 (p_X11_makeSignal_L9 F n9) n24 u24_1 u24_2 u24_3 u24_5 x0_44_24 a1_24 a2_24 a3_24 a4_24 a5_24 = some (r0, e_x0_44, e_a1, e_a2, e_a3, e_a4, e_a5) → ∀ (H : Heap) (locs : List Loc), va_P G.1 vwCl (wW_X11_makeSignal G h0 h1 h2 h3 h4 h5 y0_0 y0_1 y0_2 y0_3 y0_4 y0_6 y0_18 y0_21 y0_22 y0_23 y0_24 y0_25 y0_26 y0_33 y0_34 y0_43 y0_45 y0_46 y0_47 y0_48 x0_5 x0_7 x0_8 x0_9 x0_10 x0_11 x0_12 x0_13 x0_14 x0_15 x0_16 x0_17 x0_19 x0_20 x0_27 x0_28 x0_29 x0_30 x0_31 x0_32 x0_35 x0_36 x0_37 x0_44_24 x0_49 x0_50 a1_24 a2_24 a3_24 a4_24 a5_24) H → va_D A (wW_X11_makeSignal G h0 h1 h2 h3 h4 h5 y0_0 y0_1 y0_2 y0_3 y0_4 y0_6 y0_18 y0_21 y0_22 y0_23 y0_24 y0_25 y0_26 y0_33 y0_34 y0_43 y0_45 y0_46 y0_47 y0_48 x0_5 x0_7 x0_8 x0_9 x0_10 x0_11 x0_12 x0_13 x0_14 x0_15 x0_16 x0_17 x0_19 x0_20 x0_27 x0_28 x0_29 x0_30 x0_31 x0_32 x0_35 x0_36 x0_37 x0_44_24 x0_49 x0_50 a1_24 a2_24 a3_24 a4_24 a5_24) → va_S A s.heap H locs → ∀ ls : Array Slot, lv_has ls 7 [(0, .ref h0), (1, .int u24_1), (2, .int u24_2), (3, .int u24_3), (4, .int c24_4), (5, .int u24_5)] → W p l e ({ frames := 1, cells := 0, slots := 0, locals := 22 } : Room) s m (List.toArray [.ref h0]) below meth c H locs 0 0 (MQ below (QiS G r0 A (wW_X11_makeSignal G h0 h1 h2 h3 h4 h5 y0_0 y0_1 y0_2 y0_3 y0_4 y0_6 y0_18 y0_21 y0_22 y0_23 y0_24 y0_25 y0_26 y0_33 y0_34 y0_43 y0_45 y0_46 y0_47 y0_48 x0_5 x0_7 x0_8 x0_9 x0_10 x0_11 x0_12 x0_13 x0_14 x0_15 x0_16 x0_17 x0_19 x0_20 x0_27 x0_28 x0_29 x0_30 x0_31 x0_32 x0_35 x0_36 x0_37 e_x0_44 x0_49 x0_50 e_a1 e_a2 e_a3 e_a4 e_a5)) (List.toArray [.ref h0]) s 0 0 A) (F0 m 24 ls []) := by
        intro c24_4 n24
        induction n24 with
        | zero =>
          intro u24_1 u24_2 u24_3 u24_5 x0_44_24 a1_24 a2_24 a3_24 a4_24 a5_24 hf
          cases hf
        | succ n24 ih24 =>
          have kJ71 : ∀ (u71_1 : Int32) (u71_2 : Int32) (u71_3 : Int32) (u71_5 : Int32) (x0_44_71 : Int32) (a1_71 : Nat → Int32) (a2_71 : Nat → Int32) (a3_71 : Nat → Int32) (a4_71 : Nat → Int32) (a5_71 : Nat → Int32), p_X11_makeSignal_J71 F c24_4 (p_X11_makeSignal_L9 F n9) (p_X11_makeSignal_L24 F c24_4 (p_X11_makeSignal_L9 F n9) n24) u71_1 u71_2 u71_3 u71_5 x0_44_71 a1_71 a2_71 a3_71 a4_71 a5_71 = some (r0, e_x0_44, e_a1, e_a2, e_a3, e_a4, e_a5) → ∀ (H : Heap) (locs : List Loc), va_P G.1 vwCl (wW_X11_makeSignal G h0 h1 h2 h3 h4 h5 y0_0 y0_1 y0_2 y0_3 y0_4 y0_6 y0_18 y0_21 y0_22 y0_23 y0_24 y0_25 y0_26 y0_33 y0_34 y0_43 y0_45 y0_46 y0_47 y0_48 x0_5 x0_7 x0_8 x0_9 x0_10 x0_11 x0_12 x0_13 x0_14 x0_15 x0_16 x0_17 x0_19 x0_20 x0_27 x0_28 x0_29 x0_30 x0_31 x0_32 x0_35 x0_36 x0_37 x0_44_71 x0_49 x0_50 a1_71 a2_71 a3_71 a4_71 a5_71) H → va_D A (wW_X11_makeSignal G h0 h1 h2 h3 h4 h5 y0_0 y0_1 y0_2 y0_3 y0_4 y0_6 y0_18 y0_21 y0_22 y0_23 y0_24 y0_25 y0_26 y0_33 y0_34 y0_43 y0_45 y0_46 y0_47 y0_48 x0_5 x0_7 x0_8 x0_9 x0_10 x0_11 x0_12 x0_13 x0_14 x0_15 x0_16 x0_17 x0_19 x0_20 x0_27 x0_28 x0_29 x0_30 x0_31 x0_32 x0_35 x0_36 x0_37 x0_44_71 x0_49 x0_50 a1_71 a2_71 a3_71 a4_71 a5_71) → va_S A s.heap H locs → ∀ ls : Array Slot, lv_has ls 7 [(0, .ref h0), (1, .int u71_1), (2, .int u71_2), (3, .int u71_3), (4, .int c24_4), (5, .int u71_5)] → W p l e ({ frames := 1, cells := 0, slots := 0, locals := 22 } : Room) s m (List.toArray [.ref h0]) below meth c H locs 0 0 (MQ below (QiS G r0 A (wW_X11_makeSignal G h0 h1 h2 h3 h4 h5 y0_0 y0_1 y0_2 y0_3 y0_4 y0_6 y0_18 y0_21 y0_22 y0_23 y0_24 y0_25 y0_26 y0_33 y0_34 y0_43 y0_45 y0_46 y0_47 y0_48 x0_5 x0_7 x0_8 x0_9 x0_10 x0_11 x0_12 x0_13 x0_14 x0_15 x0_16 x0_17 x0_19 x0_20 x0_27 x0_28 x0_29 x0_30 x0_31 x0_32 x0_35 x0_36 x0_37 e_x0_44 x0_49 x0_50 e_a1 e_a2 e_a3 e_a4 e_a5)) (List.toArray [.ref h0]) s 0 0 A) (F0 m 71 ls []) := by
            intro u71_1 u71_2 u71_3 u71_5 x0_44_71 a1_71 a2_71 a3_71 a4_71 a5_71 hf H locs hP hD hS ls hl
            refine lv_iinc (v := u71_5 + (1 : Int32)) (lv' := [(5, .int (u71_5 + (1 : Int32))), (0, .ref h0), (1, .int u71_1), (2, .int u71_2), (3, .int u71_3), (4, .int c24_4)]) hx hb dX11_makeSignal_71 hl (k := 5) rfl (by rfl) (by decide) rfl (fun ls hl => ?_)
            refine lv_goto (tgt := 24) hx hb dX11_makeSignal_74 (by decide) ?_
            exact ih24 _ _ _ _ _ _ _ _ _ _ hf _ _ hP hD hS _ (lv_sub hl [1, 2, 3, 4, 5, 0] rfl)
          intro u24_1 u24_2 u24_3 u24_5 x0_44_24 a1_24 a2_24 a3_24 a4_24 a5_24 hf H locs hP hD hS ls hl
          have hf : p_X11_makeSignal_L24b F c24_4 (p_X11_makeSignal_L9 F n9) (p_X11_makeSignal_L24 F c24_4 (p_X11_makeSignal_L9 F n9) n24) u24_1 u24_2 u24_3 u24_5 x0_44_24 a1_24 a2_24 a3_24 a4_24 a5_24 = some (r0, e_x0_44, e_a1, e_a2, e_a3, e_a4, e_a5) := hf
          refine lv_iload hx hb dX11_makeSignal_24 (lv_at hl 5 rfl) ?_
          refine lv_aload_n hx hb dX11_makeSignal_26 rfl (lv_at hl 0 rfl) ?_
          refine va_get (ci := 11) (v := .int x0_44_24) (C := RX11) (T := TX11) (N := 51) hx hb ht0 iX11 hown hK hP 0 rfl rfl 44 (by decide) (ht0 _ wd_1450) (fun _ h9 => h9) rfl dX11_makeSignal_27 ?_
          refine lv_icmp_ge (tgt := 77) hx hb dX11_makeSignal_30 (by decide) (fun c1 => ?_) (fun c1 => ?_)
          · have hf := of_pos hf c1
            refine lv_iinc (v := c24_4 + (1 : Int32)) (lv' := [(4, .int (c24_4 + (1 : Int32))), (0, .ref h0), (1, .int u24_1), (2, .int u24_2), (3, .int u24_3), (5, .int u24_5)]) hx hb dX11_makeSignal_77 hl (k := 4) rfl (by rfl) (by decide) rfl (fun ls hl => ?_)
            refine lv_goto (tgt := 9) hx hb dX11_makeSignal_80 (by decide) ?_
            exact ih9 _ _ _ _ _ _ _ _ _ _ hf _ _ hP hD hS _ (lv_sub hl [1, 2, 3, 4, 0] rfl)
          · have hf := of_neg hf c1
            refine lv_aload_n hx hb dX11_makeSignal_33 rfl (lv_at hl 0 rfl) ?_
            refine va_get (ci := 11) (v := .ref h1) (C := RX11) (T := TX11) (N := 51) hx hb ht0 iX11 hown hK hP 0 rfl rfl 38 (by decide) (ht0 _ wd_1444) (fun _ h9 => h9) rfl dX11_makeSignal_34 ?_
            refine lv_iload hx hb dX11_makeSignal_37 (lv_at hl 4 rfl) ?_
            obtain ⟨g2, hf⟩ := of_grd hf
            refine va_iald hx hb hK hP 1 0 rfl rfl g2 dX11_makeSignal_39 ?_
            refine lv_aload_n hx hb dX11_makeSignal_40 rfl (lv_at hl 0 rfl) ?_
            refine va_get (ci := 11) (v := .ref h1) (C := RX11) (T := TX11) (N := 51) hx hb ht0 iX11 hown hK hP 0 rfl rfl 38 (by decide) (ht0 _ wd_1444) (fun _ h9 => h9) rfl dX11_makeSignal_41 ?_
            refine lv_iload hx hb dX11_makeSignal_44 (lv_at hl 5 rfl) ?_
            obtain ⟨g3, hf⟩ := of_grd hf
            refine va_iald hx hb hK hP 1 0 rfl rfl g3 dX11_makeSignal_46 ?_
            refine lv_iand hx hb dX11_makeSignal_47 ?_
            obtain ⟨r_48_3, hc_r_48_3, hf⟩ := of_bnd hf
            refine cl_Si (w2 := (wW_X11_makeSignal G h0 h1 h2 h3 h4 h5 y0_0 y0_1 y0_2 y0_3 y0_4 y0_6 y0_18 y0_21 y0_22 y0_23 y0_24 y0_25 y0_26 y0_33 y0_34 y0_43 y0_45 y0_46 y0_47 y0_48 x0_5 x0_7 x0_8 x0_9 x0_10 x0_11 x0_12 x0_13 x0_14 x0_15 x0_16 x0_17 x0_19 x0_20 x0_27 x0_28 x0_29 x0_30 x0_31 x0_32 x0_35 x0_36 x0_37 x0_44_24 x0_49 x0_50 a1_24 a2_24 a3_24 a4_24 a5_24)) (As := [.int ((a1_24 c24_4.toNatClampNeg) &&& (a1_24 u24_5.toNatClampNeg))]) (rest := []) ⟨hx, hb, hml, hown, ht0⟩ (c_X11_ones l G _ F ((a1_24 c24_4.toNatClampNeg) &&& (a1_24 u24_5.toNatClampNeg)) _ hc_r_48_3) yk_X11_ones wd_1344 ⟨rfl, rfl, by decide, by decide⟩ ⟨Nat.le_refl _, Nat.le_refl _⟩ hX hK hP hD hS hA [] [0, 1, 2, 3, 4, 5] [0, 1, 2, 3, 4, 5] rfl rfl (by decide) rfl rfl rfl rfl rfl hl.1 rfl (Nat.le_of_ble_eq_true rfl) dX11_makeSignal_48 (fun H locs hP hD hS => ?_)
            refine lv_istore (lv' := [(6, .int r_48_3), (0, .ref h0), (1, .int u24_1), (2, .int u24_2), (3, .int u24_3), (4, .int c24_4), (5, .int u24_5)]) hx hb dX11_makeSignal_51 hl (by decide) rfl (fun ls hl => ?_)
            refine lv_iload hx hb dX11_makeSignal_53 (lv_at hl 0 rfl) ?_
            refine lv_iload_n hx hb dX11_makeSignal_55 rfl (lv_at hl 2 rfl) ?_
            refine lv_icmp_gt (tgt := 62) hx hb dX11_makeSignal_56 (by decide) (fun c5 => ?_) (fun c5 => ?_)
            · have hf := of_pos hf c5
              refine lv_iload hx hb dX11_makeSignal_62 (lv_at hl 0 rfl) ?_
              refine lv_istore_n (lv' := [(1, .int r_48_3), (6, .int r_48_3), (0, .ref h0), (2, .int u24_2), (3, .int u24_3), (4, .int c24_4), (5, .int u24_5)]) hx hb dX11_makeSignal_64 rfl hl (by decide) rfl (fun ls hl => ?_)
              refine lv_iload hx hb dX11_makeSignal_65 (lv_at hl 5 rfl) ?_
              refine lv_istore_n (lv' := [(2, .int c24_4), (1, .int r_48_3), (6, .int r_48_3), (0, .ref h0), (3, .int u24_3), (4, .int c24_4), (5, .int u24_5)]) hx hb dX11_makeSignal_67 rfl hl (by decide) rfl (fun ls hl => ?_)
              refine lv_iload hx hb dX11_makeSignal_68 (lv_at hl 6 rfl) ?_
              refine lv_istore_n (lv' := [(3, .int u24_5), (2, .int c24_4), (1, .int r_48_3), (6, .int r_48_3), (0, .ref h0), (4, .int c24_4), (5, .int u24_5)]) hx hb dX11_makeSignal_70 rfl hl (by decide) rfl (fun ls hl => ?_)
              exact kJ71 _ _ _ _ _ _ _ _ _ _ hf _ _ hP hD hS _ (lv_sub hl [4, 2, 1, 0, 5, 6] rfl)
            · have hf := of_neg hf c5
              refine lv_goto (tgt := 71) hx hb dX11_makeSignal_59 (by decide) ?_
              exact kJ71 _ _ _ _ _ _ _ _ _ _ hf _ _ hP hD hS _ (lv_sub hl [1, 2, 3, 4, 5, 6] rfl)
      intro u9_1 u9_2 u9_3 u9_4 x0_44_9 a1_9 a2_9 a3_9 a4_9 a5_9 hf H locs hP hD hS ls hl
      have hf : p_X11_makeSignal_L9b F (p_X11_makeSignal_L9 F n9) u9_1 u9_2 u9_3 u9_4 x0_44_9 a1_9 a2_9 a3_9 a4_9 a5_9 = some (r0, e_x0_44, e_a1, e_a2, e_a3, e_a4, e_a5) := hf
      refine lv_iload hx hb dX11_makeSignal_9 (lv_at hl 4 rfl) ?_
      refine lv_aload_n hx hb dX11_makeSignal_11 rfl (lv_at hl 0 rfl) ?_
      refine va_get (ci := 11) (v := .int x0_44_9) (C := RX11) (T := TX11) (N := 51) hx hb ht0 iX11 hown hK hP 0 rfl rfl 44 (by decide) (ht0 _ wd_1450) (fun _ h9 => h9) rfl dX11_makeSignal_12 ?_
      refine lv_icmp_ge (tgt := 83) hx hb dX11_makeSignal_15 (by decide) (fun c6 => ?_) (fun c6 => ?_)
      · have hf := of_pos hf c6
        refine lv_iload_n hx hb dX11_makeSignal_83 rfl (lv_at hl 2 rfl) ?_
        refine lv_if_ge (tgt := 89) hx hb dX11_makeSignal_84 (by decide) (fun c7 => ?_) (fun c7 => ?_)
        · have hf := of_pos hf c7
          refine lv_aload_n hx hb dX11_makeSignal_89 rfl (lv_at hl 0 rfl) ?_
          refine va_get (ci := 11) (v := .ref h1) (C := RX11) (T := TX11) (N := 51) hx hb ht0 iX11 hown hK hP 0 rfl rfl 38 (by decide) (ht0 _ wd_1444) (fun _ h9 => h9) rfl dX11_makeSignal_90 ?_
          refine lv_iload_n hx hb dX11_makeSignal_93 rfl (lv_at hl 2 rfl) ?_
          obtain ⟨g8, hf⟩ := of_grd hf
          refine va_iald hx hb hK hP 1 0 rfl rfl g8 dX11_makeSignal_94 ?_
          refine lv_aload_n hx hb dX11_makeSignal_95 rfl (lv_at hl 0 rfl) ?_
          refine va_get (ci := 11) (v := .ref h1) (C := RX11) (T := TX11) (N := 51) hx hb ht0 iX11 hown hK hP 0 rfl rfl 38 (by decide) (ht0 _ wd_1444) (fun _ h9 => h9) rfl dX11_makeSignal_96 ?_
          refine lv_iload_n hx hb dX11_makeSignal_99 rfl (lv_at hl 3 rfl) ?_
          obtain ⟨g9, hf⟩ := of_grd hf
          refine va_iald hx hb hK hP 1 0 rfl rfl g9 dX11_makeSignal_100 ?_
          refine lv_iand hx hb dX11_makeSignal_101 ?_
          refine lv_topi (fun z10 ez10 => ?_)
          have hf := of_jlet hf ez10
          refine lv_istore (lv' := [(4, .int z10), (0, .ref h0), (1, .int u9_1), (2, .int u9_2), (3, .int u9_3)]) hx hb dX11_makeSignal_102 hl (by decide) rfl (fun ls hl => ?_)
          refine lv_aload_n hx hb dX11_makeSignal_104 rfl (lv_at hl 1 rfl) ?_
          refine va_get (ci := 11) (v := .ref h1) (C := RX11) (T := TX11) (N := 51) hx hb ht0 iX11 hown hK hP 0 rfl rfl 38 (by decide) (ht0 _ wd_1444) (fun _ h9 => h9) rfl dX11_makeSignal_105 ?_
          refine lv_aload_n hx hb dX11_makeSignal_108 rfl (lv_at hl 1 rfl) ?_
          refine va_get (ci := 11) (v := .int x0_44_9) (C := RX11) (T := TX11) (N := 51) hx hb ht0 iX11 hown hK hP 0 rfl rfl 44 (by decide) (ht0 _ wd_1450) (fun _ h9 => h9) rfl dX11_makeSignal_109 ?_
          refine lv_iload hx hb dX11_makeSignal_112 (lv_at hl 0 rfl) ?_
          obtain ⟨g11, hf⟩ := of_grd hf
          refine va_iast hx hb hK hP hD hS 1 0 rfl rfl g11 dX11_makeSignal_114 (fun H locs hP hD hS => ?_)
          have hP : va_P G.1 vwCl (wW_X11_makeSignal G h0 h1 h2 h3 h4 h5 y0_0 y0_1 y0_2 y0_3 y0_4 y0_6 y0_18 y0_21 y0_22 y0_23 y0_24 y0_25 y0_26 y0_33 y0_34 y0_43 y0_45 y0_46 y0_47 y0_48 x0_5 x0_7 x0_8 x0_9 x0_10 x0_11 x0_12 x0_13 x0_14 x0_15 x0_16 x0_17 x0_19 x0_20 x0_27 x0_28 x0_29 x0_30 x0_31 x0_32 x0_35 x0_36 x0_37 x0_44_9 x0_49 x0_50 (upd a1_9 x0_44_9.toNatClampNeg z10) a2_9 a3_9 a4_9 a5_9) H := hP
          have hD : va_D A (wW_X11_makeSignal G h0 h1 h2 h3 h4 h5 y0_0 y0_1 y0_2 y0_3 y0_4 y0_6 y0_18 y0_21 y0_22 y0_23 y0_24 y0_25 y0_26 y0_33 y0_34 y0_43 y0_45 y0_46 y0_47 y0_48 x0_5 x0_7 x0_8 x0_9 x0_10 x0_11 x0_12 x0_13 x0_14 x0_15 x0_16 x0_17 x0_19 x0_20 x0_27 x0_28 x0_29 x0_30 x0_31 x0_32 x0_35 x0_36 x0_37 x0_44_9 x0_49 x0_50 (upd a1_9 x0_44_9.toNatClampNeg z10) a2_9 a3_9 a4_9 a5_9) := hD
          refine lv_aload_n hx hb dX11_makeSignal_115 rfl (lv_at hl 1 rfl) ?_
          refine va_get (ci := 11) (v := .ref h1) (C := RX11) (T := TX11) (N := 51) hx hb ht0 iX11 hown hK hP 0 rfl rfl 38 (by decide) (ht0 _ wd_1444) (fun _ h9 => h9) rfl dX11_makeSignal_116 ?_
          refine lv_iload_n hx hb dX11_makeSignal_119 rfl (lv_at hl 3 rfl) ?_
          refine lv_dup2_11 hx hb dX11_makeSignal_120 rfl rfl ?_
          obtain ⟨g12, hf⟩ := of_grd hf
          refine va_iald hx hb hK hP 1 0 rfl rfl g12 dX11_makeSignal_121 ?_
          refine lv_iload hx hb dX11_makeSignal_122 (lv_at hl 0 rfl) ?_
          refine lv_iconst (v := (-1 : Int32)) hx hb dX11_makeSignal_124 (by decide) ?_
          refine lv_ixor hx hb dX11_makeSignal_125 ?_
          refine lv_iand hx hb dX11_makeSignal_126 ?_
          obtain ⟨g13, hf⟩ := of_grd hf
          refine va_iast hx hb hK hP hD hS 1 0 rfl rfl g13 dX11_makeSignal_127 (fun H locs hP hD hS => ?_)
          have hP : va_P G.1 vwCl (wW_X11_makeSignal G h0 h1 h2 h3 h4 h5 y0_0 y0_1 y0_2 y0_3 y0_4 y0_6 y0_18 y0_21 y0_22 y0_23 y0_24 y0_25 y0_26 y0_33 y0_34 y0_43 y0_45 y0_46 y0_47 y0_48 x0_5 x0_7 x0_8 x0_9 x0_10 x0_11 x0_12 x0_13 x0_14 x0_15 x0_16 x0_17 x0_19 x0_20 x0_27 x0_28 x0_29 x0_30 x0_31 x0_32 x0_35 x0_36 x0_37 x0_44_9 x0_49 x0_50 (upd (upd a1_9 x0_44_9.toNatClampNeg z10) u9_2.toNatClampNeg (((upd a1_9 x0_44_9.toNatClampNeg z10) u9_2.toNatClampNeg) &&& (z10 ^^^ (-1 : Int32)))) a2_9 a3_9 a4_9 a5_9) H := hP
          have hD : va_D A (wW_X11_makeSignal G h0 h1 h2 h3 h4 h5 y0_0 y0_1 y0_2 y0_3 y0_4 y0_6 y0_18 y0_21 y0_22 y0_23 y0_24 y0_25 y0_26 y0_33 y0_34 y0_43 y0_45 y0_46 y0_47 y0_48 x0_5 x0_7 x0_8 x0_9 x0_10 x0_11 x0_12 x0_13 x0_14 x0_15 x0_16 x0_17 x0_19 x0_20 x0_27 x0_28 x0_29 x0_30 x0_31 x0_32 x0_35 x0_36 x0_37 x0_44_9 x0_49 x0_50 (upd (upd a1_9 x0_44_9.toNatClampNeg z10) u9_2.toNatClampNeg (((upd a1_9 x0_44_9.toNatClampNeg z10) u9_2.toNatClampNeg) &&& (z10 ^^^ (-1 : Int32)))) a2_9 a3_9 a4_9 a5_9) := hD
          refine lv_aload_n hx hb dX11_makeSignal_128 rfl (lv_at hl 1 rfl) ?_
          refine va_get (ci := 11) (v := .ref h1) (C := RX11) (T := TX11) (N := 51) hx hb ht0 iX11 hown hK hP 0 rfl rfl 38 (by decide) (ht0 _ wd_1444) (fun _ h9 => h9) rfl dX11_makeSignal_129 ?_
          refine lv_iload_n hx hb dX11_makeSignal_132 rfl (lv_at hl 4 rfl) ?_
          refine lv_dup2_11 hx hb dX11_makeSignal_133 rfl rfl ?_
          obtain ⟨g14, hf⟩ := of_grd hf
          refine va_iald hx hb hK hP 1 0 rfl rfl g14 dX11_makeSignal_134 ?_
          refine lv_iload hx hb dX11_makeSignal_135 (lv_at hl 0 rfl) ?_
          refine lv_iconst (v := (-1 : Int32)) hx hb dX11_makeSignal_137 (by decide) ?_
          refine lv_ixor hx hb dX11_makeSignal_138 ?_
          refine lv_iand hx hb dX11_makeSignal_139 ?_
          obtain ⟨g15, hf⟩ := of_grd hf
          refine va_iast hx hb hK hP hD hS 1 0 rfl rfl g15 dX11_makeSignal_140 (fun H locs hP hD hS => ?_)
          have hP : va_P G.1 vwCl (wW_X11_makeSignal G h0 h1 h2 h3 h4 h5 y0_0 y0_1 y0_2 y0_3 y0_4 y0_6 y0_18 y0_21 y0_22 y0_23 y0_24 y0_25 y0_26 y0_33 y0_34 y0_43 y0_45 y0_46 y0_47 y0_48 x0_5 x0_7 x0_8 x0_9 x0_10 x0_11 x0_12 x0_13 x0_14 x0_15 x0_16 x0_17 x0_19 x0_20 x0_27 x0_28 x0_29 x0_30 x0_31 x0_32 x0_35 x0_36 x0_37 x0_44_9 x0_49 x0_50 (upd (upd (upd a1_9 x0_44_9.toNatClampNeg z10) u9_2.toNatClampNeg (((upd a1_9 x0_44_9.toNatClampNeg z10) u9_2.toNatClampNeg) &&& (z10 ^^^ (-1 : Int32)))) u9_3.toNatClampNeg (((upd (upd a1_9 x0_44_9.toNatClampNeg z10) u9_2.toNatClampNeg (((upd a1_9 x0_44_9.toNatClampNeg z10) u9_2.toNatClampNeg) &&& (z10 ^^^ (-1 : Int32)))) u9_3.toNatClampNeg) &&& (z10 ^^^ (-1 : Int32)))) a2_9 a3_9 a4_9 a5_9) H := hP
          have hD : va_D A (wW_X11_makeSignal G h0 h1 h2 h3 h4 h5 y0_0 y0_1 y0_2 y0_3 y0_4 y0_6 y0_18 y0_21 y0_22 y0_23 y0_24 y0_25 y0_26 y0_33 y0_34 y0_43 y0_45 y0_46 y0_47 y0_48 x0_5 x0_7 x0_8 x0_9 x0_10 x0_11 x0_12 x0_13 x0_14 x0_15 x0_16 x0_17 x0_19 x0_20 x0_27 x0_28 x0_29 x0_30 x0_31 x0_32 x0_35 x0_36 x0_37 x0_44_9 x0_49 x0_50 (upd (upd (upd a1_9 x0_44_9.toNatClampNeg z10) u9_2.toNatClampNeg (((upd a1_9 x0_44_9.toNatClampNeg z10) u9_2.toNatClampNeg) &&& (z10 ^^^ (-1 : Int32)))) u9_3.toNatClampNeg (((upd (upd a1_9 x0_44_9.toNatClampNeg z10) u9_2.toNatClampNeg (((upd a1_9 x0_44_9.toNatClampNeg z10) u9_2.toNatClampNeg) &&& (z10 ^^^ (-1 : Int32)))) u9_3.toNatClampNeg) &&& (z10 ^^^ (-1 : Int32)))) a2_9 a3_9 a4_9 a5_9) := hD
          refine lv_aload_n hx hb dX11_makeSignal_141 rfl (lv_at hl 1 rfl) ?_
          refine va_get (ci := 11) (v := .ref h2) (C := RX11) (T := TX11) (N := 51) hx hb ht0 iX11 hown hK hP 0 rfl rfl 39 (by decide) (ht0 _ wd_1445) (fun _ h9 => h9) rfl dX11_makeSignal_142 ?_
          refine lv_aload_n hx hb dX11_makeSignal_145 rfl (lv_at hl 1 rfl) ?_
          refine va_get (ci := 11) (v := .int x0_44_9) (C := RX11) (T := TX11) (N := 51) hx hb ht0 iX11 hown hK hP 0 rfl rfl 44 (by decide) (ht0 _ wd_1450) (fun _ h9 => h9) rfl dX11_makeSignal_146 ?_
          refine lv_iconst (v := (1 : Int32)) hx hb dX11_makeSignal_149 (by decide) ?_
          refine lv_aload_n hx hb dX11_makeSignal_150 rfl (lv_at hl 1 rfl) ?_
          refine va_get (ci := 11) (v := .ref h2) (C := RX11) (T := TX11) (N := 51) hx hb ht0 iX11 hown hK hP 0 rfl rfl 39 (by decide) (ht0 _ wd_1445) (fun _ h9 => h9) rfl dX11_makeSignal_151 ?_
          refine lv_iload_n hx hb dX11_makeSignal_154 rfl (lv_at hl 3 rfl) ?_
          obtain ⟨g16, hf⟩ := of_grd hf
          refine va_iald hx hb hK hP 2 0 rfl rfl g16 dX11_makeSignal_155 ?_
          refine lv_aload_n hx hb dX11_makeSignal_156 rfl (lv_at hl 1 rfl) ?_
          refine va_get (ci := 11) (v := .ref h2) (C := RX11) (T := TX11) (N := 51) hx hb ht0 iX11 hown hK hP 0 rfl rfl 39 (by decide) (ht0 _ wd_1445) (fun _ h9 => h9) rfl dX11_makeSignal_157 ?_
          refine lv_iload_n hx hb dX11_makeSignal_160 rfl (lv_at hl 4 rfl) ?_
          obtain ⟨g17, hf⟩ := of_grd hf
          refine va_iald hx hb hK hP 2 0 rfl rfl g17 dX11_makeSignal_161 ?_
          obtain ⟨r_162_17, hc_r_162_17, hf⟩ := of_bnd hf
          refine cl_Si (w2 := (wW_X11_makeSignal G h0 h1 h2 h3 h4 h5 y0_0 y0_1 y0_2 y0_3 y0_4 y0_6 y0_18 y0_21 y0_22 y0_23 y0_24 y0_25 y0_26 y0_33 y0_34 y0_43 y0_45 y0_46 y0_47 y0_48 x0_5 x0_7 x0_8 x0_9 x0_10 x0_11 x0_12 x0_13 x0_14 x0_15 x0_16 x0_17 x0_19 x0_20 x0_27 x0_28 x0_29 x0_30 x0_31 x0_32 x0_35 x0_36 x0_37 x0_44_9 x0_49 x0_50 (upd (upd (upd a1_9 x0_44_9.toNatClampNeg z10) u9_2.toNatClampNeg (((upd a1_9 x0_44_9.toNatClampNeg z10) u9_2.toNatClampNeg) &&& (z10 ^^^ (-1 : Int32)))) u9_3.toNatClampNeg (((upd (upd a1_9 x0_44_9.toNatClampNeg z10) u9_2.toNatClampNeg (((upd a1_9 x0_44_9.toNatClampNeg z10) u9_2.toNatClampNeg) &&& (z10 ^^^ (-1 : Int32)))) u9_3.toNatClampNeg) &&& (z10 ^^^ (-1 : Int32)))) a2_9 a3_9 a4_9 a5_9)) (As := [.int (a2_9 u9_2.toNatClampNeg), .int (a2_9 u9_3.toNatClampNeg)]) (rest := [.int (1 : Int32), .int x0_44_9, .ref h2]) ⟨hx, hb, hml, hown, ht0⟩ (c_X11_more l G _ F (a2_9 u9_2.toNatClampNeg) (a2_9 u9_3.toNatClampNeg) _ hc_r_162_17) yk_X11_more wd_1372 ⟨rfl, rfl, by decide, by decide⟩ ⟨Nat.le_refl _, Nat.le_refl _⟩ hX hK hP hD hS hA [] [0, 1, 2, 3, 4, 5] [0, 1, 2, 3, 4, 5] rfl rfl (by decide) rfl rfl rfl rfl rfl hl.1 rfl (Nat.le_of_ble_eq_true rfl) dX11_makeSignal_162 (fun H locs hP hD hS => ?_)
          refine lv_iadd hx hb dX11_makeSignal_165 ?_
          obtain ⟨g19, hf⟩ := of_grd hf
          refine va_iast hx hb hK hP hD hS 2 0 rfl rfl g19 dX11_makeSignal_166 (fun H locs hP hD hS => ?_)
          have hP : va_P G.1 vwCl (wW_X11_makeSignal G h0 h1 h2 h3 h4 h5 y0_0 y0_1 y0_2 y0_3 y0_4 y0_6 y0_18 y0_21 y0_22 y0_23 y0_24 y0_25 y0_26 y0_33 y0_34 y0_43 y0_45 y0_46 y0_47 y0_48 x0_5 x0_7 x0_8 x0_9 x0_10 x0_11 x0_12 x0_13 x0_14 x0_15 x0_16 x0_17 x0_19 x0_20 x0_27 x0_28 x0_29 x0_30 x0_31 x0_32 x0_35 x0_36 x0_37 x0_44_9 x0_49 x0_50 (upd (upd (upd a1_9 x0_44_9.toNatClampNeg z10) u9_2.toNatClampNeg (((upd a1_9 x0_44_9.toNatClampNeg z10) u9_2.toNatClampNeg) &&& (z10 ^^^ (-1 : Int32)))) u9_3.toNatClampNeg (((upd (upd a1_9 x0_44_9.toNatClampNeg z10) u9_2.toNatClampNeg (((upd a1_9 x0_44_9.toNatClampNeg z10) u9_2.toNatClampNeg) &&& (z10 ^^^ (-1 : Int32)))) u9_3.toNatClampNeg) &&& (z10 ^^^ (-1 : Int32)))) (upd a2_9 x0_44_9.toNatClampNeg ((1 : Int32) + r_162_17)) a3_9 a4_9 a5_9) H := hP
          have hD : va_D A (wW_X11_makeSignal G h0 h1 h2 h3 h4 h5 y0_0 y0_1 y0_2 y0_3 y0_4 y0_6 y0_18 y0_21 y0_22 y0_23 y0_24 y0_25 y0_26 y0_33 y0_34 y0_43 y0_45 y0_46 y0_47 y0_48 x0_5 x0_7 x0_8 x0_9 x0_10 x0_11 x0_12 x0_13 x0_14 x0_15 x0_16 x0_17 x0_19 x0_20 x0_27 x0_28 x0_29 x0_30 x0_31 x0_32 x0_35 x0_36 x0_37 x0_44_9 x0_49 x0_50 (upd (upd (upd a1_9 x0_44_9.toNatClampNeg z10) u9_2.toNatClampNeg (((upd a1_9 x0_44_9.toNatClampNeg z10) u9_2.toNatClampNeg) &&& (z10 ^^^ (-1 : Int32)))) u9_3.toNatClampNeg (((upd (upd a1_9 x0_44_9.toNatClampNeg z10) u9_2.toNatClampNeg (((upd a1_9 x0_44_9.toNatClampNeg z10) u9_2.toNatClampNeg) &&& (z10 ^^^ (-1 : Int32)))) u9_3.toNatClampNeg) &&& (z10 ^^^ (-1 : Int32)))) (upd a2_9 x0_44_9.toNatClampNeg ((1 : Int32) + r_162_17)) a3_9 a4_9 a5_9) := hD
          refine lv_aload_n hx hb dX11_makeSignal_167 rfl (lv_at hl 1 rfl) ?_
          refine va_get (ci := 11) (v := .ref h3) (C := RX11) (T := TX11) (N := 51) hx hb ht0 iX11 hown hK hP 0 rfl rfl 40 (by decide) (ht0 _ wd_1446) (fun _ h9 => h9) rfl dX11_makeSignal_168 ?_
          refine lv_aload_n hx hb dX11_makeSignal_171 rfl (lv_at hl 1 rfl) ?_
          refine va_get (ci := 11) (v := .int x0_44_9) (C := RX11) (T := TX11) (N := 51) hx hb ht0 iX11 hown hK hP 0 rfl rfl 44 (by decide) (ht0 _ wd_1450) (fun _ h9 => h9) rfl dX11_makeSignal_172 ?_
          refine lv_iload_n hx hb dX11_makeSignal_175 rfl (lv_at hl 3 rfl) ?_
          obtain ⟨g20, hf⟩ := of_grd hf
          refine va_iast hx hb hK hP hD hS 3 0 rfl rfl g20 dX11_makeSignal_176 (fun H locs hP hD hS => ?_)
          have hP : va_P G.1 vwCl (wW_X11_makeSignal G h0 h1 h2 h3 h4 h5 y0_0 y0_1 y0_2 y0_3 y0_4 y0_6 y0_18 y0_21 y0_22 y0_23 y0_24 y0_25 y0_26 y0_33 y0_34 y0_43 y0_45 y0_46 y0_47 y0_48 x0_5 x0_7 x0_8 x0_9 x0_10 x0_11 x0_12 x0_13 x0_14 x0_15 x0_16 x0_17 x0_19 x0_20 x0_27 x0_28 x0_29 x0_30 x0_31 x0_32 x0_35 x0_36 x0_37 x0_44_9 x0_49 x0_50 (upd (upd (upd a1_9 x0_44_9.toNatClampNeg z10) u9_2.toNatClampNeg (((upd a1_9 x0_44_9.toNatClampNeg z10) u9_2.toNatClampNeg) &&& (z10 ^^^ (-1 : Int32)))) u9_3.toNatClampNeg (((upd (upd a1_9 x0_44_9.toNatClampNeg z10) u9_2.toNatClampNeg (((upd a1_9 x0_44_9.toNatClampNeg z10) u9_2.toNatClampNeg) &&& (z10 ^^^ (-1 : Int32)))) u9_3.toNatClampNeg) &&& (z10 ^^^ (-1 : Int32)))) (upd a2_9 x0_44_9.toNatClampNeg ((1 : Int32) + r_162_17)) (upd a3_9 x0_44_9.toNatClampNeg u9_2) a4_9 a5_9) H := hP
          have hD : va_D A (wW_X11_makeSignal G h0 h1 h2 h3 h4 h5 y0_0 y0_1 y0_2 y0_3 y0_4 y0_6 y0_18 y0_21 y0_22 y0_23 y0_24 y0_25 y0_26 y0_33 y0_34 y0_43 y0_45 y0_46 y0_47 y0_48 x0_5 x0_7 x0_8 x0_9 x0_10 x0_11 x0_12 x0_13 x0_14 x0_15 x0_16 x0_17 x0_19 x0_20 x0_27 x0_28 x0_29 x0_30 x0_31 x0_32 x0_35 x0_36 x0_37 x0_44_9 x0_49 x0_50 (upd (upd (upd a1_9 x0_44_9.toNatClampNeg z10) u9_2.toNatClampNeg (((upd a1_9 x0_44_9.toNatClampNeg z10) u9_2.toNatClampNeg) &&& (z10 ^^^ (-1 : Int32)))) u9_3.toNatClampNeg (((upd (upd a1_9 x0_44_9.toNatClampNeg z10) u9_2.toNatClampNeg (((upd a1_9 x0_44_9.toNatClampNeg z10) u9_2.toNatClampNeg) &&& (z10 ^^^ (-1 : Int32)))) u9_3.toNatClampNeg) &&& (z10 ^^^ (-1 : Int32)))) (upd a2_9 x0_44_9.toNatClampNeg ((1 : Int32) + r_162_17)) (upd a3_9 x0_44_9.toNatClampNeg u9_2) a4_9 a5_9) := hD
          refine lv_aload_n hx hb dX11_makeSignal_177 rfl (lv_at hl 1 rfl) ?_
          refine va_get (ci := 11) (v := .ref h4) (C := RX11) (T := TX11) (N := 51) hx hb ht0 iX11 hown hK hP 0 rfl rfl 41 (by decide) (ht0 _ wd_1447) (fun _ h9 => h9) rfl dX11_makeSignal_178 ?_
          refine lv_aload_n hx hb dX11_makeSignal_181 rfl (lv_at hl 1 rfl) ?_
          refine va_get (ci := 11) (v := .int x0_44_9) (C := RX11) (T := TX11) (N := 51) hx hb ht0 iX11 hown hK hP 0 rfl rfl 44 (by decide) (ht0 _ wd_1450) (fun _ h9 => h9) rfl dX11_makeSignal_182 ?_
          refine lv_iload_n hx hb dX11_makeSignal_185 rfl (lv_at hl 4 rfl) ?_
          obtain ⟨g21, hf⟩ := of_grd hf
          refine va_iast hx hb hK hP hD hS 4 0 rfl rfl g21 dX11_makeSignal_186 (fun H locs hP hD hS => ?_)
          have hP : va_P G.1 vwCl (wW_X11_makeSignal G h0 h1 h2 h3 h4 h5 y0_0 y0_1 y0_2 y0_3 y0_4 y0_6 y0_18 y0_21 y0_22 y0_23 y0_24 y0_25 y0_26 y0_33 y0_34 y0_43 y0_45 y0_46 y0_47 y0_48 x0_5 x0_7 x0_8 x0_9 x0_10 x0_11 x0_12 x0_13 x0_14 x0_15 x0_16 x0_17 x0_19 x0_20 x0_27 x0_28 x0_29 x0_30 x0_31 x0_32 x0_35 x0_36 x0_37 x0_44_9 x0_49 x0_50 (upd (upd (upd a1_9 x0_44_9.toNatClampNeg z10) u9_2.toNatClampNeg (((upd a1_9 x0_44_9.toNatClampNeg z10) u9_2.toNatClampNeg) &&& (z10 ^^^ (-1 : Int32)))) u9_3.toNatClampNeg (((upd (upd a1_9 x0_44_9.toNatClampNeg z10) u9_2.toNatClampNeg (((upd a1_9 x0_44_9.toNatClampNeg z10) u9_2.toNatClampNeg) &&& (z10 ^^^ (-1 : Int32)))) u9_3.toNatClampNeg) &&& (z10 ^^^ (-1 : Int32)))) (upd a2_9 x0_44_9.toNatClampNeg ((1 : Int32) + r_162_17)) (upd a3_9 x0_44_9.toNatClampNeg u9_2) (upd a4_9 x0_44_9.toNatClampNeg u9_3) a5_9) H := hP
          have hD : va_D A (wW_X11_makeSignal G h0 h1 h2 h3 h4 h5 y0_0 y0_1 y0_2 y0_3 y0_4 y0_6 y0_18 y0_21 y0_22 y0_23 y0_24 y0_25 y0_26 y0_33 y0_34 y0_43 y0_45 y0_46 y0_47 y0_48 x0_5 x0_7 x0_8 x0_9 x0_10 x0_11 x0_12 x0_13 x0_14 x0_15 x0_16 x0_17 x0_19 x0_20 x0_27 x0_28 x0_29 x0_30 x0_31 x0_32 x0_35 x0_36 x0_37 x0_44_9 x0_49 x0_50 (upd (upd (upd a1_9 x0_44_9.toNatClampNeg z10) u9_2.toNatClampNeg (((upd a1_9 x0_44_9.toNatClampNeg z10) u9_2.toNatClampNeg) &&& (z10 ^^^ (-1 : Int32)))) u9_3.toNatClampNeg (((upd (upd a1_9 x0_44_9.toNatClampNeg z10) u9_2.toNatClampNeg (((upd a1_9 x0_44_9.toNatClampNeg z10) u9_2.toNatClampNeg) &&& (z10 ^^^ (-1 : Int32)))) u9_3.toNatClampNeg) &&& (z10 ^^^ (-1 : Int32)))) (upd a2_9 x0_44_9.toNatClampNeg ((1 : Int32) + r_162_17)) (upd a3_9 x0_44_9.toNatClampNeg u9_2) (upd a4_9 x0_44_9.toNatClampNeg u9_3) a5_9) := hD
          refine lv_aload_n hx hb dX11_makeSignal_187 rfl (lv_at hl 1 rfl) ?_
          refine va_get (ci := 11) (v := .ref h5) (C := RX11) (T := TX11) (N := 51) hx hb ht0 iX11 hown hK hP 0 rfl rfl 42 (by decide) (ht0 _ wd_1448) (fun _ h9 => h9) rfl dX11_makeSignal_188 ?_
          refine lv_aload_n hx hb dX11_makeSignal_191 rfl (lv_at hl 1 rfl) ?_
          refine va_get (ci := 11) (v := .int x0_44_9) (C := RX11) (T := TX11) (N := 51) hx hb ht0 iX11 hown hK hP 0 rfl rfl 44 (by decide) (ht0 _ wd_1450) (fun _ h9 => h9) rfl dX11_makeSignal_192 ?_
          refine lv_iload_n hx hb dX11_makeSignal_195 rfl (lv_at hl 2 rfl) ?_
          obtain ⟨g22, hf⟩ := of_grd hf
          refine va_iast hx hb hK hP hD hS 5 0 rfl rfl g22 dX11_makeSignal_196 (fun H locs hP hD hS => ?_)
          have hP : va_P G.1 vwCl (wW_X11_makeSignal G h0 h1 h2 h3 h4 h5 y0_0 y0_1 y0_2 y0_3 y0_4 y0_6 y0_18 y0_21 y0_22 y0_23 y0_24 y0_25 y0_26 y0_33 y0_34 y0_43 y0_45 y0_46 y0_47 y0_48 x0_5 x0_7 x0_8 x0_9 x0_10 x0_11 x0_12 x0_13 x0_14 x0_15 x0_16 x0_17 x0_19 x0_20 x0_27 x0_28 x0_29 x0_30 x0_31 x0_32 x0_35 x0_36 x0_37 x0_44_9 x0_49 x0_50 (upd (upd (upd a1_9 x0_44_9.toNatClampNeg z10) u9_2.toNatClampNeg (((upd a1_9 x0_44_9.toNatClampNeg z10) u9_2.toNatClampNeg) &&& (z10 ^^^ (-1 : Int32)))) u9_3.toNatClampNeg (((upd (upd a1_9 x0_44_9.toNatClampNeg z10) u9_2.toNatClampNeg (((upd a1_9 x0_44_9.toNatClampNeg z10) u9_2.toNatClampNeg) &&& (z10 ^^^ (-1 : Int32)))) u9_3.toNatClampNeg) &&& (z10 ^^^ (-1 : Int32)))) (upd a2_9 x0_44_9.toNatClampNeg ((1 : Int32) + r_162_17)) (upd a3_9 x0_44_9.toNatClampNeg u9_2) (upd a4_9 x0_44_9.toNatClampNeg u9_3) (upd a5_9 x0_44_9.toNatClampNeg u9_1)) H := hP
          have hD : va_D A (wW_X11_makeSignal G h0 h1 h2 h3 h4 h5 y0_0 y0_1 y0_2 y0_3 y0_4 y0_6 y0_18 y0_21 y0_22 y0_23 y0_24 y0_25 y0_26 y0_33 y0_34 y0_43 y0_45 y0_46 y0_47 y0_48 x0_5 x0_7 x0_8 x0_9 x0_10 x0_11 x0_12 x0_13 x0_14 x0_15 x0_16 x0_17 x0_19 x0_20 x0_27 x0_28 x0_29 x0_30 x0_31 x0_32 x0_35 x0_36 x0_37 x0_44_9 x0_49 x0_50 (upd (upd (upd a1_9 x0_44_9.toNatClampNeg z10) u9_2.toNatClampNeg (((upd a1_9 x0_44_9.toNatClampNeg z10) u9_2.toNatClampNeg) &&& (z10 ^^^ (-1 : Int32)))) u9_3.toNatClampNeg (((upd (upd a1_9 x0_44_9.toNatClampNeg z10) u9_2.toNatClampNeg (((upd a1_9 x0_44_9.toNatClampNeg z10) u9_2.toNatClampNeg) &&& (z10 ^^^ (-1 : Int32)))) u9_3.toNatClampNeg) &&& (z10 ^^^ (-1 : Int32)))) (upd a2_9 x0_44_9.toNatClampNeg ((1 : Int32) + r_162_17)) (upd a3_9 x0_44_9.toNatClampNeg u9_2) (upd a4_9 x0_44_9.toNatClampNeg u9_3) (upd a5_9 x0_44_9.toNatClampNeg u9_1)) := hD
          refine lv_aload_n hx hb dX11_makeSignal_197 rfl (lv_at hl 1 rfl) ?_
          refine lv_dup hx hb dX11_makeSignal_198 rfl ?_
          refine va_get (ci := 11) (v := .int x0_44_9) (C := RX11) (T := TX11) (N := 51) hx hb ht0 iX11 hown hK hP 0 rfl rfl 44 (by decide) (ht0 _ wd_1450) (fun _ h9 => h9) rfl dX11_makeSignal_199 ?_
          refine lv_iconst (v := (1 : Int32)) hx hb dX11_makeSignal_202 (by decide) ?_
          refine lv_iadd hx hb dX11_makeSignal_203 ?_
          refine va_put (ci := 11) (v := .int (x0_44_9 + (1 : Int32))) (ty := .int) (C := RX11) (T := TX11) (N := 51) hx hb ht0 iX11 tyX11 tyX11_ok nmX11 hown hK hP hD hS 0 rfl rfl 44 (by decide) (ht0 _ wd_1450) (fun _ h9 => h9) rfl rfl rfl rfl (Nat.le_of_ble_eq_true rfl) dX11_makeSignal_204 (fun H locs hP hD hS => ?_)
          have hP : va_P G.1 vwCl (wW_X11_makeSignal G h0 h1 h2 h3 h4 h5 y0_0 y0_1 y0_2 y0_3 y0_4 y0_6 y0_18 y0_21 y0_22 y0_23 y0_24 y0_25 y0_26 y0_33 y0_34 y0_43 y0_45 y0_46 y0_47 y0_48 x0_5 x0_7 x0_8 x0_9 x0_10 x0_11 x0_12 x0_13 x0_14 x0_15 x0_16 x0_17 x0_19 x0_20 x0_27 x0_28 x0_29 x0_30 x0_31 x0_32 x0_35 x0_36 x0_37 (x0_44_9 + (1 : Int32)) x0_49 x0_50 (upd (upd (upd a1_9 x0_44_9.toNatClampNeg z10) u9_2.toNatClampNeg (((upd a1_9 x0_44_9.toNatClampNeg z10) u9_2.toNatClampNeg) &&& (z10 ^^^ (-1 : Int32)))) u9_3.toNatClampNeg (((upd (upd a1_9 x0_44_9.toNatClampNeg z10) u9_2.toNatClampNeg (((upd a1_9 x0_44_9.toNatClampNeg z10) u9_2.toNatClampNeg) &&& (z10 ^^^ (-1 : Int32)))) u9_3.toNatClampNeg) &&& (z10 ^^^ (-1 : Int32)))) (upd a2_9 x0_44_9.toNatClampNeg ((1 : Int32) + r_162_17)) (upd a3_9 x0_44_9.toNatClampNeg u9_2) (upd a4_9 x0_44_9.toNatClampNeg u9_3) (upd a5_9 x0_44_9.toNatClampNeg u9_1)) H := hP
          have hD : va_D A (wW_X11_makeSignal G h0 h1 h2 h3 h4 h5 y0_0 y0_1 y0_2 y0_3 y0_4 y0_6 y0_18 y0_21 y0_22 y0_23 y0_24 y0_25 y0_26 y0_33 y0_34 y0_43 y0_45 y0_46 y0_47 y0_48 x0_5 x0_7 x0_8 x0_9 x0_10 x0_11 x0_12 x0_13 x0_14 x0_15 x0_16 x0_17 x0_19 x0_20 x0_27 x0_28 x0_29 x0_30 x0_31 x0_32 x0_35 x0_36 x0_37 (x0_44_9 + (1 : Int32)) x0_49 x0_50 (upd (upd (upd a1_9 x0_44_9.toNatClampNeg z10) u9_2.toNatClampNeg (((upd a1_9 x0_44_9.toNatClampNeg z10) u9_2.toNatClampNeg) &&& (z10 ^^^ (-1 : Int32)))) u9_3.toNatClampNeg (((upd (upd a1_9 x0_44_9.toNatClampNeg z10) u9_2.toNatClampNeg (((upd a1_9 x0_44_9.toNatClampNeg z10) u9_2.toNatClampNeg) &&& (z10 ^^^ (-1 : Int32)))) u9_3.toNatClampNeg) &&& (z10 ^^^ (-1 : Int32)))) (upd a2_9 x0_44_9.toNatClampNeg ((1 : Int32) + r_162_17)) (upd a3_9 x0_44_9.toNatClampNeg u9_2) (upd a4_9 x0_44_9.toNatClampNeg u9_3) (upd a5_9 x0_44_9.toNatClampNeg u9_1)) := hD
          refine lv_iconst (v := (1 : Int32)) hx hb dX11_makeSignal_207 (by decide) ?_
          cases hf
          exact ret_z hx hb hr hlk hK hP hD hS (by decide) dX11_makeSignal_208
        · have hf := of_neg hf c7
          refine lv_iconst (v := (0 : Int32)) hx hb dX11_makeSignal_87 (by decide) ?_
          cases hf
          exact ret_z hx hb hr hlk hK hP hD hS (by decide) dX11_makeSignal_88
      · have hf := of_neg hf c6
        refine lv_iload hx hb dX11_makeSignal_18 (lv_at hl 4 rfl) ?_
        refine lv_iconst (v := (1 : Int32)) hx hb dX11_makeSignal_20 (by decide) ?_
        refine lv_iadd hx hb dX11_makeSignal_21 ?_
        refine lv_istore (lv' := [(5, .int (u9_4 + (1 : Int32))), (0, .ref h0), (1, .int u9_1), (2, .int u9_2), (3, .int u9_3), (4, .int u9_4)]) hx hb dX11_makeSignal_22 hl (by decide) rfl (fun ls hl => ?_)
        exact kL24 _ _ _ _ _ _ _ _ _ _ _ _ hf _ _ hP hD hS _ (lv_sub hl [1, 2, 3, 4, 5, 0] rfl)
  refine lv_iconst (v := (1 : Int32)) hx hb dX11_makeSignal_0 (by decide) ?_
  refine lv_istore_n (lv' := [(1, .int (1 : Int32)), (0, .ref h0)]) hx hb dX11_makeSignal_1 rfl hl (by decide) rfl (fun ls hl => ?_)
  refine lv_iconst (v := (-1 : Int32)) hx hb dX11_makeSignal_2 (by decide) ?_
  refine lv_istore_n (lv' := [(2, .int (-1 : Int32)), (1, .int (1 : Int32)), (0, .ref h0)]) hx hb dX11_makeSignal_3 rfl hl (by decide) rfl (fun ls hl => ?_)
  refine lv_iconst (v := (-1 : Int32)) hx hb dX11_makeSignal_4 (by decide) ?_
  refine lv_istore_n (lv' := [(3, .int (-1 : Int32)), (2, .int (-1 : Int32)), (1, .int (1 : Int32)), (0, .ref h0)]) hx hb dX11_makeSignal_5 rfl hl (by decide) rfl (fun ls hl => ?_)
  refine lv_iconst (v := (0 : Int32)) hx hb dX11_makeSignal_6 (by decide) ?_
  refine lv_istore (lv' := [(4, .int (0 : Int32)), (3, .int (-1 : Int32)), (2, .int (-1 : Int32)), (1, .int (1 : Int32)), (0, .ref h0)]) hx hb dX11_makeSignal_7 hl (by decide) rfl (fun ls hl => ?_)
  exact kL9 _ _ _ _ _ _ _ _ _ _ _ hf _ _ hP hD hS _ (lv_sub hl [4, 3, 2, 1, 0] rfl)
theorem yk_X11_makeSignal : ykV yX11_makeSignal RX11 cX11_makeSignal 7 (some .boolean) 0 := ⟨wd_1899, wd_119, wd_142, wd_1900, rfl, by decide +kernel, by decide +kernel, by decide +kernel⟩
theorem dX11_laySignals_0 : decode cX11_laySignals 0 = .ok (.aload_n 0, 1) := by decide +kernel
theorem dX11_laySignals_1 : decode cX11_laySignals 1 = .ok (.aload_n 0, 1) := by decide +kernel
theorem dX11_laySignals_2 : decode cX11_laySignals 2 = .ok (.invokevirtual 221, 3) := by decide +kernel
theorem dX11_laySignals_5 : decode cX11_laySignals 5 = .ok (.putfield 442, 3) := by decide +kernel
theorem dX11_laySignals_8 : decode cX11_laySignals 8 = .ok (.iconst 0, 1) := by decide +kernel
theorem dX11_laySignals_9 : decode cX11_laySignals 9 = .ok (.istore_n 1, 1) := by decide +kernel
theorem dX11_laySignals_10 : decode cX11_laySignals 10 = .ok (.iload_n 1, 1) := by decide +kernel
theorem dX11_laySignals_11 : decode cX11_laySignals 11 = .ok (.aload_n 0, 1) := by decide +kernel
theorem dX11_laySignals_12 : decode cX11_laySignals 12 = .ok (.getfield 442, 3) := by decide +kernel
theorem dX11_laySignals_15 : decode cX11_laySignals 15 = .ok (.if_icmp .ge 27, 3) := by decide +kernel
theorem dX11_laySignals_18 : decode cX11_laySignals 18 = .ok (.aload_n 0, 1) := by decide +kernel
theorem dX11_laySignals_19 : decode cX11_laySignals 19 = .ok (.getfield 61, 3) := by decide +kernel
theorem dX11_laySignals_22 : decode cX11_laySignals 22 = .ok (.iload_n 1, 1) := by decide +kernel
theorem dX11_laySignals_23 : decode cX11_laySignals 23 = .ok (.aload_n 0, 1) := by decide +kernel
theorem dX11_laySignals_24 : decode cX11_laySignals 24 = .ok (.iload_n 1, 1) := by decide +kernel
theorem dX11_laySignals_25 : decode cX11_laySignals 25 = .ok (.invokevirtual 269, 3) := by decide +kernel
theorem dX11_laySignals_28 : decode cX11_laySignals 28 = .ok (.iastore, 1) := by decide +kernel
theorem dX11_laySignals_29 : decode cX11_laySignals 29 = .ok (.aload_n 0, 1) := by decide +kernel
theorem dX11_laySignals_30 : decode cX11_laySignals 30 = .ok (.getfield 64, 3) := by decide +kernel
theorem dX11_laySignals_33 : decode cX11_laySignals 33 = .ok (.iload_n 1, 1) := by decide +kernel
theorem dX11_laySignals_34 : decode cX11_laySignals 34 = .ok (.iconst 0, 1) := by decide +kernel
theorem dX11_laySignals_35 : decode cX11_laySignals 35 = .ok (.iastore, 1) := by decide +kernel
theorem dX11_laySignals_36 : decode cX11_laySignals 36 = .ok (.iinc 1 1, 3) := by decide +kernel
theorem dX11_laySignals_39 : decode cX11_laySignals 39 = .ok (.goto (-29), 3) := by decide +kernel
theorem dX11_laySignals_42 : decode cX11_laySignals 42 = .ok (.iconst 1, 1) := by decide +kernel
theorem dX11_laySignals_43 : decode cX11_laySignals 43 = .ok (.istore_n 1, 1) := by decide +kernel
theorem dX11_laySignals_44 : decode cX11_laySignals 44 = .ok (.iload_n 1, 1) := by decide +kernel
theorem dX11_laySignals_45 : decode cX11_laySignals 45 = .ok (.ifCond .eq 21, 3) := by decide +kernel
theorem dX11_laySignals_48 : decode cX11_laySignals 48 = .ok (.aload_n 0, 1) := by decide +kernel
theorem dX11_laySignals_49 : decode cX11_laySignals 49 = .ok (.getfield 442, 3) := by decide +kernel
theorem dX11_laySignals_52 : decode cX11_laySignals 52 = .ok (.sipush 240, 3) := by decide +kernel
theorem dX11_laySignals_55 : decode cX11_laySignals 55 = .ok (.if_icmp .ge 11, 3) := by decide +kernel
theorem dX11_laySignals_58 : decode cX11_laySignals 58 = .ok (.aload_n 0, 1) := by decide +kernel
theorem dX11_laySignals_59 : decode cX11_laySignals 59 = .ok (.invokevirtual 445, 3) := by decide +kernel
theorem dX11_laySignals_62 : decode cX11_laySignals 62 = .ok (.istore_n 1, 1) := by decide +kernel
theorem dX11_laySignals_63 : decode cX11_laySignals 63 = .ok (.goto (-19), 3) := by decide +kernel
theorem dX11_laySignals_66 : decode cX11_laySignals 66 = .ok (.return_, 1) := by decide +kernel
def wW_X11_laySignals (G : GG) (h0 h1 h2 h3 h4 h5 h6 h7 y0_2 y0_3 y0_4 y0_6 y0_18 y0_21 y0_22 y0_23 y0_24 y0_25 y0_26 y0_33 y0_34 y0_43 y0_45 y0_46 y0_47 y0_48 : Nat) (x0_5 : Int32) (x0_7 : Int32) (x0_8 : Int32) (x0_9 : Int32) (x0_10 : Int32) (x0_11 : Int32) (x0_12 : Int32) (x0_13 : Int32) (x0_14 : Int32) (x0_15 : Int32) (x0_16 : Int32) (x0_17 : Int32) (x0_19 : Int32) (x0_20 : Int32) (x0_27 : Int32) (x0_28 : Int32) (x0_29 : Int32) (x0_30 : Int32) (x0_31 : Int32) (x0_32 : Int32) (x0_35 : Int32) (x0_36 : Int32) (x0_37 : Int32) (x0_44 : Int32) (x0_49 : Int32) (x0_50 : Int32) (a1 : Nat → Int32) (a2 : Nat → Int32) (a3 : Nat → Int32) (a4 : Nat → Int32) (a5 : Nat → Int32) (a6 : Nat → Int32) (a7 : Nat → Int32) : va_W := [(h0, .inr (11, [.ref h1, .ref h2, .ref y0_2, .ref y0_3, .ref y0_4, .int x0_5, .ref y0_6, .int x0_7, .int x0_8, .int x0_9, .int x0_10, .int x0_11, .int x0_12, .int x0_13, .int x0_14, .int x0_15, .int x0_16, .int x0_17, .ref y0_18, .int x0_19, .int x0_20, .ref y0_21, .ref y0_22, .ref y0_23, .ref y0_24, .ref y0_25, .ref y0_26, .int x0_27, .int x0_28, .int x0_29, .int x0_30, .int x0_31, .int x0_32, .ref y0_33, .ref y0_34, .int x0_35, .int x0_36, .int x0_37, .ref h3, .ref h4, .ref h5, .ref h6, .ref h7, .ref y0_43, .int x0_44, .ref y0_45, .ref y0_46, .ref y0_47, .ref y0_48, .int x0_49, .int x0_50])), (h1, .inl (G.2.1, 121, .inl a1)), (h2, .inl (G.2.1, 2, .inl a2)), (h3, .inl (G.2.1, 240, .inl a3)), (h4, .inl (G.2.1, 240, .inl a4)), (h5, .inl (G.2.1, 240, .inl a5)), (h6, .inl (G.2.1, 240, .inl a6)), (h7, .inl (G.2.1, 240, .inl a7))]
set_option maxHeartbeats 4000000 in
set_option maxRecDepth 100000 in
theorem c_X11_laySignals (l : Launch) (G : GG) (h0 h1 h2 h3 h4 h5 h6 h7 y0_2 y0_3 y0_4 y0_6 y0_18 y0_21 y0_22 y0_23 y0_24 y0_25 y0_26 y0_33 y0_34 y0_43 y0_45 y0_46 y0_47 y0_48 : Nat) (sz : Nat) (x0_5 : Int32) (x0_7 : Int32) (x0_8 : Int32) (x0_9 : Int32) (x0_10 : Int32) (x0_11 : Int32) (x0_12 : Int32) (x0_13 : Int32) (x0_14 : Int32) (x0_15 : Int32) (x0_16 : Int32) (x0_17 : Int32) (x0_19 : Int32) (x0_20 : Int32) (x0_27 : Int32) (x0_28 : Int32) (x0_29 : Int32) (x0_30 : Int32) (x0_31 : Int32) (x0_32 : Int32) (x0_35 : Int32) (x0_36 : Int32) (x0_37 : Int32) (x0_44 : Int32) (x0_49 : Int32) (x0_50 : Int32) (a1 : Nat → Int32) (a2 : Nat → Int32) (a3 : Nat → Int32) (a4 : Nat → Int32) (a5 : Nat → Int32) (a6 : Nat → Int32) (a7 : Nat → Int32) (F : Nat)   (e_x0_44 : Int32) (e_a3 : Nat → Int32) (e_a4 : Nat → Int32) (e_a5 : Nat → Int32) (e_a6 : Nat → Int32) (e_a7 : Nat → Int32) (hf : p_X11_laySignals F x0_5 x0_44 a1 a2 a3 a4 a5 a6 a7  = some (e_x0_44, e_a3, e_a4, e_a5, e_a6, e_a7)) : Met l yX11_laySignals (.code yX11_laySignals cX11_laySignals 2 none :: gtbl) ({ frames := 2, cells := 0, slots := 0, locals := 48 } : Room) (PcS G [.ref h0] (wW_X11_laySignals G h0 h1 h2 h3 h4 h5 h6 h7 y0_2 y0_3 y0_4 y0_6 y0_18 y0_21 y0_22 y0_23 y0_24 y0_25 y0_26 y0_33 y0_34 y0_43 y0_45 y0_46 y0_47 y0_48 x0_5 x0_7 x0_8 x0_9 x0_10 x0_11 x0_12 x0_13 x0_14 x0_15 x0_16 x0_17 x0_19 x0_20 x0_27 x0_28 x0_29 x0_30 x0_31 x0_32 x0_35 x0_36 x0_37 x0_44 x0_49 x0_50 a1 a2 a3 a4 a5 a6 a7) sz) (QvS G (va_A (wW_X11_laySignals G h0 h1 h2 h3 h4 h5 h6 h7 y0_2 y0_3 y0_4 y0_6 y0_18 y0_21 y0_22 y0_23 y0_24 y0_25 y0_26 y0_33 y0_34 y0_43 y0_45 y0_46 y0_47 y0_48 x0_5 x0_7 x0_8 x0_9 x0_10 x0_11 x0_12 x0_13 x0_14 x0_15 x0_16 x0_17 x0_19 x0_20 x0_27 x0_28 x0_29 x0_30 x0_31 x0_32 x0_35 x0_36 x0_37 x0_44 x0_49 x0_50 a1 a2 a3 a4 a5 a6 a7) sz) (wW_X11_laySignals G h0 h1 h2 h3 h4 h5 h6 h7 y0_2 y0_3 y0_4 y0_6 y0_18 y0_21 y0_22 y0_23 y0_24 y0_25 y0_26 y0_33 y0_34 y0_43 y0_45 y0_46 y0_47 y0_48 x0_5 x0_7 x0_8 x0_9 x0_10 x0_11 x0_12 x0_13 x0_14 x0_15 x0_16 x0_17 x0_19 x0_20 x0_27 x0_28 x0_29 x0_30 x0_31 x0_32 x0_35 x0_36 x0_37 e_x0_44 x0_49 x0_50 a1 a2 e_a3 e_a4 e_a5 e_a6 e_a7)) 0 0 (va_A (wW_X11_laySignals G h0 h1 h2 h3 h4 h5 h6 h7 y0_2 y0_3 y0_4 y0_6 y0_18 y0_21 y0_22 y0_23 y0_24 y0_25 y0_26 y0_33 y0_34 y0_43 y0_45 y0_46 y0_47 y0_48 x0_5 x0_7 x0_8 x0_9 x0_10 x0_11 x0_12 x0_13 x0_14 x0_15 x0_16 x0_17 x0_19 x0_20 x0_27 x0_28 x0_29 x0_30 x0_31 x0_32 x0_35 x0_36 x0_37 x0_44 x0_49 x0_50 a1 a2 a3 a4 a5 a6 a7) sz) := by
  refine met_start (by decide) (Nat.le_of_ble_eq_true rfl) ?_
  intro p e s m below meth c hC hr hlk hnm hK hP hD hA hS hX ls hl
  obtain ⟨hx, hb, hml, hown, ht0⟩ := hC
  have hown : s.vm.findClass RX11 = some m.cls := hown
  generalize va_A (wW_X11_laySignals G h0 h1 h2 h3 h4 h5 h6 h7 y0_2 y0_3 y0_4 y0_6 y0_18 y0_21 y0_22 y0_23 y0_24 y0_25 y0_26 y0_33 y0_34 y0_43 y0_45 y0_46 y0_47 y0_48 x0_5 x0_7 x0_8 x0_9 x0_10 x0_11 x0_12 x0_13 x0_14 x0_15 x0_16 x0_17 x0_19 x0_20 x0_27 x0_28 x0_29 x0_30 x0_31 x0_32 x0_35 x0_36 x0_37 x0_44 x0_49 x0_50 a1 a2 a3 a4 a5 a6 a7) sz = A at hD hA hS hX ⊢
  have hl : lv_has ls 2 [(0, .ref h0)] := hl
  have hf : p_X11_laySignals F x0_5 x0_44 a1 a2 a3 a4 a5 a6 a7  = some (e_x0_44, e_a3, e_a4, e_a5, e_a6, e_a7) := hf
  have kL44 : ∀ (n44 : Nat) (u44_1 : Int32) (x0_44_44 : Int32) (a3_44 : Nat → Int32) (a4_44 : Nat → Int32) (a5_44 : Nat → Int32) (a6_44 : Nat → Int32) (a7_44 : Nat → Int32), p_X11_laySignals_L44 F x0_5 a1 a2 n44 u44_1 x0_44_44 a3_44 a4_44 a5_44 a6_44 a7_44 = some (e_x0_44, e_a3, e_a4, e_a5, e_a6, e_a7) → ∀ (H : Heap) (locs : List Loc), va_P G.1 vwCl (wW_X11_laySignals G h0 h1 h2 h3 h4 h5 h6 h7 y0_2 y0_3 y0_4 y0_6 y0_18 y0_21 y0_22 y0_23 y0_24 y0_25 y0_26 y0_33 y0_34 y0_43 y0_45 y0_46 y0_47 y0_48 x0_5 x0_7 x0_8 x0_9 x0_10 x0_11 x0_12 x0_13 x0_14 x0_15 x0_16 x0_17 x0_19 x0_20 x0_27 x0_28 x0_29 x0_30 x0_31 x0_32 x0_35 x0_36 x0_37 x0_44_44 x0_49 x0_50 a1 a2 a3_44 a4_44 a5_44 a6_44 a7_44) H → va_D A (wW_X11_laySignals G h0 h1 h2 h3 h4 h5 h6 h7 y0_2 y0_3 y0_4 y0_6 y0_18 y0_21 y0_22 y0_23 y0_24 y0_25 y0_26 y0_33 y0_34 y0_43 y0_45 y0_46 y0_47 y0_48 x0_5 x0_7 x0_8 x0_9 x0_10 x0_11 x0_12 x0_13 x0_14 x0_15 x0_16 x0_17 x0_19 x0_20 x0_27 x0_28 x0_29 x0_30 x0_31 x0_32 x0_35 x0_36 x0_37 x0_44_44 x0_49 x0_50 a1 a2 a3_44 a4_44 a5_44 a6_44 a7_44) → va_S A s.heap H locs → ∀ ls : Array Slot, lv_has ls 2 [(0, .ref h0), (1, .int u44_1)] → W p l e ({ frames := 2, cells := 0, slots := 0, locals := 48 } : Room) s m (List.toArray [.ref h0]) below meth c H locs 0 0 (MQ below (QvS G A (wW_X11_laySignals G h0 h1 h2 h3 h4 h5 h6 h7 y0_2 y0_3 y0_4 y0_6 y0_18 y0_21 y0_22 y0_23 y0_24 y0_25 y0_26 y0_33 y0_34 y0_43 y0_45 y0_46 y0_47 y0_48 x0_5 x0_7 x0_8 x0_9 x0_10 x0_11 x0_12 x0_13 x0_14 x0_15 x0_16 x0_17 x0_19 x0_20 x0_27 x0_28 x0_29 x0_30 x0_31 x0_32 x0_35 x0_36 x0_37 e_x0_44 x0_49 x0_50 a1 a2 e_a3 e_a4 e_a5 e_a6 e_a7)) (List.toArray [.ref h0]) s 0 0 A) (F0 m 44 ls []) := by
    intro n44
    induction n44 with
    | zero =>
      intro u44_1 x0_44_44 a3_44 a4_44 a5_44 a6_44 a7_44 hf
      cases hf
    | succ n44 ih44 =>
      intro u44_1 x0_44_44 a3_44 a4_44 a5_44 a6_44 a7_44 hf H locs hP hD hS ls hl
      have hf : p_X11_laySignals_L44b F x0_5 a1 a2 (p_X11_laySignals_L44 F x0_5 a1 a2 n44) u44_1 x0_44_44 a3_44 a4_44 a5_44 a6_44 a7_44 = some (e_x0_44, e_a3, e_a4, e_a5, e_a6, e_a7) := hf
      refine lv_iload_n hx hb dX11_laySignals_44 rfl (lv_at hl 1 rfl) ?_
      refine lv_if_eq (tgt := 66) hx hb dX11_laySignals_45 (by decide) (fun c1 => ?_) (fun c1 => ?_)
      · have hf := of_pos hf c1
        cases hf
        exact ret_v hx hb hr hlk hK hP hD hS dX11_laySignals_66
      · have hf := of_neg hf c1
        refine lv_aload_n hx hb dX11_laySignals_48 rfl (lv_at hl 0 rfl) ?_
        refine va_get (ci := 11) (v := .int x0_44_44) (C := RX11) (T := TX11) (N := 51) hx hb ht0 iX11 hown hK hP 0 rfl rfl 44 (by decide) (ht0 _ wd_1450) (fun _ h9 => h9) rfl dX11_laySignals_49 ?_
        refine lv_sipush (v := (240 : Int32)) hx hb dX11_laySignals_52 (by decide) ?_
        refine lv_icmp_ge (tgt := 66) hx hb dX11_laySignals_55 (by decide) (fun c2 => ?_) (fun c2 => ?_)
        · have hf := of_pos hf c2
          cases hf
          exact ret_v hx hb hr hlk hK hP hD hS dX11_laySignals_66
        · have hf := of_neg hf c2
          refine lv_aload_n hx hb dX11_laySignals_58 rfl (lv_at hl 0 rfl) ?_
          obtain ⟨⟨r_59_2, r_59_2_x0_44, r_59_2_a1, r_59_2_a2, r_59_2_a3, r_59_2_a4, r_59_2_a5⟩, hc_r_59_2, hf⟩ := of_bnd hf
          refine cl_Vi (w2 := (wW_X11_laySignals G h0 h1 h2 h3 h4 h5 h6 h7 y0_2 y0_3 y0_4 y0_6 y0_18 y0_21 y0_22 y0_23 y0_24 y0_25 y0_26 y0_33 y0_34 y0_43 y0_45 y0_46 y0_47 y0_48 x0_5 x0_7 x0_8 x0_9 x0_10 x0_11 x0_12 x0_13 x0_14 x0_15 x0_16 x0_17 x0_19 x0_20 x0_27 x0_28 x0_29 x0_30 x0_31 x0_32 x0_35 x0_36 x0_37 r_59_2_x0_44 x0_49 x0_50 a1 a2 r_59_2_a1 r_59_2_a2 r_59_2_a3 r_59_2_a4 r_59_2_a5)) (As := []) (rest := []) ⟨hx, hb, hml, hown, ht0⟩ (c_X11_makeSignal l G h0 h3 h4 h5 h6 h7 h1 h2 y0_2 y0_3 y0_4 y0_6 y0_18 y0_21 y0_22 y0_23 y0_24 y0_25 y0_26 y0_33 y0_34 y0_43 y0_45 y0_46 y0_47 y0_48 _ x0_5 x0_7 x0_8 x0_9 x0_10 x0_11 x0_12 x0_13 x0_14 x0_15 x0_16 x0_17 x0_19 x0_20 x0_27 x0_28 x0_29 x0_30 x0_31 x0_32 x0_35 x0_36 x0_37 x0_44_44 x0_49 x0_50 a3_44 a4_44 a5_44 a6_44 a7_44 F _ _ _ _ _ _ _ hc_r_59_2) yk_X11_makeSignal wd_1897 ⟨rfl, rfl, by decide, by decide⟩ ⟨Nat.le_refl _, Nat.le_refl _⟩ hX hK hP hD hS hA [0, 3, 4, 5, 6, 7] [1, 2] [2, 0, 1, 3, 4, 5, 6, 7] (va_recv hK hP (ci := 11) (q0 := 0) rfl rfl) rfl rfl (by decide) rfl rfl rfl rfl rfl hl.1 rfl (Nat.le_of_ble_eq_true rfl) dX11_laySignals_59 (fun H locs hP hD hS => ?_)
          refine lv_istore_n (lv' := [(1, .int r_59_2), (0, .ref h0)]) hx hb dX11_laySignals_62 rfl hl (by decide) rfl (fun ls hl => ?_)
          refine lv_goto (tgt := 44) hx hb dX11_laySignals_63 (by decide) ?_
          exact ih44 _ _ _ _ _ _ _ hf _ _ hP hD hS _ (lv_sub hl [1, 0] rfl)
  have kL10 : ∀ (n10 : Nat) (u10_1 : Int32) (x0_44_10 : Int32) (a3_10 : Nat → Int32) (a4_10 : Nat → Int32) (a5_10 : Nat → Int32) (a6_10 : Nat → Int32) (a7_10 : Nat → Int32), p_X11_laySignals_L10 F x0_5 a1 a2 n10 u10_1 x0_44_10 a3_10 a4_10 a5_10 a6_10 a7_10 = some (e_x0_44, e_a3, e_a4, e_a5, e_a6, e_a7) → ∀ (H : Heap) (locs : List Loc), va_P G.1 vwCl (wW_X11_laySignals G h0 h1 h2 h3 h4 h5 h6 h7 y0_2 y0_3 y0_4 y0_6 y0_18 y0_21 y0_22 y0_23 y0_24 y0_25 y0_26 y0_33 y0_34 y0_43 y0_45 y0_46 y0_47 y0_48 x0_5 x0_7 x0_8 x0_9 x0_10 x0_11 x0_12 x0_13 x0_14 x0_15 x0_16 x0_17 x0_19 x0_20 x0_27 x0_28 x0_29 x0_30 x0_31 x0_32 x0_35 x0_36 x0_37 x0_44_10 x0_49 x0_50 a1 a2 a3_10 a4_10 a5_10 a6_10 a7_10) H → va_D A (wW_X11_laySignals G h0 h1 h2 h3 h4 h5 h6 h7 y0_2 y0_3 y0_4 y0_6 y0_18 y0_21 y0_22 y0_23 y0_24 y0_25 y0_26 y0_33 y0_34 y0_43 y0_45 y0_46 y0_47 y0_48 x0_5 x0_7 x0_8 x0_9 x0_10 x0_11 x0_12 x0_13 x0_14 x0_15 x0_16 x0_17 x0_19 x0_20 x0_27 x0_28 x0_29 x0_30 x0_31 x0_32 x0_35 x0_36 x0_37 x0_44_10 x0_49 x0_50 a1 a2 a3_10 a4_10 a5_10 a6_10 a7_10) → va_S A s.heap H locs → ∀ ls : Array Slot, lv_has ls 2 [(0, .ref h0), (1, .int u10_1)] → W p l e ({ frames := 2, cells := 0, slots := 0, locals := 48 } : Room) s m (List.toArray [.ref h0]) below meth c H locs 0 0 (MQ below (QvS G A (wW_X11_laySignals G h0 h1 h2 h3 h4 h5 h6 h7 y0_2 y0_3 y0_4 y0_6 y0_18 y0_21 y0_22 y0_23 y0_24 y0_25 y0_26 y0_33 y0_34 y0_43 y0_45 y0_46 y0_47 y0_48 x0_5 x0_7 x0_8 x0_9 x0_10 x0_11 x0_12 x0_13 x0_14 x0_15 x0_16 x0_17 x0_19 x0_20 x0_27 x0_28 x0_29 x0_30 x0_31 x0_32 x0_35 x0_36 x0_37 e_x0_44 x0_49 x0_50 a1 a2 e_a3 e_a4 e_a5 e_a6 e_a7)) (List.toArray [.ref h0]) s 0 0 A) (F0 m 10 ls []) := by
    intro n10
    induction n10 with
    | zero =>
      intro u10_1 x0_44_10 a3_10 a4_10 a5_10 a6_10 a7_10 hf
      cases hf
    | succ n10 ih10 =>
      intro u10_1 x0_44_10 a3_10 a4_10 a5_10 a6_10 a7_10 hf H locs hP hD hS ls hl
      have hf : p_X11_laySignals_L10b F x0_5 a1 a2 (p_X11_laySignals_L10 F x0_5 a1 a2 n10) u10_1 x0_44_10 a3_10 a4_10 a5_10 a6_10 a7_10 = some (e_x0_44, e_a3, e_a4, e_a5, e_a6, e_a7) := hf
      refine lv_iload_n hx hb dX11_laySignals_10 rfl (lv_at hl 1 rfl) ?_
      refine lv_aload_n hx hb dX11_laySignals_11 rfl (lv_at hl 0 rfl) ?_
      refine va_get (ci := 11) (v := .int x0_44_10) (C := RX11) (T := TX11) (N := 51) hx hb ht0 iX11 hown hK hP 0 rfl rfl 44 (by decide) (ht0 _ wd_1450) (fun _ h9 => h9) rfl dX11_laySignals_12 ?_
      refine lv_icmp_ge (tgt := 42) hx hb dX11_laySignals_15 (by decide) (fun c4 => ?_) (fun c4 => ?_)
      · have hf := of_pos hf c4
        refine lv_iconst (v := (1 : Int32)) hx hb dX11_laySignals_42 (by decide) ?_
        refine lv_istore_n (lv' := [(1, .int (1 : Int32)), (0, .ref h0)]) hx hb dX11_laySignals_43 rfl hl (by decide) rfl (fun ls hl => ?_)
        exact kL44 _ _ _ _ _ _ _ _ hf _ _ hP hD hS _ (lv_sub hl [1, 0] rfl)
      · have hf := of_neg hf c4
        refine lv_aload_n hx hb dX11_laySignals_18 rfl (lv_at hl 0 rfl) ?_
        refine va_get (ci := 11) (v := .ref h3) (C := RX11) (T := TX11) (N := 51) hx hb ht0 iX11 hown hK hP 0 rfl rfl 38 (by decide) (ht0 _ wd_1444) (fun _ h9 => h9) rfl dX11_laySignals_19 ?_
        refine lv_iload_n hx hb dX11_laySignals_22 rfl (lv_at hl 1 rfl) ?_
        refine lv_aload_n hx hb dX11_laySignals_23 rfl (lv_at hl 0 rfl) ?_
        refine lv_iload_n hx hb dX11_laySignals_24 rfl (lv_at hl 1 rfl) ?_
        obtain ⟨r_25_4, hc_r_25_4, hf⟩ := of_bnd hf
        refine cl_Vi (w2 := (wW_X11_laySignals G h0 h1 h2 h3 h4 h5 h6 h7 y0_2 y0_3 y0_4 y0_6 y0_18 y0_21 y0_22 y0_23 y0_24 y0_25 y0_26 y0_33 y0_34 y0_43 y0_45 y0_46 y0_47 y0_48 x0_5 x0_7 x0_8 x0_9 x0_10 x0_11 x0_12 x0_13 x0_14 x0_15 x0_16 x0_17 x0_19 x0_20 x0_27 x0_28 x0_29 x0_30 x0_31 x0_32 x0_35 x0_36 x0_37 x0_44_10 x0_49 x0_50 a1 a2 a3_10 a4_10 a5_10 a6_10 a7_10)) (As := [.int u10_1]) (rest := [.int u10_1, .ref h3]) ⟨hx, hb, hml, hown, ht0⟩ (c_X11_columnAt l G h0 h1 h2 y0_2 y0_3 y0_4 y0_6 y0_18 y0_21 y0_22 y0_23 y0_24 y0_25 y0_26 y0_33 y0_34 h3 h4 h5 h6 h7 y0_43 y0_45 y0_46 y0_47 y0_48 _ x0_5 x0_7 x0_8 x0_9 x0_10 x0_11 x0_12 x0_13 x0_14 x0_15 x0_16 x0_17 x0_19 x0_20 x0_27 x0_28 x0_29 x0_30 x0_31 x0_32 x0_35 x0_36 x0_37 x0_44_10 x0_49 x0_50 a1 F u10_1 _ hc_r_25_4) yk_X11_columnAt wd_1402 ⟨rfl, rfl, by decide, by decide⟩ ⟨Nat.le_refl _, Nat.le_refl _⟩ hX hK hP hD hS hA [0, 1] [2, 3, 4, 5, 6, 7] [6, 7, 0, 1, 2, 3, 4, 5] (va_recv hK hP (ci := 11) (q0 := 0) rfl rfl) rfl rfl (by decide) rfl rfl rfl rfl rfl hl.1 rfl (Nat.le_of_ble_eq_true rfl) dX11_laySignals_25 (fun H locs hP hD hS => ?_)
        obtain ⟨g6, hf⟩ := of_grd hf
        refine va_iast hx hb hK hP hD hS 3 0 rfl rfl g6 dX11_laySignals_28 (fun H locs hP hD hS => ?_)
        have hP : va_P G.1 vwCl (wW_X11_laySignals G h0 h1 h2 h3 h4 h5 h6 h7 y0_2 y0_3 y0_4 y0_6 y0_18 y0_21 y0_22 y0_23 y0_24 y0_25 y0_26 y0_33 y0_34 y0_43 y0_45 y0_46 y0_47 y0_48 x0_5 x0_7 x0_8 x0_9 x0_10 x0_11 x0_12 x0_13 x0_14 x0_15 x0_16 x0_17 x0_19 x0_20 x0_27 x0_28 x0_29 x0_30 x0_31 x0_32 x0_35 x0_36 x0_37 x0_44_10 x0_49 x0_50 a1 a2 (upd a3_10 u10_1.toNatClampNeg r_25_4) a4_10 a5_10 a6_10 a7_10) H := hP
        have hD : va_D A (wW_X11_laySignals G h0 h1 h2 h3 h4 h5 h6 h7 y0_2 y0_3 y0_4 y0_6 y0_18 y0_21 y0_22 y0_23 y0_24 y0_25 y0_26 y0_33 y0_34 y0_43 y0_45 y0_46 y0_47 y0_48 x0_5 x0_7 x0_8 x0_9 x0_10 x0_11 x0_12 x0_13 x0_14 x0_15 x0_16 x0_17 x0_19 x0_20 x0_27 x0_28 x0_29 x0_30 x0_31 x0_32 x0_35 x0_36 x0_37 x0_44_10 x0_49 x0_50 a1 a2 (upd a3_10 u10_1.toNatClampNeg r_25_4) a4_10 a5_10 a6_10 a7_10) := hD
        refine lv_aload_n hx hb dX11_laySignals_29 rfl (lv_at hl 0 rfl) ?_
        refine va_get (ci := 11) (v := .ref h4) (C := RX11) (T := TX11) (N := 51) hx hb ht0 iX11 hown hK hP 0 rfl rfl 39 (by decide) (ht0 _ wd_1445) (fun _ h9 => h9) rfl dX11_laySignals_30 ?_
        refine lv_iload_n hx hb dX11_laySignals_33 rfl (lv_at hl 1 rfl) ?_
        refine lv_iconst (v := (0 : Int32)) hx hb dX11_laySignals_34 (by decide) ?_
        obtain ⟨g7, hf⟩ := of_grd hf
        refine va_iast hx hb hK hP hD hS 4 0 rfl rfl g7 dX11_laySignals_35 (fun H locs hP hD hS => ?_)
        have hP : va_P G.1 vwCl (wW_X11_laySignals G h0 h1 h2 h3 h4 h5 h6 h7 y0_2 y0_3 y0_4 y0_6 y0_18 y0_21 y0_22 y0_23 y0_24 y0_25 y0_26 y0_33 y0_34 y0_43 y0_45 y0_46 y0_47 y0_48 x0_5 x0_7 x0_8 x0_9 x0_10 x0_11 x0_12 x0_13 x0_14 x0_15 x0_16 x0_17 x0_19 x0_20 x0_27 x0_28 x0_29 x0_30 x0_31 x0_32 x0_35 x0_36 x0_37 x0_44_10 x0_49 x0_50 a1 a2 (upd a3_10 u10_1.toNatClampNeg r_25_4) (upd a4_10 u10_1.toNatClampNeg (0 : Int32)) a5_10 a6_10 a7_10) H := hP
        have hD : va_D A (wW_X11_laySignals G h0 h1 h2 h3 h4 h5 h6 h7 y0_2 y0_3 y0_4 y0_6 y0_18 y0_21 y0_22 y0_23 y0_24 y0_25 y0_26 y0_33 y0_34 y0_43 y0_45 y0_46 y0_47 y0_48 x0_5 x0_7 x0_8 x0_9 x0_10 x0_11 x0_12 x0_13 x0_14 x0_15 x0_16 x0_17 x0_19 x0_20 x0_27 x0_28 x0_29 x0_30 x0_31 x0_32 x0_35 x0_36 x0_37 x0_44_10 x0_49 x0_50 a1 a2 (upd a3_10 u10_1.toNatClampNeg r_25_4) (upd a4_10 u10_1.toNatClampNeg (0 : Int32)) a5_10 a6_10 a7_10) := hD
        refine lv_iinc (v := u10_1 + (1 : Int32)) (lv' := [(1, .int (u10_1 + (1 : Int32))), (0, .ref h0)]) hx hb dX11_laySignals_36 hl (k := 1) rfl (by rfl) (by decide) rfl (fun ls hl => ?_)
        refine lv_goto (tgt := 10) hx hb dX11_laySignals_39 (by decide) ?_
        exact ih10 _ _ _ _ _ _ _ hf _ _ hP hD hS _ (lv_sub hl [1, 0] rfl)
  refine lv_aload_n hx hb dX11_laySignals_0 rfl (lv_at hl 0 rfl) ?_
  refine lv_aload_n hx hb dX11_laySignals_1 rfl (lv_at hl 0 rfl) ?_
  obtain ⟨r_2_7, hc_r_2_7, hf⟩ := of_bnd hf
  refine cl_Vi (w2 := (wW_X11_laySignals G h0 h1 h2 h3 h4 h5 h6 h7 y0_2 y0_3 y0_4 y0_6 y0_18 y0_21 y0_22 y0_23 y0_24 y0_25 y0_26 y0_33 y0_34 y0_43 y0_45 y0_46 y0_47 y0_48 x0_5 x0_7 x0_8 x0_9 x0_10 x0_11 x0_12 x0_13 x0_14 x0_15 x0_16 x0_17 x0_19 x0_20 x0_27 x0_28 x0_29 x0_30 x0_31 x0_32 x0_35 x0_36 x0_37 x0_44 x0_49 x0_50 a1 a2 a3 a4 a5 a6 a7)) (As := []) (rest := [.ref h0]) ⟨hx, hb, hml, hown, ht0⟩ (c_X11_dataNow l G h0 h2 h1 y0_2 y0_3 y0_4 y0_6 y0_18 y0_21 y0_22 y0_23 y0_24 y0_25 y0_26 y0_33 y0_34 h3 h4 h5 h6 h7 y0_43 y0_45 y0_46 y0_47 y0_48 _ x0_5 x0_7 x0_8 x0_9 x0_10 x0_11 x0_12 x0_13 x0_14 x0_15 x0_16 x0_17 x0_19 x0_20 x0_27 x0_28 x0_29 x0_30 x0_31 x0_32 x0_35 x0_36 x0_37 x0_44 x0_49 x0_50 a2 F _ hc_r_2_7) yk_X11_dataNow wd_1398 ⟨rfl, rfl, by decide, by decide⟩ ⟨Nat.le_refl _, Nat.le_refl _⟩ hX hK hP hD hS hA [0, 2] [1, 3, 4, 5, 6, 7] [6, 0, 7, 1, 2, 3, 4, 5] (va_recv hK hP (ci := 11) (q0 := 0) rfl rfl) rfl rfl (by decide) rfl rfl rfl rfl rfl hl.1 rfl (Nat.le_of_ble_eq_true rfl) dX11_laySignals_2 (fun H locs hP hD hS => ?_)
  refine va_put (ci := 11) (v := .int r_2_7) (ty := .int) (C := RX11) (T := TX11) (N := 51) hx hb ht0 iX11 tyX11 tyX11_ok nmX11 hown hK hP hD hS 0 rfl rfl 44 (by decide) (ht0 _ wd_1450) (fun _ h9 => h9) rfl rfl rfl rfl (Nat.le_of_ble_eq_true rfl) dX11_laySignals_5 (fun H locs hP hD hS => ?_)
  have hP : va_P G.1 vwCl (wW_X11_laySignals G h0 h1 h2 h3 h4 h5 h6 h7 y0_2 y0_3 y0_4 y0_6 y0_18 y0_21 y0_22 y0_23 y0_24 y0_25 y0_26 y0_33 y0_34 y0_43 y0_45 y0_46 y0_47 y0_48 x0_5 x0_7 x0_8 x0_9 x0_10 x0_11 x0_12 x0_13 x0_14 x0_15 x0_16 x0_17 x0_19 x0_20 x0_27 x0_28 x0_29 x0_30 x0_31 x0_32 x0_35 x0_36 x0_37 r_2_7 x0_49 x0_50 a1 a2 a3 a4 a5 a6 a7) H := hP
  have hD : va_D A (wW_X11_laySignals G h0 h1 h2 h3 h4 h5 h6 h7 y0_2 y0_3 y0_4 y0_6 y0_18 y0_21 y0_22 y0_23 y0_24 y0_25 y0_26 y0_33 y0_34 y0_43 y0_45 y0_46 y0_47 y0_48 x0_5 x0_7 x0_8 x0_9 x0_10 x0_11 x0_12 x0_13 x0_14 x0_15 x0_16 x0_17 x0_19 x0_20 x0_27 x0_28 x0_29 x0_30 x0_31 x0_32 x0_35 x0_36 x0_37 r_2_7 x0_49 x0_50 a1 a2 a3 a4 a5 a6 a7) := hD
  refine lv_iconst (v := (0 : Int32)) hx hb dX11_laySignals_8 (by decide) ?_
  refine lv_istore_n (lv' := [(1, .int (0 : Int32)), (0, .ref h0)]) hx hb dX11_laySignals_9 rfl hl (by decide) rfl (fun ls hl => ?_)
  exact kL10 _ _ _ _ _ _ _ _ hf _ _ hP hD hS _ (lv_sub hl [1, 0] rfl)
theorem yk_X11_laySignals : ykV yX11_laySignals RX11 cX11_laySignals 2 none 0 := ⟨wd_1895, wd_118, wd_142, wd_1896, rfl, by decide +kernel, by decide +kernel, by decide +kernel⟩
theorem dX11_hasMany_0 : decode cX11_hasMany 0 = .ok (.iconst 0, 1) := by decide +kernel
theorem dX11_hasMany_1 : decode cX11_hasMany 1 = .ok (.istore_n 2, 1) := by decide +kernel
theorem dX11_hasMany_2 : decode cX11_hasMany 2 = .ok (.iconst 0, 1) := by decide +kernel
theorem dX11_hasMany_3 : decode cX11_hasMany 3 = .ok (.istore_n 3, 1) := by decide +kernel
theorem dX11_hasMany_4 : decode cX11_hasMany 4 = .ok (.iload_n 3, 1) := by decide +kernel
theorem dX11_hasMany_5 : decode cX11_hasMany 5 = .ok (.aload_n 0, 1) := by decide +kernel
theorem dX11_hasMany_6 : decode cX11_hasMany 6 = .ok (.getfield 442, 3) := by decide +kernel
theorem dX11_hasMany_9 : decode cX11_hasMany 9 = .ok (.if_icmp .ge 22, 3) := by decide +kernel
theorem dX11_hasMany_12 : decode cX11_hasMany 12 = .ok (.iload_n 2, 1) := by decide +kernel
theorem dX11_hasMany_13 : decode cX11_hasMany 13 = .ok (.aload_n 0, 1) := by decide +kernel
theorem dX11_hasMany_14 : decode cX11_hasMany 14 = .ok (.getfield 61, 3) := by decide +kernel
theorem dX11_hasMany_17 : decode cX11_hasMany 17 = .ok (.iload_n 3, 1) := by decide +kernel
theorem dX11_hasMany_18 : decode cX11_hasMany 18 = .ok (.iaload, 1) := by decide +kernel
theorem dX11_hasMany_19 : decode cX11_hasMany 19 = .ok (.iload_n 1, 1) := by decide +kernel
theorem dX11_hasMany_20 : decode cX11_hasMany 20 = .ok (.ishr, 1) := by decide +kernel
theorem dX11_hasMany_21 : decode cX11_hasMany 21 = .ok (.iconst 1, 1) := by decide +kernel
theorem dX11_hasMany_22 : decode cX11_hasMany 22 = .ok (.iand, 1) := by decide +kernel
theorem dX11_hasMany_23 : decode cX11_hasMany 23 = .ok (.iadd, 1) := by decide +kernel
theorem dX11_hasMany_24 : decode cX11_hasMany 24 = .ok (.istore_n 2, 1) := by decide +kernel
theorem dX11_hasMany_25 : decode cX11_hasMany 25 = .ok (.iinc 3 1, 3) := by decide +kernel
theorem dX11_hasMany_28 : decode cX11_hasMany 28 = .ok (.goto (-24), 3) := by decide +kernel
theorem dX11_hasMany_31 : decode cX11_hasMany 31 = .ok (.iload_n 2, 1) := by decide +kernel
theorem dX11_hasMany_32 : decode cX11_hasMany 32 = .ok (.ireturn, 1) := by decide +kernel
def wW_X11_hasMany (G : GG) (h0 h1 y0_0 y0_1 y0_2 y0_3 y0_4 y0_6 y0_18 y0_21 y0_22 y0_23 y0_24 y0_25 y0_26 y0_33 y0_34 y0_39 y0_40 y0_41 y0_42 y0_43 y0_45 y0_46 y0_47 y0_48 : Nat) (x0_5 : Int32) (x0_7 : Int32) (x0_8 : Int32) (x0_9 : Int32) (x0_10 : Int32) (x0_11 : Int32) (x0_12 : Int32) (x0_13 : Int32) (x0_14 : Int32) (x0_15 : Int32) (x0_16 : Int32) (x0_17 : Int32) (x0_19 : Int32) (x0_20 : Int32) (x0_27 : Int32) (x0_28 : Int32) (x0_29 : Int32) (x0_30 : Int32) (x0_31 : Int32) (x0_32 : Int32) (x0_35 : Int32) (x0_36 : Int32) (x0_37 : Int32) (x0_44 : Int32) (x0_49 : Int32) (x0_50 : Int32) (a1 : Nat → Int32) : va_W := [(h0, .inr (11, [.ref y0_0, .ref y0_1, .ref y0_2, .ref y0_3, .ref y0_4, .int x0_5, .ref y0_6, .int x0_7, .int x0_8, .int x0_9, .int x0_10, .int x0_11, .int x0_12, .int x0_13, .int x0_14, .int x0_15, .int x0_16, .int x0_17, .ref y0_18, .int x0_19, .int x0_20, .ref y0_21, .ref y0_22, .ref y0_23, .ref y0_24, .ref y0_25, .ref y0_26, .int x0_27, .int x0_28, .int x0_29, .int x0_30, .int x0_31, .int x0_32, .ref y0_33, .ref y0_34, .int x0_35, .int x0_36, .int x0_37, .ref h1, .ref y0_39, .ref y0_40, .ref y0_41, .ref y0_42, .ref y0_43, .int x0_44, .ref y0_45, .ref y0_46, .ref y0_47, .ref y0_48, .int x0_49, .int x0_50])), (h1, .inl (G.2.1, 240, .inl a1))]
set_option maxHeartbeats 4000000 in
set_option maxRecDepth 100000 in
theorem c_X11_hasMany (l : Launch) (G : GG) (h0 h1 y0_0 y0_1 y0_2 y0_3 y0_4 y0_6 y0_18 y0_21 y0_22 y0_23 y0_24 y0_25 y0_26 y0_33 y0_34 y0_39 y0_40 y0_41 y0_42 y0_43 y0_45 y0_46 y0_47 y0_48 : Nat) (sz : Nat) (x0_5 : Int32) (x0_7 : Int32) (x0_8 : Int32) (x0_9 : Int32) (x0_10 : Int32) (x0_11 : Int32) (x0_12 : Int32) (x0_13 : Int32) (x0_14 : Int32) (x0_15 : Int32) (x0_16 : Int32) (x0_17 : Int32) (x0_19 : Int32) (x0_20 : Int32) (x0_27 : Int32) (x0_28 : Int32) (x0_29 : Int32) (x0_30 : Int32) (x0_31 : Int32) (x0_32 : Int32) (x0_35 : Int32) (x0_36 : Int32) (x0_37 : Int32) (x0_44 : Int32) (x0_49 : Int32) (x0_50 : Int32) (a1 : Nat → Int32) (F : Nat) (b1 : Int32)  (r0 : Int32) (hf : p_X11_hasMany F x0_44 a1 b1 = some r0) : Met l yX11_hasMany (.code yX11_hasMany cX11_hasMany 4 (some .int) :: gtbl) ({ frames := 0, cells := 0, slots := 0, locals := 0 } : Room) (PcS G [.ref h0, .int b1] (wW_X11_hasMany G h0 h1 y0_0 y0_1 y0_2 y0_3 y0_4 y0_6 y0_18 y0_21 y0_22 y0_23 y0_24 y0_25 y0_26 y0_33 y0_34 y0_39 y0_40 y0_41 y0_42 y0_43 y0_45 y0_46 y0_47 y0_48 x0_5 x0_7 x0_8 x0_9 x0_10 x0_11 x0_12 x0_13 x0_14 x0_15 x0_16 x0_17 x0_19 x0_20 x0_27 x0_28 x0_29 x0_30 x0_31 x0_32 x0_35 x0_36 x0_37 x0_44 x0_49 x0_50 a1) sz) (QiS G r0 (va_A (wW_X11_hasMany G h0 h1 y0_0 y0_1 y0_2 y0_3 y0_4 y0_6 y0_18 y0_21 y0_22 y0_23 y0_24 y0_25 y0_26 y0_33 y0_34 y0_39 y0_40 y0_41 y0_42 y0_43 y0_45 y0_46 y0_47 y0_48 x0_5 x0_7 x0_8 x0_9 x0_10 x0_11 x0_12 x0_13 x0_14 x0_15 x0_16 x0_17 x0_19 x0_20 x0_27 x0_28 x0_29 x0_30 x0_31 x0_32 x0_35 x0_36 x0_37 x0_44 x0_49 x0_50 a1) sz) (wW_X11_hasMany G h0 h1 y0_0 y0_1 y0_2 y0_3 y0_4 y0_6 y0_18 y0_21 y0_22 y0_23 y0_24 y0_25 y0_26 y0_33 y0_34 y0_39 y0_40 y0_41 y0_42 y0_43 y0_45 y0_46 y0_47 y0_48 x0_5 x0_7 x0_8 x0_9 x0_10 x0_11 x0_12 x0_13 x0_14 x0_15 x0_16 x0_17 x0_19 x0_20 x0_27 x0_28 x0_29 x0_30 x0_31 x0_32 x0_35 x0_36 x0_37 x0_44 x0_49 x0_50 a1)) 0 0 (va_A (wW_X11_hasMany G h0 h1 y0_0 y0_1 y0_2 y0_3 y0_4 y0_6 y0_18 y0_21 y0_22 y0_23 y0_24 y0_25 y0_26 y0_33 y0_34 y0_39 y0_40 y0_41 y0_42 y0_43 y0_45 y0_46 y0_47 y0_48 x0_5 x0_7 x0_8 x0_9 x0_10 x0_11 x0_12 x0_13 x0_14 x0_15 x0_16 x0_17 x0_19 x0_20 x0_27 x0_28 x0_29 x0_30 x0_31 x0_32 x0_35 x0_36 x0_37 x0_44 x0_49 x0_50 a1) sz) := by
  refine met_start (by decide) (Nat.le_of_ble_eq_true rfl) ?_
  intro p e s m below meth c hC hr hlk hnm hK hP hD hA hS hX ls hl
  obtain ⟨hx, hb, hml, hown, ht0⟩ := hC
  have hown : s.vm.findClass RX11 = some m.cls := hown
  generalize va_A (wW_X11_hasMany G h0 h1 y0_0 y0_1 y0_2 y0_3 y0_4 y0_6 y0_18 y0_21 y0_22 y0_23 y0_24 y0_25 y0_26 y0_33 y0_34 y0_39 y0_40 y0_41 y0_42 y0_43 y0_45 y0_46 y0_47 y0_48 x0_5 x0_7 x0_8 x0_9 x0_10 x0_11 x0_12 x0_13 x0_14 x0_15 x0_16 x0_17 x0_19 x0_20 x0_27 x0_28 x0_29 x0_30 x0_31 x0_32 x0_35 x0_36 x0_37 x0_44 x0_49 x0_50 a1) sz = A at hD hA hS hX ⊢
  have hl : lv_has ls 4 [(0, .ref h0), (1, .int b1)] := hl
  have hf : p_X11_hasMany F x0_44 a1 b1 = some r0 := hf
  have kL4 : ∀ (c4_1 : Int32) (n4 : Nat) (u4_2 : Int32) (u4_3 : Int32), p_X11_hasMany_L4 F x0_44 a1 c4_1 n4 u4_2 u4_3 = some r0 → ∀ (H : Heap) (locs : List Loc), va_P G.1 vwCl (wW_X11_hasMany G h0 h1 y0_0 y0_1 y0_2 y0_3 y0_4 y0_6 y0_18 y0_21 y0_22 y0_23 y0_24 y0_25 y0_26 y0_33 y0_34 y0_39 y0_40 y0_41 y0_42 y0_43 y0_45 y0_46 y0_47 y0_48 x0_5 x0_7 x0_8 x0_9 x0_10 x0_11 x0_12 x0_13 x0_14 x0_15 x0_16 x0_17 x0_19 x0_20 x0_27 x0_28 x0_29 x0_30 x0_31 x0_32 x0_35 x0_36 x0_37 x0_44 x0_49 x0_50 a1) H → va_D A (wW_X11_hasMany G h0 h1 y0_0 y0_1 y0_2 y0_3 y0_4 y0_6 y0_18 y0_21 y0_22 y0_23 y0_24 y0_25 y0_26 y0_33 y0_34 y0_39 y0_40 y0_41 y0_42 y0_43 y0_45 y0_46 y0_47 y0_48 x0_5 x0_7 x0_8 x0_9 x0_10 x0_11 x0_12 x0_13 x0_14 x0_15 x0_16 x0_17 x0_19 x0_20 x0_27 x0_28 x0_29 x0_30 x0_31 x0_32 x0_35 x0_36 x0_37 x0_44 x0_49 x0_50 a1) → va_S A s.heap H locs → ∀ ls : Array Slot, lv_has ls 4 [(0, .ref h0), (1, .int c4_1), (2, .int u4_2), (3, .int u4_3)] → W p l e ({ frames := 0, cells := 0, slots := 0, locals := 0 } : Room) s m (List.toArray [.ref h0, .int b1]) below meth c H locs 0 0 (MQ below (QiS G r0 A (wW_X11_hasMany G h0 h1 y0_0 y0_1 y0_2 y0_3 y0_4 y0_6 y0_18 y0_21 y0_22 y0_23 y0_24 y0_25 y0_26 y0_33 y0_34 y0_39 y0_40 y0_41 y0_42 y0_43 y0_45 y0_46 y0_47 y0_48 x0_5 x0_7 x0_8 x0_9 x0_10 x0_11 x0_12 x0_13 x0_14 x0_15 x0_16 x0_17 x0_19 x0_20 x0_27 x0_28 x0_29 x0_30 x0_31 x0_32 x0_35 x0_36 x0_37 x0_44 x0_49 x0_50 a1)) (List.toArray [.ref h0, .int b1]) s 0 0 A) (F0 m 4 ls []) := by
    intro c4_1 n4
    induction n4 with
    | zero =>
      intro u4_2 u4_3 hf
      cases hf
    | succ n4 ih4 =>
      intro u4_2 u4_3 hf H locs hP hD hS ls hl
      have hf : p_X11_hasMany_L4b F x0_44 a1 c4_1 (p_X11_hasMany_L4 F x0_44 a1 c4_1 n4) u4_2 u4_3 = some r0 := hf
      refine lv_iload_n hx hb dX11_hasMany_4 rfl (lv_at hl 3 rfl) ?_
      refine lv_aload_n hx hb dX11_hasMany_5 rfl (lv_at hl 0 rfl) ?_
      refine va_get (ci := 11) (v := .int x0_44) (C := RX11) (T := TX11) (N := 51) hx hb ht0 iX11 hown hK hP 0 rfl rfl 44 (by decide) (ht0 _ wd_1450) (fun _ h9 => h9) rfl dX11_hasMany_6 ?_
      refine lv_icmp_ge (tgt := 31) hx hb dX11_hasMany_9 (by decide) (fun c1 => ?_) (fun c1 => ?_)
      · have hf := of_pos hf c1
        refine lv_iload_n hx hb dX11_hasMany_31 rfl (lv_at hl 2 rfl) ?_
        cases hf
        exact ret_i hx hb hr hlk hK hP hD hS dX11_hasMany_32
      · have hf := of_neg hf c1
        refine lv_iload_n hx hb dX11_hasMany_12 rfl (lv_at hl 2 rfl) ?_
        refine lv_aload_n hx hb dX11_hasMany_13 rfl (lv_at hl 0 rfl) ?_
        refine va_get (ci := 11) (v := .ref h1) (C := RX11) (T := TX11) (N := 51) hx hb ht0 iX11 hown hK hP 0 rfl rfl 38 (by decide) (ht0 _ wd_1444) (fun _ h9 => h9) rfl dX11_hasMany_14 ?_
        refine lv_iload_n hx hb dX11_hasMany_17 rfl (lv_at hl 3 rfl) ?_
        obtain ⟨g2, hf⟩ := of_grd hf
        refine va_iald hx hb hK hP 1 0 rfl rfl g2 dX11_hasMany_18 ?_
        refine lv_iload_n hx hb dX11_hasMany_19 rfl (lv_at hl 1 rfl) ?_
        refine lv_ishr hx hb dX11_hasMany_20 ?_
        refine lv_iconst (v := (1 : Int32)) hx hb dX11_hasMany_21 (by decide) ?_
        refine lv_iand hx hb dX11_hasMany_22 ?_
        refine lv_iadd hx hb dX11_hasMany_23 ?_
        refine lv_topi (fun z3 ez3 => ?_)
        have hf := of_jlet hf ez3
        refine lv_istore_n (lv' := [(2, .int z3), (0, .ref h0), (1, .int c4_1), (3, .int u4_3)]) hx hb dX11_hasMany_24 rfl hl (by decide) rfl (fun ls hl => ?_)
        refine lv_iinc (v := u4_3 + (1 : Int32)) (lv' := [(3, .int (u4_3 + (1 : Int32))), (2, .int z3), (0, .ref h0), (1, .int c4_1)]) hx hb dX11_hasMany_25 hl (k := 3) rfl (by rfl) (by decide) rfl (fun ls hl => ?_)
        refine lv_goto (tgt := 4) hx hb dX11_hasMany_28 (by decide) ?_
        exact ih4 _ _ hf _ _ hP hD hS _ (lv_sub hl [2, 3, 1, 0] rfl)
  refine lv_iconst (v := (0 : Int32)) hx hb dX11_hasMany_0 (by decide) ?_
  refine lv_istore_n (lv' := [(2, .int (0 : Int32)), (0, .ref h0), (1, .int b1)]) hx hb dX11_hasMany_1 rfl hl (by decide) rfl (fun ls hl => ?_)
  refine lv_iconst (v := (0 : Int32)) hx hb dX11_hasMany_2 (by decide) ?_
  refine lv_istore_n (lv' := [(3, .int (0 : Int32)), (2, .int (0 : Int32)), (0, .ref h0), (1, .int b1)]) hx hb dX11_hasMany_3 rfl hl (by decide) rfl (fun ls hl => ?_)
  exact kL4 _ _ _ _ hf _ _ hP hD hS _ (lv_sub hl [2, 3, 1, 0] rfl)
theorem yk_X11_hasMany : ykV yX11_hasMany RX11 cX11_hasMany 4 (some .int) 1 := ⟨wd_1903, wd_120, wd_142, wd_1904, rfl, by decide +kernel, by decide +kernel, by decide +kernel⟩
theorem dX11_deepBy_0 : decode cX11_deepBy 0 = .ok (.iconst 0, 1) := by decide +kernel
theorem dX11_deepBy_1 : decode cX11_deepBy 1 = .ok (.istore_n 2, 1) := by decide +kernel
theorem dX11_deepBy_2 : decode cX11_deepBy 2 = .ok (.iload_n 2, 1) := by decide +kernel
theorem dX11_deepBy_3 : decode cX11_deepBy 3 = .ok (.sipush 260, 3) := by decide +kernel
theorem dX11_deepBy_6 : decode cX11_deepBy 6 = .ok (.if_icmp .ge 16, 3) := by decide +kernel
theorem dX11_deepBy_9 : decode cX11_deepBy 9 = .ok (.aload_n 0, 1) := by decide +kernel
theorem dX11_deepBy_10 : decode cX11_deepBy 10 = .ok (.getfield 76, 3) := by decide +kernel
theorem dX11_deepBy_13 : decode cX11_deepBy 13 = .ok (.iload_n 2, 1) := by decide +kernel
theorem dX11_deepBy_14 : decode cX11_deepBy 14 = .ok (.iconst 0, 1) := by decide +kernel
theorem dX11_deepBy_15 : decode cX11_deepBy 15 = .ok (.iastore, 1) := by decide +kernel
theorem dX11_deepBy_16 : decode cX11_deepBy 16 = .ok (.iinc 2 1, 3) := by decide +kernel
theorem dX11_deepBy_19 : decode cX11_deepBy 19 = .ok (.goto (-17), 3) := by decide +kernel
theorem dX11_deepBy_22 : decode cX11_deepBy 22 = .ok (.aload_n 0, 1) := by decide +kernel
theorem dX11_deepBy_23 : decode cX11_deepBy 23 = .ok (.iload_n 1, 1) := by decide +kernel
theorem dX11_deepBy_24 : decode cX11_deepBy 24 = .ok (.invokevirtual 448, 3) := by decide +kernel
theorem dX11_deepBy_27 : decode cX11_deepBy 27 = .ok (.istore_n 2, 1) := by decide +kernel
theorem dX11_deepBy_28 : decode cX11_deepBy 28 = .ok (.iconst 0, 1) := by decide +kernel
theorem dX11_deepBy_29 : decode cX11_deepBy 29 = .ok (.istore_n 3, 1) := by decide +kernel
theorem dX11_deepBy_30 : decode cX11_deepBy 30 = .ok (.iload_n 3, 1) := by decide +kernel
theorem dX11_deepBy_31 : decode cX11_deepBy 31 = .ok (.aload_n 0, 1) := by decide +kernel
theorem dX11_deepBy_32 : decode cX11_deepBy 32 = .ok (.getfield 442, 3) := by decide +kernel
theorem dX11_deepBy_35 : decode cX11_deepBy 35 = .ok (.if_icmp .ge 33, 3) := by decide +kernel
theorem dX11_deepBy_38 : decode cX11_deepBy 38 = .ok (.aload_n 0, 1) := by decide +kernel
theorem dX11_deepBy_39 : decode cX11_deepBy 39 = .ok (.getfield 76, 3) := by decide +kernel
theorem dX11_deepBy_42 : decode cX11_deepBy 42 = .ok (.aload_n 0, 1) := by decide +kernel
theorem dX11_deepBy_43 : decode cX11_deepBy 43 = .ok (.getfield 64, 3) := by decide +kernel
theorem dX11_deepBy_46 : decode cX11_deepBy 46 = .ok (.iload_n 3, 1) := by decide +kernel
theorem dX11_deepBy_47 : decode cX11_deepBy 47 = .ok (.iaload, 1) := by decide +kernel
theorem dX11_deepBy_48 : decode cX11_deepBy 48 = .ok (.dup2, 1) := by decide +kernel
theorem dX11_deepBy_49 : decode cX11_deepBy 49 = .ok (.iaload, 1) := by decide +kernel
theorem dX11_deepBy_50 : decode cX11_deepBy 50 = .ok (.aload_n 0, 1) := by decide +kernel
theorem dX11_deepBy_51 : decode cX11_deepBy 51 = .ok (.getfield 61, 3) := by decide +kernel
theorem dX11_deepBy_54 : decode cX11_deepBy 54 = .ok (.iload_n 3, 1) := by decide +kernel
theorem dX11_deepBy_55 : decode cX11_deepBy 55 = .ok (.iaload, 1) := by decide +kernel
theorem dX11_deepBy_56 : decode cX11_deepBy 56 = .ok (.iload_n 1, 1) := by decide +kernel
theorem dX11_deepBy_57 : decode cX11_deepBy 57 = .ok (.ishr, 1) := by decide +kernel
theorem dX11_deepBy_58 : decode cX11_deepBy 58 = .ok (.iconst 1, 1) := by decide +kernel
theorem dX11_deepBy_59 : decode cX11_deepBy 59 = .ok (.iand, 1) := by decide +kernel
theorem dX11_deepBy_60 : decode cX11_deepBy 60 = .ok (.iadd, 1) := by decide +kernel
theorem dX11_deepBy_61 : decode cX11_deepBy 61 = .ok (.iastore, 1) := by decide +kernel
theorem dX11_deepBy_62 : decode cX11_deepBy 62 = .ok (.iinc 3 1, 3) := by decide +kernel
theorem dX11_deepBy_65 : decode cX11_deepBy 65 = .ok (.goto (-35), 3) := by decide +kernel
theorem dX11_deepBy_68 : decode cX11_deepBy 68 = .ok (.iconst 0, 1) := by decide +kernel
theorem dX11_deepBy_69 : decode cX11_deepBy 69 = .ok (.istore_n 3, 1) := by decide +kernel
theorem dX11_deepBy_70 : decode cX11_deepBy 70 = .ok (.iload_n 2, 1) := by decide +kernel
theorem dX11_deepBy_71 : decode cX11_deepBy 71 = .ok (.iconst 1, 1) := by decide +kernel
theorem dX11_deepBy_72 : decode cX11_deepBy 72 = .ok (.if_icmp .le 53, 3) := by decide +kernel
theorem dX11_deepBy_75 : decode cX11_deepBy 75 = .ok (.aload_n 0, 1) := by decide +kernel
theorem dX11_deepBy_76 : decode cX11_deepBy 76 = .ok (.getfield 76, 3) := by decide +kernel
theorem dX11_deepBy_79 : decode cX11_deepBy 79 = .ok (.iload_n 3, 1) := by decide +kernel
theorem dX11_deepBy_80 : decode cX11_deepBy 80 = .ok (.iaload, 1) := by decide +kernel
theorem dX11_deepBy_81 : decode cX11_deepBy 81 = .ok (.iconst 1, 1) := by decide +kernel
theorem dX11_deepBy_82 : decode cX11_deepBy 82 = .ok (.iadd, 1) := by decide +kernel
theorem dX11_deepBy_83 : decode cX11_deepBy 83 = .ok (.iconst 2, 1) := by decide +kernel
theorem dX11_deepBy_84 : decode cX11_deepBy 84 = .ok (.idiv, 1) := by decide +kernel
theorem dX11_deepBy_85 : decode cX11_deepBy 85 = .ok (.istore 4, 2) := by decide +kernel
theorem dX11_deepBy_87 : decode cX11_deepBy 87 = .ok (.iload_n 2, 1) := by decide +kernel
theorem dX11_deepBy_88 : decode cX11_deepBy 88 = .ok (.aload_n 0, 1) := by decide +kernel
theorem dX11_deepBy_89 : decode cX11_deepBy 89 = .ok (.getfield 76, 3) := by decide +kernel
theorem dX11_deepBy_92 : decode cX11_deepBy 92 = .ok (.iload_n 3, 1) := by decide +kernel
theorem dX11_deepBy_93 : decode cX11_deepBy 93 = .ok (.iaload, 1) := by decide +kernel
theorem dX11_deepBy_94 : decode cX11_deepBy 94 = .ok (.iload 4, 2) := by decide +kernel
theorem dX11_deepBy_96 : decode cX11_deepBy 96 = .ok (.isub, 1) := by decide +kernel
theorem dX11_deepBy_97 : decode cX11_deepBy 97 = .ok (.isub, 1) := by decide +kernel
theorem dX11_deepBy_98 : decode cX11_deepBy 98 = .ok (.istore_n 2, 1) := by decide +kernel
theorem dX11_deepBy_99 : decode cX11_deepBy 99 = .ok (.aload_n 0, 1) := by decide +kernel
theorem dX11_deepBy_100 : decode cX11_deepBy 100 = .ok (.getfield 76, 3) := by decide +kernel
theorem dX11_deepBy_103 : decode cX11_deepBy 103 = .ok (.iload_n 3, 1) := by decide +kernel
theorem dX11_deepBy_104 : decode cX11_deepBy 104 = .ok (.iconst 1, 1) := by decide +kernel
theorem dX11_deepBy_105 : decode cX11_deepBy 105 = .ok (.iadd, 1) := by decide +kernel
theorem dX11_deepBy_106 : decode cX11_deepBy 106 = .ok (.dup2, 1) := by decide +kernel
theorem dX11_deepBy_107 : decode cX11_deepBy 107 = .ok (.iaload, 1) := by decide +kernel
theorem dX11_deepBy_108 : decode cX11_deepBy 108 = .ok (.iload 4, 2) := by decide +kernel
theorem dX11_deepBy_110 : decode cX11_deepBy 110 = .ok (.iadd, 1) := by decide +kernel
theorem dX11_deepBy_111 : decode cX11_deepBy 111 = .ok (.iastore, 1) := by decide +kernel
theorem dX11_deepBy_112 : decode cX11_deepBy 112 = .ok (.aload_n 0, 1) := by decide +kernel
theorem dX11_deepBy_113 : decode cX11_deepBy 113 = .ok (.getfield 76, 3) := by decide +kernel
theorem dX11_deepBy_116 : decode cX11_deepBy 116 = .ok (.iload_n 3, 1) := by decide +kernel
theorem dX11_deepBy_117 : decode cX11_deepBy 117 = .ok (.iconst 0, 1) := by decide +kernel
theorem dX11_deepBy_118 : decode cX11_deepBy 118 = .ok (.iastore, 1) := by decide +kernel
theorem dX11_deepBy_119 : decode cX11_deepBy 119 = .ok (.iinc 3 1, 3) := by decide +kernel
theorem dX11_deepBy_122 : decode cX11_deepBy 122 = .ok (.goto (-52), 3) := by decide +kernel
theorem dX11_deepBy_125 : decode cX11_deepBy 125 = .ok (.iload_n 2, 1) := by decide +kernel
theorem dX11_deepBy_126 : decode cX11_deepBy 126 = .ok (.iconst 1, 1) := by decide +kernel
theorem dX11_deepBy_127 : decode cX11_deepBy 127 = .ok (.if_icmp .ne 18, 3) := by decide +kernel
theorem dX11_deepBy_130 : decode cX11_deepBy 130 = .ok (.aload_n 0, 1) := by decide +kernel
theorem dX11_deepBy_131 : decode cX11_deepBy 131 = .ok (.getfield 76, 3) := by decide +kernel
theorem dX11_deepBy_134 : decode cX11_deepBy 134 = .ok (.iload_n 3, 1) := by decide +kernel
theorem dX11_deepBy_135 : decode cX11_deepBy 135 = .ok (.iaload, 1) := by decide +kernel
theorem dX11_deepBy_136 : decode cX11_deepBy 136 = .ok (.ifCond .ne 9, 3) := by decide +kernel
theorem dX11_deepBy_139 : decode cX11_deepBy 139 = .ok (.iinc 3 1, 3) := by decide +kernel
theorem dX11_deepBy_142 : decode cX11_deepBy 142 = .ok (.goto (-17), 3) := by decide +kernel
theorem dX11_deepBy_145 : decode cX11_deepBy 145 = .ok (.iload_n 2, 1) := by decide +kernel
theorem dX11_deepBy_146 : decode cX11_deepBy 146 = .ok (.ifCond .ne 7, 3) := by decide +kernel
theorem dX11_deepBy_149 : decode cX11_deepBy 149 = .ok (.iconst 0, 1) := by decide +kernel
theorem dX11_deepBy_150 : decode cX11_deepBy 150 = .ok (.goto 4, 3) := by decide +kernel
theorem dX11_deepBy_153 : decode cX11_deepBy 153 = .ok (.iload_n 3, 1) := by decide +kernel
theorem dX11_deepBy_154 : decode cX11_deepBy 154 = .ok (.ireturn, 1) := by decide +kernel
def wW_X11_deepBy (G : GG) (h0 h1 h2 h3 y0_0 y0_1 y0_2 y0_3 y0_4 y0_6 y0_18 y0_21 y0_22 y0_23 y0_24 y0_25 y0_26 y0_33 y0_34 y0_40 y0_41 y0_42 y0_45 y0_46 y0_47 y0_48 : Nat) (x0_5 : Int32) (x0_7 : Int32) (x0_8 : Int32) (x0_9 : Int32) (x0_10 : Int32) (x0_11 : Int32) (x0_12 : Int32) (x0_13 : Int32) (x0_14 : Int32) (x0_15 : Int32) (x0_16 : Int32) (x0_17 : Int32) (x0_19 : Int32) (x0_20 : Int32) (x0_27 : Int32) (x0_28 : Int32) (x0_29 : Int32) (x0_30 : Int32) (x0_31 : Int32) (x0_32 : Int32) (x0_35 : Int32) (x0_36 : Int32) (x0_37 : Int32) (x0_44 : Int32) (x0_49 : Int32) (x0_50 : Int32) (a1 : Nat → Int32) (a2 : Nat → Int32) (a3 : Nat → Int32) : va_W := [(h0, .inr (11, [.ref y0_0, .ref y0_1, .ref y0_2, .ref y0_3, .ref y0_4, .int x0_5, .ref y0_6, .int x0_7, .int x0_8, .int x0_9, .int x0_10, .int x0_11, .int x0_12, .int x0_13, .int x0_14, .int x0_15, .int x0_16, .int x0_17, .ref y0_18, .int x0_19, .int x0_20, .ref y0_21, .ref y0_22, .ref y0_23, .ref y0_24, .ref y0_25, .ref y0_26, .int x0_27, .int x0_28, .int x0_29, .int x0_30, .int x0_31, .int x0_32, .ref y0_33, .ref y0_34, .int x0_35, .int x0_36, .int x0_37, .ref h1, .ref h2, .ref y0_40, .ref y0_41, .ref y0_42, .ref h3, .int x0_44, .ref y0_45, .ref y0_46, .ref y0_47, .ref y0_48, .int x0_49, .int x0_50])), (h1, .inl (G.2.1, 240, .inl a1)), (h2, .inl (G.2.1, 240, .inl a2)), (h3, .inl (G.2.1, 260, .inl a3))]
set_option maxHeartbeats 4000000 in
set_option maxRecDepth 100000 in
theorem c_X11_deepBy (l : Launch) (G : GG) (h0 h1 h2 h3 y0_0 y0_1 y0_2 y0_3 y0_4 y0_6 y0_18 y0_21 y0_22 y0_23 y0_24 y0_25 y0_26 y0_33 y0_34 y0_40 y0_41 y0_42 y0_45 y0_46 y0_47 y0_48 : Nat) (sz : Nat) (x0_5 : Int32) (x0_7 : Int32) (x0_8 : Int32) (x0_9 : Int32) (x0_10 : Int32) (x0_11 : Int32) (x0_12 : Int32) (x0_13 : Int32) (x0_14 : Int32) (x0_15 : Int32) (x0_16 : Int32) (x0_17 : Int32) (x0_19 : Int32) (x0_20 : Int32) (x0_27 : Int32) (x0_28 : Int32) (x0_29 : Int32) (x0_30 : Int32) (x0_31 : Int32) (x0_32 : Int32) (x0_35 : Int32) (x0_36 : Int32) (x0_37 : Int32) (x0_44 : Int32) (x0_49 : Int32) (x0_50 : Int32) (a1 : Nat → Int32) (a2 : Nat → Int32) (a3 : Nat → Int32) (F : Nat) (b1 : Int32)  (r0 : Int32) (e_a3 : Nat → Int32) (hf : p_X11_deepBy F x0_44 a1 a2 a3 b1 = some (r0, e_a3)) : Met l yX11_deepBy (.code yX11_deepBy cX11_deepBy 5 (some .int) :: gtbl) ({ frames := 1, cells := 0, slots := 0, locals := 23 } : Room) (PcS G [.ref h0, .int b1] (wW_X11_deepBy G h0 h1 h2 h3 y0_0 y0_1 y0_2 y0_3 y0_4 y0_6 y0_18 y0_21 y0_22 y0_23 y0_24 y0_25 y0_26 y0_33 y0_34 y0_40 y0_41 y0_42 y0_45 y0_46 y0_47 y0_48 x0_5 x0_7 x0_8 x0_9 x0_10 x0_11 x0_12 x0_13 x0_14 x0_15 x0_16 x0_17 x0_19 x0_20 x0_27 x0_28 x0_29 x0_30 x0_31 x0_32 x0_35 x0_36 x0_37 x0_44 x0_49 x0_50 a1 a2 a3) sz) (QiS G r0 (va_A (wW_X11_deepBy G h0 h1 h2 h3 y0_0 y0_1 y0_2 y0_3 y0_4 y0_6 y0_18 y0_21 y0_22 y0_23 y0_24 y0_25 y0_26 y0_33 y0_34 y0_40 y0_41 y0_42 y0_45 y0_46 y0_47 y0_48 x0_5 x0_7 x0_8 x0_9 x0_10 x0_11 x0_12 x0_13 x0_14 x0_15 x0_16 x0_17 x0_19 x0_20 x0_27 x0_28 x0_29 x0_30 x0_31 x0_32 x0_35 x0_36 x0_37 x0_44 x0_49 x0_50 a1 a2 a3) sz) (wW_X11_deepBy G h0 h1 h2 h3 y0_0 y0_1 y0_2 y0_3 y0_4 y0_6 y0_18 y0_21 y0_22 y0_23 y0_24 y0_25 y0_26 y0_33 y0_34 y0_40 y0_41 y0_42 y0_45 y0_46 y0_47 y0_48 x0_5 x0_7 x0_8 x0_9 x0_10 x0_11 x0_12 x0_13 x0_14 x0_15 x0_16 x0_17 x0_19 x0_20 x0_27 x0_28 x0_29 x0_30 x0_31 x0_32 x0_35 x0_36 x0_37 x0_44 x0_49 x0_50 a1 a2 e_a3)) 0 0 (va_A (wW_X11_deepBy G h0 h1 h2 h3 y0_0 y0_1 y0_2 y0_3 y0_4 y0_6 y0_18 y0_21 y0_22 y0_23 y0_24 y0_25 y0_26 y0_33 y0_34 y0_40 y0_41 y0_42 y0_45 y0_46 y0_47 y0_48 x0_5 x0_7 x0_8 x0_9 x0_10 x0_11 x0_12 x0_13 x0_14 x0_15 x0_16 x0_17 x0_19 x0_20 x0_27 x0_28 x0_29 x0_30 x0_31 x0_32 x0_35 x0_36 x0_37 x0_44 x0_49 x0_50 a1 a2 a3) sz) := by
  refine met_start (by decide) (Nat.le_of_ble_eq_true rfl) ?_
  intro p e s m below meth c hC hr hlk hnm hK hP hD hA hS hX ls hl
  obtain ⟨hx, hb, hml, hown, ht0⟩ := hC
  have hown : s.vm.findClass RX11 = some m.cls := hown
  generalize va_A (wW_X11_deepBy G h0 h1 h2 h3 y0_0 y0_1 y0_2 y0_3 y0_4 y0_6 y0_18 y0_21 y0_22 y0_23 y0_24 y0_25 y0_26 y0_33 y0_34 y0_40 y0_41 y0_42 y0_45 y0_46 y0_47 y0_48 x0_5 x0_7 x0_8 x0_9 x0_10 x0_11 x0_12 x0_13 x0_14 x0_15 x0_16 x0_17 x0_19 x0_20 x0_27 x0_28 x0_29 x0_30 x0_31 x0_32 x0_35 x0_36 x0_37 x0_44 x0_49 x0_50 a1 a2 a3) sz = A at hD hA hS hX ⊢
  have hl : lv_has ls 5 [(0, .ref h0), (1, .int b1)] := hl
  have hf : p_X11_deepBy F x0_44 a1 a2 a3 b1 = some (r0, e_a3) := hf
  have kJ145 : ∀ (u145_2 : Int32) (u145_3 : Int32) (a3_145 : Nat → Int32), p_X11_deepBy_J145 F x0_44 a1 a2 u145_2 u145_3 a3_145 = some (r0, e_a3) → ∀ (H : Heap) (locs : List Loc), va_P G.1 vwCl (wW_X11_deepBy G h0 h1 h2 h3 y0_0 y0_1 y0_2 y0_3 y0_4 y0_6 y0_18 y0_21 y0_22 y0_23 y0_24 y0_25 y0_26 y0_33 y0_34 y0_40 y0_41 y0_42 y0_45 y0_46 y0_47 y0_48 x0_5 x0_7 x0_8 x0_9 x0_10 x0_11 x0_12 x0_13 x0_14 x0_15 x0_16 x0_17 x0_19 x0_20 x0_27 x0_28 x0_29 x0_30 x0_31 x0_32 x0_35 x0_36 x0_37 x0_44 x0_49 x0_50 a1 a2 a3_145) H → va_D A (wW_X11_deepBy G h0 h1 h2 h3 y0_0 y0_1 y0_2 y0_3 y0_4 y0_6 y0_18 y0_21 y0_22 y0_23 y0_24 y0_25 y0_26 y0_33 y0_34 y0_40 y0_41 y0_42 y0_45 y0_46 y0_47 y0_48 x0_5 x0_7 x0_8 x0_9 x0_10 x0_11 x0_12 x0_13 x0_14 x0_15 x0_16 x0_17 x0_19 x0_20 x0_27 x0_28 x0_29 x0_30 x0_31 x0_32 x0_35 x0_36 x0_37 x0_44 x0_49 x0_50 a1 a2 a3_145) → va_S A s.heap H locs → ∀ ls : Array Slot, lv_has ls 5 [(2, .int u145_2), (3, .int u145_3)] → W p l e ({ frames := 1, cells := 0, slots := 0, locals := 23 } : Room) s m (List.toArray [.ref h0, .int b1]) below meth c H locs 0 0 (MQ below (QiS G r0 A (wW_X11_deepBy G h0 h1 h2 h3 y0_0 y0_1 y0_2 y0_3 y0_4 y0_6 y0_18 y0_21 y0_22 y0_23 y0_24 y0_25 y0_26 y0_33 y0_34 y0_40 y0_41 y0_42 y0_45 y0_46 y0_47 y0_48 x0_5 x0_7 x0_8 x0_9 x0_10 x0_11 x0_12 x0_13 x0_14 x0_15 x0_16 x0_17 x0_19 x0_20 x0_27 x0_28 x0_29 x0_30 x0_31 x0_32 x0_35 x0_36 x0_37 x0_44 x0_49 x0_50 a1 a2 e_a3)) (List.toArray [.ref h0, .int b1]) s 0 0 A) (F0 m 145 ls []) := by
    intro u145_2 u145_3 a3_145 hf H locs hP hD hS ls hl
    refine lv_iload_n hx hb dX11_deepBy_145 rfl (lv_at hl 0 rfl) ?_
    refine lv_if_ne (tgt := 153) hx hb dX11_deepBy_146 (by decide) (fun c1 => ?_) (fun c1 => ?_)
    · have hf := of_neg hf c1
      refine lv_iload_n hx hb dX11_deepBy_153 rfl (lv_at hl 1 rfl) ?_
      cases hf
      exact ret_i hx hb hr hlk hK hP hD hS dX11_deepBy_154
    · have hf := of_pos hf c1
      refine lv_iconst (v := (0 : Int32)) hx hb dX11_deepBy_149 (by decide) ?_
      refine lv_goto (tgt := 154) hx hb dX11_deepBy_150 (by decide) ?_
      cases hf
      exact ret_i hx hb hr hlk hK hP hD hS dX11_deepBy_154
  have kL125 : ∀ (c125_2 : Int32) (n125 : Nat) (u125_3 : Int32) (a3_125 : Nat → Int32), p_X11_deepBy_L125 F x0_44 a1 a2 c125_2 n125 u125_3 a3_125 = some (r0, e_a3) → ∀ (H : Heap) (locs : List Loc), va_P G.1 vwCl (wW_X11_deepBy G h0 h1 h2 h3 y0_0 y0_1 y0_2 y0_3 y0_4 y0_6 y0_18 y0_21 y0_22 y0_23 y0_24 y0_25 y0_26 y0_33 y0_34 y0_40 y0_41 y0_42 y0_45 y0_46 y0_47 y0_48 x0_5 x0_7 x0_8 x0_9 x0_10 x0_11 x0_12 x0_13 x0_14 x0_15 x0_16 x0_17 x0_19 x0_20 x0_27 x0_28 x0_29 x0_30 x0_31 x0_32 x0_35 x0_36 x0_37 x0_44 x0_49 x0_50 a1 a2 a3_125) H → va_D A (wW_X11_deepBy G h0 h1 h2 h3 y0_0 y0_1 y0_2 y0_3 y0_4 y0_6 y0_18 y0_21 y0_22 y0_23 y0_24 y0_25 y0_26 y0_33 y0_34 y0_40 y0_41 y0_42 y0_45 y0_46 y0_47 y0_48 x0_5 x0_7 x0_8 x0_9 x0_10 x0_11 x0_12 x0_13 x0_14 x0_15 x0_16 x0_17 x0_19 x0_20 x0_27 x0_28 x0_29 x0_30 x0_31 x0_32 x0_35 x0_36 x0_37 x0_44 x0_49 x0_50 a1 a2 a3_125) → va_S A s.heap H locs → ∀ ls : Array Slot, lv_has ls 5 [(0, .ref h0), (2, .int c125_2), (3, .int u125_3)] → W p l e ({ frames := 1, cells := 0, slots := 0, locals := 23 } : Room) s m (List.toArray [.ref h0, .int b1]) below meth c H locs 0 0 (MQ below (QiS G r0 A (wW_X11_deepBy G h0 h1 h2 h3 y0_0 y0_1 y0_2 y0_3 y0_4 y0_6 y0_18 y0_21 y0_22 y0_23 y0_24 y0_25 y0_26 y0_33 y0_34 y0_40 y0_41 y0_42 y0_45 y0_46 y0_47 y0_48 x0_5 x0_7 x0_8 x0_9 x0_10 x0_11 x0_12 x0_13 x0_14 x0_15 x0_16 x0_17 x0_19 x0_20 x0_27 x0_28 x0_29 x0_30 x0_31 x0_32 x0_35 x0_36 x0_37 x0_44 x0_49 x0_50 a1 a2 e_a3)) (List.toArray [.ref h0, .int b1]) s 0 0 A) (F0 m 125 ls []) := by
    intro c125_2 n125
    induction n125 with
    | zero =>
      intro u125_3 a3_125 hf
      cases hf
    | succ n125 ih125 =>
      intro u125_3 a3_125 hf H locs hP hD hS ls hl
      have hf : p_X11_deepBy_L125b F x0_44 a1 a2 c125_2 (p_X11_deepBy_L125 F x0_44 a1 a2 c125_2 n125) u125_3 a3_125 = some (r0, e_a3) := hf
      refine lv_iload_n hx hb dX11_deepBy_125 rfl (lv_at hl 1 rfl) ?_
      refine lv_iconst (v := (1 : Int32)) hx hb dX11_deepBy_126 (by decide) ?_
      refine lv_icmp_ne (tgt := 145) hx hb dX11_deepBy_127 (by decide) (fun c2 => ?_) (fun c2 => ?_)
      · have hf := of_neg hf c2
        exact kJ145 _ _ _ hf _ _ hP hD hS _ (lv_sub hl [1, 2] rfl)
      · have hf := of_pos hf c2
        refine lv_aload_n hx hb dX11_deepBy_130 rfl (lv_at hl 0 rfl) ?_
        refine va_get (ci := 11) (v := .ref h3) (C := RX11) (T := TX11) (N := 51) hx hb ht0 iX11 hown hK hP 0 rfl rfl 43 (by decide) (ht0 _ wd_1449) (fun _ h9 => h9) rfl dX11_deepBy_131 ?_
        refine lv_iload_n hx hb dX11_deepBy_134 rfl (lv_at hl 2 rfl) ?_
        obtain ⟨g3, hf⟩ := of_grd hf
        refine va_iald hx hb hK hP 3 0 rfl rfl g3 dX11_deepBy_135 ?_
        refine lv_if_ne (tgt := 145) hx hb dX11_deepBy_136 (by decide) (fun c4 => ?_) (fun c4 => ?_)
        · have hf := of_neg hf c4
          exact kJ145 _ _ _ hf _ _ hP hD hS _ (lv_sub hl [1, 2] rfl)
        · have hf := of_pos hf c4
          refine lv_iinc (v := u125_3 + (1 : Int32)) (lv' := [(3, .int (u125_3 + (1 : Int32))), (0, .ref h0), (2, .int c125_2)]) hx hb dX11_deepBy_139 hl (k := 2) rfl (by rfl) (by decide) rfl (fun ls hl => ?_)
          refine lv_goto (tgt := 125) hx hb dX11_deepBy_142 (by decide) ?_
          exact ih125 _ _ hf _ _ hP hD hS _ (lv_sub hl [1, 2, 0] rfl)
  have kL70 : ∀ (n70 : Nat) (u70_2 : Int32) (u70_3 : Int32) (a3_70 : Nat → Int32), p_X11_deepBy_L70 F x0_44 a1 a2 n70 u70_2 u70_3 a3_70 = some (r0, e_a3) → ∀ (H : Heap) (locs : List Loc), va_P G.1 vwCl (wW_X11_deepBy G h0 h1 h2 h3 y0_0 y0_1 y0_2 y0_3 y0_4 y0_6 y0_18 y0_21 y0_22 y0_23 y0_24 y0_25 y0_26 y0_33 y0_34 y0_40 y0_41 y0_42 y0_45 y0_46 y0_47 y0_48 x0_5 x0_7 x0_8 x0_9 x0_10 x0_11 x0_12 x0_13 x0_14 x0_15 x0_16 x0_17 x0_19 x0_20 x0_27 x0_28 x0_29 x0_30 x0_31 x0_32 x0_35 x0_36 x0_37 x0_44 x0_49 x0_50 a1 a2 a3_70) H → va_D A (wW_X11_deepBy G h0 h1 h2 h3 y0_0 y0_1 y0_2 y0_3 y0_4 y0_6 y0_18 y0_21 y0_22 y0_23 y0_24 y0_25 y0_26 y0_33 y0_34 y0_40 y0_41 y0_42 y0_45 y0_46 y0_47 y0_48 x0_5 x0_7 x0_8 x0_9 x0_10 x0_11 x0_12 x0_13 x0_14 x0_15 x0_16 x0_17 x0_19 x0_20 x0_27 x0_28 x0_29 x0_30 x0_31 x0_32 x0_35 x0_36 x0_37 x0_44 x0_49 x0_50 a1 a2 a3_70) → va_S A s.heap H locs → ∀ ls : Array Slot, lv_has ls 5 [(0, .ref h0), (2, .int u70_2), (3, .int u70_3)] → W p l e ({ frames := 1, cells := 0, slots := 0, locals := 23 } : Room) s m (List.toArray [.ref h0, .int b1]) below meth c H locs 0 0 (MQ below (QiS G r0 A (wW_X11_deepBy G h0 h1 h2 h3 y0_0 y0_1 y0_2 y0_3 y0_4 y0_6 y0_18 y0_21 y0_22 y0_23 y0_24 y0_25 y0_26 y0_33 y0_34 y0_40 y0_41 y0_42 y0_45 y0_46 y0_47 y0_48 x0_5 x0_7 x0_8 x0_9 x0_10 x0_11 x0_12 x0_13 x0_14 x0_15 x0_16 x0_17 x0_19 x0_20 x0_27 x0_28 x0_29 x0_30 x0_31 x0_32 x0_35 x0_36 x0_37 x0_44 x0_49 x0_50 a1 a2 e_a3)) (List.toArray [.ref h0, .int b1]) s 0 0 A) (F0 m 70 ls []) := by
    intro n70
    induction n70 with
    | zero =>
      intro u70_2 u70_3 a3_70 hf
      cases hf
    | succ n70 ih70 =>
      intro u70_2 u70_3 a3_70 hf H locs hP hD hS ls hl
      have hf : p_X11_deepBy_L70b F x0_44 a1 a2 (p_X11_deepBy_L70 F x0_44 a1 a2 n70) u70_2 u70_3 a3_70 = some (r0, e_a3) := hf
      refine lv_iload_n hx hb dX11_deepBy_70 rfl (lv_at hl 1 rfl) ?_
      refine lv_iconst (v := (1 : Int32)) hx hb dX11_deepBy_71 (by decide) ?_
      refine lv_icmp_le (tgt := 125) hx hb dX11_deepBy_72 (by decide) (fun c5 => ?_) (fun c5 => ?_)
      · have hf := of_pos hf c5
        exact kL125 _ _ _ _ hf _ _ hP hD hS _ (lv_sub hl [0, 1, 2] rfl)
      · have hf := of_neg hf c5
        refine lv_aload_n hx hb dX11_deepBy_75 rfl (lv_at hl 0 rfl) ?_
        refine va_get (ci := 11) (v := .ref h3) (C := RX11) (T := TX11) (N := 51) hx hb ht0 iX11 hown hK hP 0 rfl rfl 43 (by decide) (ht0 _ wd_1449) (fun _ h9 => h9) rfl dX11_deepBy_76 ?_
        refine lv_iload_n hx hb dX11_deepBy_79 rfl (lv_at hl 2 rfl) ?_
        obtain ⟨g6, hf⟩ := of_grd hf
        refine va_iald hx hb hK hP 3 0 rfl rfl g6 dX11_deepBy_80 ?_
        refine lv_iconst (v := (1 : Int32)) hx hb dX11_deepBy_81 (by decide) ?_
        refine lv_iadd hx hb dX11_deepBy_82 ?_
        refine lv_iconst (v := (2 : Int32)) hx hb dX11_deepBy_83 (by decide) ?_
        refine lv_idiv hx hb dX11_deepBy_84 (by decide) ?_
        refine lv_topi (fun z7 ez7 => ?_)
        have hf := of_jlet hf ez7
        refine lv_istore (lv' := [(4, .int z7), (0, .ref h0), (2, .int u70_2), (3, .int u70_3)]) hx hb dX11_deepBy_85 hl (by decide) rfl (fun ls hl => ?_)
        refine lv_iload_n hx hb dX11_deepBy_87 rfl (lv_at hl 2 rfl) ?_
        refine lv_aload_n hx hb dX11_deepBy_88 rfl (lv_at hl 1 rfl) ?_
        refine va_get (ci := 11) (v := .ref h3) (C := RX11) (T := TX11) (N := 51) hx hb ht0 iX11 hown hK hP 0 rfl rfl 43 (by decide) (ht0 _ wd_1449) (fun _ h9 => h9) rfl dX11_deepBy_89 ?_
        refine lv_iload_n hx hb dX11_deepBy_92 rfl (lv_at hl 3 rfl) ?_
        obtain ⟨g8, hf⟩ := of_grd hf
        refine va_iald hx hb hK hP 3 0 rfl rfl g8 dX11_deepBy_93 ?_
        refine lv_iload hx hb dX11_deepBy_94 (lv_at hl 0 rfl) ?_
        refine lv_isub hx hb dX11_deepBy_96 ?_
        refine lv_isub hx hb dX11_deepBy_97 ?_
        refine lv_topi (fun z9 ez9 => ?_)
        have hf := of_jlet hf ez9
        refine lv_istore_n (lv' := [(2, .int z9), (4, .int z7), (0, .ref h0), (3, .int u70_3)]) hx hb dX11_deepBy_98 rfl hl (by decide) rfl (fun ls hl => ?_)
        refine lv_aload_n hx hb dX11_deepBy_99 rfl (lv_at hl 2 rfl) ?_
        refine va_get (ci := 11) (v := .ref h3) (C := RX11) (T := TX11) (N := 51) hx hb ht0 iX11 hown hK hP 0 rfl rfl 43 (by decide) (ht0 _ wd_1449) (fun _ h9 => h9) rfl dX11_deepBy_100 ?_
        refine lv_iload_n hx hb dX11_deepBy_103 rfl (lv_at hl 3 rfl) ?_
        refine lv_iconst (v := (1 : Int32)) hx hb dX11_deepBy_104 (by decide) ?_
        refine lv_iadd hx hb dX11_deepBy_105 ?_
        refine lv_dup2_11 hx hb dX11_deepBy_106 rfl rfl ?_
        obtain ⟨g10, hf⟩ := of_grd hf
        refine va_iald hx hb hK hP 3 0 rfl rfl g10 dX11_deepBy_107 ?_
        refine lv_iload hx hb dX11_deepBy_108 (lv_at hl 1 rfl) ?_
        refine lv_iadd hx hb dX11_deepBy_110 ?_
        obtain ⟨g11, hf⟩ := of_grd hf
        refine va_iast hx hb hK hP hD hS 3 0 rfl rfl g11 dX11_deepBy_111 (fun H locs hP hD hS => ?_)
        have hP : va_P G.1 vwCl (wW_X11_deepBy G h0 h1 h2 h3 y0_0 y0_1 y0_2 y0_3 y0_4 y0_6 y0_18 y0_21 y0_22 y0_23 y0_24 y0_25 y0_26 y0_33 y0_34 y0_40 y0_41 y0_42 y0_45 y0_46 y0_47 y0_48 x0_5 x0_7 x0_8 x0_9 x0_10 x0_11 x0_12 x0_13 x0_14 x0_15 x0_16 x0_17 x0_19 x0_20 x0_27 x0_28 x0_29 x0_30 x0_31 x0_32 x0_35 x0_36 x0_37 x0_44 x0_49 x0_50 a1 a2 (upd a3_70 (u70_3 + (1 : Int32)).toNatClampNeg ((a3_70 (u70_3 + (1 : Int32)).toNatClampNeg) + z7))) H := hP
        have hD : va_D A (wW_X11_deepBy G h0 h1 h2 h3 y0_0 y0_1 y0_2 y0_3 y0_4 y0_6 y0_18 y0_21 y0_22 y0_23 y0_24 y0_25 y0_26 y0_33 y0_34 y0_40 y0_41 y0_42 y0_45 y0_46 y0_47 y0_48 x0_5 x0_7 x0_8 x0_9 x0_10 x0_11 x0_12 x0_13 x0_14 x0_15 x0_16 x0_17 x0_19 x0_20 x0_27 x0_28 x0_29 x0_30 x0_31 x0_32 x0_35 x0_36 x0_37 x0_44 x0_49 x0_50 a1 a2 (upd a3_70 (u70_3 + (1 : Int32)).toNatClampNeg ((a3_70 (u70_3 + (1 : Int32)).toNatClampNeg) + z7))) := hD
        refine lv_aload_n hx hb dX11_deepBy_112 rfl (lv_at hl 2 rfl) ?_
        refine va_get (ci := 11) (v := .ref h3) (C := RX11) (T := TX11) (N := 51) hx hb ht0 iX11 hown hK hP 0 rfl rfl 43 (by decide) (ht0 _ wd_1449) (fun _ h9 => h9) rfl dX11_deepBy_113 ?_
        refine lv_iload_n hx hb dX11_deepBy_116 rfl (lv_at hl 3 rfl) ?_
        refine lv_iconst (v := (0 : Int32)) hx hb dX11_deepBy_117 (by decide) ?_
        obtain ⟨g12, hf⟩ := of_grd hf
        refine va_iast hx hb hK hP hD hS 3 0 rfl rfl g12 dX11_deepBy_118 (fun H locs hP hD hS => ?_)
        have hP : va_P G.1 vwCl (wW_X11_deepBy G h0 h1 h2 h3 y0_0 y0_1 y0_2 y0_3 y0_4 y0_6 y0_18 y0_21 y0_22 y0_23 y0_24 y0_25 y0_26 y0_33 y0_34 y0_40 y0_41 y0_42 y0_45 y0_46 y0_47 y0_48 x0_5 x0_7 x0_8 x0_9 x0_10 x0_11 x0_12 x0_13 x0_14 x0_15 x0_16 x0_17 x0_19 x0_20 x0_27 x0_28 x0_29 x0_30 x0_31 x0_32 x0_35 x0_36 x0_37 x0_44 x0_49 x0_50 a1 a2 (upd (upd a3_70 (u70_3 + (1 : Int32)).toNatClampNeg ((a3_70 (u70_3 + (1 : Int32)).toNatClampNeg) + z7)) u70_3.toNatClampNeg (0 : Int32))) H := hP
        have hD : va_D A (wW_X11_deepBy G h0 h1 h2 h3 y0_0 y0_1 y0_2 y0_3 y0_4 y0_6 y0_18 y0_21 y0_22 y0_23 y0_24 y0_25 y0_26 y0_33 y0_34 y0_40 y0_41 y0_42 y0_45 y0_46 y0_47 y0_48 x0_5 x0_7 x0_8 x0_9 x0_10 x0_11 x0_12 x0_13 x0_14 x0_15 x0_16 x0_17 x0_19 x0_20 x0_27 x0_28 x0_29 x0_30 x0_31 x0_32 x0_35 x0_36 x0_37 x0_44 x0_49 x0_50 a1 a2 (upd (upd a3_70 (u70_3 + (1 : Int32)).toNatClampNeg ((a3_70 (u70_3 + (1 : Int32)).toNatClampNeg) + z7)) u70_3.toNatClampNeg (0 : Int32))) := hD
        refine lv_iinc (v := u70_3 + (1 : Int32)) (lv' := [(3, .int (u70_3 + (1 : Int32))), (2, .int z9), (4, .int z7), (0, .ref h0)]) hx hb dX11_deepBy_119 hl (k := 3) rfl (by rfl) (by decide) rfl (fun ls hl => ?_)
        refine lv_goto (tgt := 70) hx hb dX11_deepBy_122 (by decide) ?_
        exact ih70 _ _ _ hf _ _ hP hD hS _ (lv_sub hl [3, 1, 0] rfl)
  have kL30 : ∀ (c30_1 : Int32) (c30_2 : Int32) (n30 : Nat) (u30_3 : Int32) (a3_30 : Nat → Int32), p_X11_deepBy_L30 F x0_44 a1 a2 c30_1 c30_2 n30 u30_3 a3_30 = some (r0, e_a3) → ∀ (H : Heap) (locs : List Loc), va_P G.1 vwCl (wW_X11_deepBy G h0 h1 h2 h3 y0_0 y0_1 y0_2 y0_3 y0_4 y0_6 y0_18 y0_21 y0_22 y0_23 y0_24 y0_25 y0_26 y0_33 y0_34 y0_40 y0_41 y0_42 y0_45 y0_46 y0_47 y0_48 x0_5 x0_7 x0_8 x0_9 x0_10 x0_11 x0_12 x0_13 x0_14 x0_15 x0_16 x0_17 x0_19 x0_20 x0_27 x0_28 x0_29 x0_30 x0_31 x0_32 x0_35 x0_36 x0_37 x0_44 x0_49 x0_50 a1 a2 a3_30) H → va_D A (wW_X11_deepBy G h0 h1 h2 h3 y0_0 y0_1 y0_2 y0_3 y0_4 y0_6 y0_18 y0_21 y0_22 y0_23 y0_24 y0_25 y0_26 y0_33 y0_34 y0_40 y0_41 y0_42 y0_45 y0_46 y0_47 y0_48 x0_5 x0_7 x0_8 x0_9 x0_10 x0_11 x0_12 x0_13 x0_14 x0_15 x0_16 x0_17 x0_19 x0_20 x0_27 x0_28 x0_29 x0_30 x0_31 x0_32 x0_35 x0_36 x0_37 x0_44 x0_49 x0_50 a1 a2 a3_30) → va_S A s.heap H locs → ∀ ls : Array Slot, lv_has ls 5 [(0, .ref h0), (1, .int c30_1), (2, .int c30_2), (3, .int u30_3)] → W p l e ({ frames := 1, cells := 0, slots := 0, locals := 23 } : Room) s m (List.toArray [.ref h0, .int b1]) below meth c H locs 0 0 (MQ below (QiS G r0 A (wW_X11_deepBy G h0 h1 h2 h3 y0_0 y0_1 y0_2 y0_3 y0_4 y0_6 y0_18 y0_21 y0_22 y0_23 y0_24 y0_25 y0_26 y0_33 y0_34 y0_40 y0_41 y0_42 y0_45 y0_46 y0_47 y0_48 x0_5 x0_7 x0_8 x0_9 x0_10 x0_11 x0_12 x0_13 x0_14 x0_15 x0_16 x0_17 x0_19 x0_20 x0_27 x0_28 x0_29 x0_30 x0_31 x0_32 x0_35 x0_36 x0_37 x0_44 x0_49 x0_50 a1 a2 e_a3)) (List.toArray [.ref h0, .int b1]) s 0 0 A) (F0 m 30 ls []) := by
    intro c30_1 c30_2 n30
    induction n30 with
    | zero =>
      intro u30_3 a3_30 hf
      cases hf
    | succ n30 ih30 =>
      intro u30_3 a3_30 hf H locs hP hD hS ls hl
      have hf : p_X11_deepBy_L30b F x0_44 a1 a2 c30_1 c30_2 (p_X11_deepBy_L30 F x0_44 a1 a2 c30_1 c30_2 n30) u30_3 a3_30 = some (r0, e_a3) := hf
      refine lv_iload_n hx hb dX11_deepBy_30 rfl (lv_at hl 3 rfl) ?_
      refine lv_aload_n hx hb dX11_deepBy_31 rfl (lv_at hl 0 rfl) ?_
      refine va_get (ci := 11) (v := .int x0_44) (C := RX11) (T := TX11) (N := 51) hx hb ht0 iX11 hown hK hP 0 rfl rfl 44 (by decide) (ht0 _ wd_1450) (fun _ h9 => h9) rfl dX11_deepBy_32 ?_
      refine lv_icmp_ge (tgt := 68) hx hb dX11_deepBy_35 (by decide) (fun c13 => ?_) (fun c13 => ?_)
      · have hf := of_pos hf c13
        refine lv_iconst (v := (0 : Int32)) hx hb dX11_deepBy_68 (by decide) ?_
        refine lv_istore_n (lv' := [(3, .int (0 : Int32)), (0, .ref h0), (1, .int c30_1), (2, .int c30_2)]) hx hb dX11_deepBy_69 rfl hl (by decide) rfl (fun ls hl => ?_)
        exact kL70 _ _ _ _ hf _ _ hP hD hS _ (lv_sub hl [1, 3, 0] rfl)
      · have hf := of_neg hf c13
        refine lv_aload_n hx hb dX11_deepBy_38 rfl (lv_at hl 0 rfl) ?_
        refine va_get (ci := 11) (v := .ref h3) (C := RX11) (T := TX11) (N := 51) hx hb ht0 iX11 hown hK hP 0 rfl rfl 43 (by decide) (ht0 _ wd_1449) (fun _ h9 => h9) rfl dX11_deepBy_39 ?_
        refine lv_aload_n hx hb dX11_deepBy_42 rfl (lv_at hl 0 rfl) ?_
        refine va_get (ci := 11) (v := .ref h2) (C := RX11) (T := TX11) (N := 51) hx hb ht0 iX11 hown hK hP 0 rfl rfl 39 (by decide) (ht0 _ wd_1445) (fun _ h9 => h9) rfl dX11_deepBy_43 ?_
        refine lv_iload_n hx hb dX11_deepBy_46 rfl (lv_at hl 3 rfl) ?_
        obtain ⟨g14, hf⟩ := of_grd hf
        refine va_iald hx hb hK hP 2 0 rfl rfl g14 dX11_deepBy_47 ?_
        refine lv_dup2_11 hx hb dX11_deepBy_48 rfl rfl ?_
        obtain ⟨g15, hf⟩ := of_grd hf
        refine va_iald hx hb hK hP 3 0 rfl rfl g15 dX11_deepBy_49 ?_
        refine lv_aload_n hx hb dX11_deepBy_50 rfl (lv_at hl 0 rfl) ?_
        refine va_get (ci := 11) (v := .ref h1) (C := RX11) (T := TX11) (N := 51) hx hb ht0 iX11 hown hK hP 0 rfl rfl 38 (by decide) (ht0 _ wd_1444) (fun _ h9 => h9) rfl dX11_deepBy_51 ?_
        refine lv_iload_n hx hb dX11_deepBy_54 rfl (lv_at hl 3 rfl) ?_
        obtain ⟨g16, hf⟩ := of_grd hf
        refine va_iald hx hb hK hP 1 0 rfl rfl g16 dX11_deepBy_55 ?_
        refine lv_iload_n hx hb dX11_deepBy_56 rfl (lv_at hl 1 rfl) ?_
        refine lv_ishr hx hb dX11_deepBy_57 ?_
        refine lv_iconst (v := (1 : Int32)) hx hb dX11_deepBy_58 (by decide) ?_
        refine lv_iand hx hb dX11_deepBy_59 ?_
        refine lv_iadd hx hb dX11_deepBy_60 ?_
        obtain ⟨g17, hf⟩ := of_grd hf
        refine va_iast hx hb hK hP hD hS 3 0 rfl rfl g17 dX11_deepBy_61 (fun H locs hP hD hS => ?_)
        have hP : va_P G.1 vwCl (wW_X11_deepBy G h0 h1 h2 h3 y0_0 y0_1 y0_2 y0_3 y0_4 y0_6 y0_18 y0_21 y0_22 y0_23 y0_24 y0_25 y0_26 y0_33 y0_34 y0_40 y0_41 y0_42 y0_45 y0_46 y0_47 y0_48 x0_5 x0_7 x0_8 x0_9 x0_10 x0_11 x0_12 x0_13 x0_14 x0_15 x0_16 x0_17 x0_19 x0_20 x0_27 x0_28 x0_29 x0_30 x0_31 x0_32 x0_35 x0_36 x0_37 x0_44 x0_49 x0_50 a1 a2 (upd a3_30 (a2 u30_3.toNatClampNeg).toNatClampNeg ((a3_30 (a2 u30_3.toNatClampNeg).toNatClampNeg) + (((a1 u30_3.toNatClampNeg) >>> (c30_1 &&& 31)) &&& (1 : Int32))))) H := hP
        have hD : va_D A (wW_X11_deepBy G h0 h1 h2 h3 y0_0 y0_1 y0_2 y0_3 y0_4 y0_6 y0_18 y0_21 y0_22 y0_23 y0_24 y0_25 y0_26 y0_33 y0_34 y0_40 y0_41 y0_42 y0_45 y0_46 y0_47 y0_48 x0_5 x0_7 x0_8 x0_9 x0_10 x0_11 x0_12 x0_13 x0_14 x0_15 x0_16 x0_17 x0_19 x0_20 x0_27 x0_28 x0_29 x0_30 x0_31 x0_32 x0_35 x0_36 x0_37 x0_44 x0_49 x0_50 a1 a2 (upd a3_30 (a2 u30_3.toNatClampNeg).toNatClampNeg ((a3_30 (a2 u30_3.toNatClampNeg).toNatClampNeg) + (((a1 u30_3.toNatClampNeg) >>> (c30_1 &&& 31)) &&& (1 : Int32))))) := hD
        refine lv_iinc (v := u30_3 + (1 : Int32)) (lv' := [(3, .int (u30_3 + (1 : Int32))), (0, .ref h0), (1, .int c30_1), (2, .int c30_2)]) hx hb dX11_deepBy_62 hl (k := 3) rfl (by rfl) (by decide) rfl (fun ls hl => ?_)
        refine lv_goto (tgt := 30) hx hb dX11_deepBy_65 (by decide) ?_
        exact ih30 _ _ hf _ _ hP hD hS _ (lv_sub hl [1, 2, 3, 0] rfl)
  have kL2 : ∀ (c2_1 : Int32) (n2 : Nat) (u2_2 : Int32) (a3_2 : Nat → Int32), p_X11_deepBy_L2 F x0_44 a1 a2 c2_1 n2 u2_2 a3_2 = some (r0, e_a3) → ∀ (H : Heap) (locs : List Loc), va_P G.1 vwCl (wW_X11_deepBy G h0 h1 h2 h3 y0_0 y0_1 y0_2 y0_3 y0_4 y0_6 y0_18 y0_21 y0_22 y0_23 y0_24 y0_25 y0_26 y0_33 y0_34 y0_40 y0_41 y0_42 y0_45 y0_46 y0_47 y0_48 x0_5 x0_7 x0_8 x0_9 x0_10 x0_11 x0_12 x0_13 x0_14 x0_15 x0_16 x0_17 x0_19 x0_20 x0_27 x0_28 x0_29 x0_30 x0_31 x0_32 x0_35 x0_36 x0_37 x0_44 x0_49 x0_50 a1 a2 a3_2) H → va_D A (wW_X11_deepBy G h0 h1 h2 h3 y0_0 y0_1 y0_2 y0_3 y0_4 y0_6 y0_18 y0_21 y0_22 y0_23 y0_24 y0_25 y0_26 y0_33 y0_34 y0_40 y0_41 y0_42 y0_45 y0_46 y0_47 y0_48 x0_5 x0_7 x0_8 x0_9 x0_10 x0_11 x0_12 x0_13 x0_14 x0_15 x0_16 x0_17 x0_19 x0_20 x0_27 x0_28 x0_29 x0_30 x0_31 x0_32 x0_35 x0_36 x0_37 x0_44 x0_49 x0_50 a1 a2 a3_2) → va_S A s.heap H locs → ∀ ls : Array Slot, lv_has ls 5 [(0, .ref h0), (1, .int c2_1), (2, .int u2_2)] → W p l e ({ frames := 1, cells := 0, slots := 0, locals := 23 } : Room) s m (List.toArray [.ref h0, .int b1]) below meth c H locs 0 0 (MQ below (QiS G r0 A (wW_X11_deepBy G h0 h1 h2 h3 y0_0 y0_1 y0_2 y0_3 y0_4 y0_6 y0_18 y0_21 y0_22 y0_23 y0_24 y0_25 y0_26 y0_33 y0_34 y0_40 y0_41 y0_42 y0_45 y0_46 y0_47 y0_48 x0_5 x0_7 x0_8 x0_9 x0_10 x0_11 x0_12 x0_13 x0_14 x0_15 x0_16 x0_17 x0_19 x0_20 x0_27 x0_28 x0_29 x0_30 x0_31 x0_32 x0_35 x0_36 x0_37 x0_44 x0_49 x0_50 a1 a2 e_a3)) (List.toArray [.ref h0, .int b1]) s 0 0 A) (F0 m 2 ls []) := by
    intro c2_1 n2
    induction n2 with
    | zero =>
      intro u2_2 a3_2 hf
      cases hf
    | succ n2 ih2 =>
      intro u2_2 a3_2 hf H locs hP hD hS ls hl
      have hf : p_X11_deepBy_L2b F x0_44 a1 a2 c2_1 (p_X11_deepBy_L2 F x0_44 a1 a2 c2_1 n2) u2_2 a3_2 = some (r0, e_a3) := hf
      refine lv_iload_n hx hb dX11_deepBy_2 rfl (lv_at hl 2 rfl) ?_
      refine lv_sipush (v := (260 : Int32)) hx hb dX11_deepBy_3 (by decide) ?_
      refine lv_icmp_ge (tgt := 22) hx hb dX11_deepBy_6 (by decide) (fun c18 => ?_) (fun c18 => ?_)
      · have hf := of_pos hf c18
        refine lv_aload_n hx hb dX11_deepBy_22 rfl (lv_at hl 0 rfl) ?_
        refine lv_iload_n hx hb dX11_deepBy_23 rfl (lv_at hl 1 rfl) ?_
        obtain ⟨r_24_18, hc_r_24_18, hf⟩ := of_bnd hf
        refine cl_Vi (w2 := (wW_X11_deepBy G h0 h1 h2 h3 y0_0 y0_1 y0_2 y0_3 y0_4 y0_6 y0_18 y0_21 y0_22 y0_23 y0_24 y0_25 y0_26 y0_33 y0_34 y0_40 y0_41 y0_42 y0_45 y0_46 y0_47 y0_48 x0_5 x0_7 x0_8 x0_9 x0_10 x0_11 x0_12 x0_13 x0_14 x0_15 x0_16 x0_17 x0_19 x0_20 x0_27 x0_28 x0_29 x0_30 x0_31 x0_32 x0_35 x0_36 x0_37 x0_44 x0_49 x0_50 a1 a2 a3_2)) (As := [.int c2_1]) (rest := []) ⟨hx, hb, hml, hown, ht0⟩ (c_X11_hasMany l G h0 h1 y0_0 y0_1 y0_2 y0_3 y0_4 y0_6 y0_18 y0_21 y0_22 y0_23 y0_24 y0_25 y0_26 y0_33 y0_34 h2 y0_40 y0_41 y0_42 h3 y0_45 y0_46 y0_47 y0_48 _ x0_5 x0_7 x0_8 x0_9 x0_10 x0_11 x0_12 x0_13 x0_14 x0_15 x0_16 x0_17 x0_19 x0_20 x0_27 x0_28 x0_29 x0_30 x0_31 x0_32 x0_35 x0_36 x0_37 x0_44 x0_49 x0_50 a1 F c2_1 _ hc_r_24_18) yk_X11_hasMany wd_1901 ⟨rfl, rfl, by decide, by decide⟩ ⟨Nat.le_refl _, Nat.le_refl _⟩ hX hK hP hD hS hA [0, 1] [2, 3] [2, 3, 0, 1] (va_recv hK hP (ci := 11) (q0 := 0) rfl rfl) rfl rfl (by decide) rfl rfl rfl rfl rfl hl.1 rfl (Nat.le_of_ble_eq_true rfl) dX11_deepBy_24 (fun H locs hP hD hS => ?_)
        refine lv_istore_n (lv' := [(2, .int r_24_18), (0, .ref h0), (1, .int c2_1)]) hx hb dX11_deepBy_27 rfl hl (by decide) rfl (fun ls hl => ?_)
        refine lv_iconst (v := (0 : Int32)) hx hb dX11_deepBy_28 (by decide) ?_
        refine lv_istore_n (lv' := [(3, .int (0 : Int32)), (2, .int r_24_18), (0, .ref h0), (1, .int c2_1)]) hx hb dX11_deepBy_29 rfl hl (by decide) rfl (fun ls hl => ?_)
        exact kL30 _ _ _ _ _ hf _ _ hP hD hS _ (lv_sub hl [2, 3, 1, 0] rfl)
      · have hf := of_neg hf c18
        refine lv_aload_n hx hb dX11_deepBy_9 rfl (lv_at hl 0 rfl) ?_
        refine va_get (ci := 11) (v := .ref h3) (C := RX11) (T := TX11) (N := 51) hx hb ht0 iX11 hown hK hP 0 rfl rfl 43 (by decide) (ht0 _ wd_1449) (fun _ h9 => h9) rfl dX11_deepBy_10 ?_
        refine lv_iload_n hx hb dX11_deepBy_13 rfl (lv_at hl 2 rfl) ?_
        refine lv_iconst (v := (0 : Int32)) hx hb dX11_deepBy_14 (by decide) ?_
        obtain ⟨g20, hf⟩ := of_grd hf
        refine va_iast hx hb hK hP hD hS 3 0 rfl rfl g20 dX11_deepBy_15 (fun H locs hP hD hS => ?_)
        have hP : va_P G.1 vwCl (wW_X11_deepBy G h0 h1 h2 h3 y0_0 y0_1 y0_2 y0_3 y0_4 y0_6 y0_18 y0_21 y0_22 y0_23 y0_24 y0_25 y0_26 y0_33 y0_34 y0_40 y0_41 y0_42 y0_45 y0_46 y0_47 y0_48 x0_5 x0_7 x0_8 x0_9 x0_10 x0_11 x0_12 x0_13 x0_14 x0_15 x0_16 x0_17 x0_19 x0_20 x0_27 x0_28 x0_29 x0_30 x0_31 x0_32 x0_35 x0_36 x0_37 x0_44 x0_49 x0_50 a1 a2 (upd a3_2 u2_2.toNatClampNeg (0 : Int32))) H := hP
        have hD : va_D A (wW_X11_deepBy G h0 h1 h2 h3 y0_0 y0_1 y0_2 y0_3 y0_4 y0_6 y0_18 y0_21 y0_22 y0_23 y0_24 y0_25 y0_26 y0_33 y0_34 y0_40 y0_41 y0_42 y0_45 y0_46 y0_47 y0_48 x0_5 x0_7 x0_8 x0_9 x0_10 x0_11 x0_12 x0_13 x0_14 x0_15 x0_16 x0_17 x0_19 x0_20 x0_27 x0_28 x0_29 x0_30 x0_31 x0_32 x0_35 x0_36 x0_37 x0_44 x0_49 x0_50 a1 a2 (upd a3_2 u2_2.toNatClampNeg (0 : Int32))) := hD
        refine lv_iinc (v := u2_2 + (1 : Int32)) (lv' := [(2, .int (u2_2 + (1 : Int32))), (0, .ref h0), (1, .int c2_1)]) hx hb dX11_deepBy_16 hl (k := 2) rfl (by rfl) (by decide) rfl (fun ls hl => ?_)
        refine lv_goto (tgt := 2) hx hb dX11_deepBy_19 (by decide) ?_
        exact ih2 _ _ hf _ _ hP hD hS _ (lv_sub hl [1, 2, 0] rfl)
  refine lv_iconst (v := (0 : Int32)) hx hb dX11_deepBy_0 (by decide) ?_
  refine lv_istore_n (lv' := [(2, .int (0 : Int32)), (0, .ref h0), (1, .int b1)]) hx hb dX11_deepBy_1 rfl hl (by decide) rfl (fun ls hl => ?_)
  exact kL2 _ _ _ _ hf _ _ hP hD hS _ (lv_sub hl [1, 2, 0] rfl)
theorem yk_X11_deepBy : ykV yX11_deepBy RX11 cX11_deepBy 5 (some .int) 1 := ⟨wd_1907, wd_121, wd_142, wd_1908, rfl, by decide +kernel, by decide +kernel, by decide +kernel⟩
theorem dX11_gates_0 : decode cX11_gates 0 = .ok (.iload_n 1, 1) := by decide +kernel
theorem dX11_gates_1 : decode cX11_gates 1 = .ok (.iconst 0, 1) := by decide +kernel
theorem dX11_gates_2 : decode cX11_gates 2 = .ok (.iconst 3, 1) := by decide +kernel
theorem dX11_gates_3 : decode cX11_gates 3 = .ok (.invokestatic 163, 3) := by decide +kernel
theorem dX11_gates_6 : decode cX11_gates 6 = .ok (.ifCond .ne 5, 3) := by decide +kernel
theorem dX11_gates_9 : decode cX11_gates 9 = .ok (.iconst (-1), 1) := by decide +kernel
theorem dX11_gates_10 : decode cX11_gates 10 = .ok (.ireturn, 1) := by decide +kernel
theorem dX11_gates_11 : decode cX11_gates 11 = .ok (.iconst 0, 1) := by decide +kernel
theorem dX11_gates_12 : decode cX11_gates 12 = .ok (.istore_n 2, 1) := by decide +kernel
theorem dX11_gates_13 : decode cX11_gates 13 = .ok (.iconst 0, 1) := by decide +kernel
theorem dX11_gates_14 : decode cX11_gates 14 = .ok (.istore_n 3, 1) := by decide +kernel
theorem dX11_gates_15 : decode cX11_gates 15 = .ok (.iload_n 3, 1) := by decide +kernel
theorem dX11_gates_16 : decode cX11_gates 16 = .ok (.aload_n 0, 1) := by decide +kernel
theorem dX11_gates_17 : decode cX11_gates 17 = .ok (.invokevirtual 224, 3) := by decide +kernel
theorem dX11_gates_20 : decode cX11_gates 20 = .ok (.if_icmp .ge 23, 3) := by decide +kernel
theorem dX11_gates_23 : decode cX11_gates 23 = .ok (.iload_n 2, 1) := by decide +kernel
theorem dX11_gates_24 : decode cX11_gates 24 = .ok (.iconst 0, 1) := by decide +kernel
theorem dX11_gates_25 : decode cX11_gates 25 = .ok (.aload_n 0, 1) := by decide +kernel
theorem dX11_gates_26 : decode cX11_gates 26 = .ok (.iload_n 3, 1) := by decide +kernel
theorem dX11_gates_27 : decode cX11_gates 27 = .ok (.invokevirtual 396, 3) := by decide +kernel
theorem dX11_gates_30 : decode cX11_gates 30 = .ok (.iconst 1, 1) := by decide +kernel
theorem dX11_gates_31 : decode cX11_gates 31 = .ok (.isub, 1) := by decide +kernel
theorem dX11_gates_32 : decode cX11_gates 32 = .ok (.invokestatic 252, 3) := by decide +kernel
theorem dX11_gates_35 : decode cX11_gates 35 = .ok (.iadd, 1) := by decide +kernel
theorem dX11_gates_36 : decode cX11_gates 36 = .ok (.istore_n 2, 1) := by decide +kernel
theorem dX11_gates_37 : decode cX11_gates 37 = .ok (.iinc 3 1, 3) := by decide +kernel
theorem dX11_gates_40 : decode cX11_gates 40 = .ok (.goto (-25), 3) := by decide +kernel
theorem dX11_gates_43 : decode cX11_gates 43 = .ok (.iload_n 1, 1) := by decide +kernel
theorem dX11_gates_44 : decode cX11_gates 44 = .ok (.ifCond .ne 5, 3) := by decide +kernel
theorem dX11_gates_47 : decode cX11_gates 47 = .ok (.iload_n 2, 1) := by decide +kernel
theorem dX11_gates_48 : decode cX11_gates 48 = .ok (.ireturn, 1) := by decide +kernel
theorem dX11_gates_49 : decode cX11_gates 49 = .ok (.aload_n 0, 1) := by decide +kernel
theorem dX11_gates_50 : decode cX11_gates 50 = .ok (.invokevirtual 451, 3) := by decide +kernel
theorem dX11_gates_53 : decode cX11_gates 53 = .ok (.aload_n 0, 1) := by decide +kernel
theorem dX11_gates_54 : decode cX11_gates 54 = .ok (.getfield 442, 3) := by decide +kernel
theorem dX11_gates_57 : decode cX11_gates 57 = .ok (.aload_n 0, 1) := by decide +kernel
theorem dX11_gates_58 : decode cX11_gates 58 = .ok (.invokevirtual 221, 3) := by decide +kernel
theorem dX11_gates_61 : decode cX11_gates 61 = .ok (.isub, 1) := by decide +kernel
theorem dX11_gates_62 : decode cX11_gates 62 = .ok (.istore_n 3, 1) := by decide +kernel
theorem dX11_gates_63 : decode cX11_gates 63 = .ok (.iconst 0, 1) := by decide +kernel
theorem dX11_gates_64 : decode cX11_gates 64 = .ok (.istore 4, 2) := by decide +kernel
theorem dX11_gates_66 : decode cX11_gates 66 = .ok (.iload_n 3, 1) := by decide +kernel
theorem dX11_gates_67 : decode cX11_gates 67 = .ok (.istore 5, 2) := by decide +kernel
theorem dX11_gates_69 : decode cX11_gates 69 = .ok (.iconst 0, 1) := by decide +kernel
theorem dX11_gates_70 : decode cX11_gates 70 = .ok (.istore 6, 2) := by decide +kernel
theorem dX11_gates_72 : decode cX11_gates 72 = .ok (.iload 6, 2) := by decide +kernel
theorem dX11_gates_74 : decode cX11_gates 74 = .ok (.aload_n 0, 1) := by decide +kernel
theorem dX11_gates_75 : decode cX11_gates 75 = .ok (.invokevirtual 224, 3) := by decide +kernel
theorem dX11_gates_78 : decode cX11_gates 78 = .ok (.if_icmp .ge 39, 3) := by decide +kernel
theorem dX11_gates_81 : decode cX11_gates 81 = .ok (.iload 5, 2) := by decide +kernel
theorem dX11_gates_83 : decode cX11_gates 83 = .ok (.iconst 0, 1) := by decide +kernel
theorem dX11_gates_84 : decode cX11_gates 84 = .ok (.aload_n 0, 1) := by decide +kernel
theorem dX11_gates_85 : decode cX11_gates 85 = .ok (.iload 6, 2) := by decide +kernel
theorem dX11_gates_87 : decode cX11_gates 87 = .ok (.invokevirtual 448, 3) := by decide +kernel
theorem dX11_gates_90 : decode cX11_gates 90 = .ok (.iconst 1, 1) := by decide +kernel
theorem dX11_gates_91 : decode cX11_gates 91 = .ok (.isub, 1) := by decide +kernel
theorem dX11_gates_92 : decode cX11_gates 92 = .ok (.invokestatic 252, 3) := by decide +kernel
theorem dX11_gates_95 : decode cX11_gates 95 = .ok (.iadd, 1) := by decide +kernel
theorem dX11_gates_96 : decode cX11_gates 96 = .ok (.istore 5, 2) := by decide +kernel
theorem dX11_gates_98 : decode cX11_gates 98 = .ok (.iload 4, 2) := by decide +kernel
theorem dX11_gates_100 : decode cX11_gates 100 = .ok (.aload_n 0, 1) := by decide +kernel
theorem dX11_gates_101 : decode cX11_gates 101 = .ok (.iload 6, 2) := by decide +kernel
theorem dX11_gates_103 : decode cX11_gates 103 = .ok (.invokevirtual 454, 3) := by decide +kernel
theorem dX11_gates_106 : decode cX11_gates 106 = .ok (.invokestatic 252, 3) := by decide +kernel
theorem dX11_gates_109 : decode cX11_gates 109 = .ok (.istore 4, 2) := by decide +kernel
theorem dX11_gates_111 : decode cX11_gates 111 = .ok (.iinc 6 1, 3) := by decide +kernel
theorem dX11_gates_114 : decode cX11_gates 114 = .ok (.goto (-42), 3) := by decide +kernel
theorem dX11_gates_117 : decode cX11_gates 117 = .ok (.iload_n 1, 1) := by decide +kernel
theorem dX11_gates_118 : decode cX11_gates 118 = .ok (.iconst 1, 1) := by decide +kernel
theorem dX11_gates_119 : decode cX11_gates 119 = .ok (.if_icmp .ne 8, 3) := by decide +kernel
theorem dX11_gates_122 : decode cX11_gates 122 = .ok (.iload 5, 2) := by decide +kernel
theorem dX11_gates_124 : decode cX11_gates 124 = .ok (.goto 14, 3) := by decide +kernel
theorem dX11_gates_127 : decode cX11_gates 127 = .ok (.iload_n 1, 1) := by decide +kernel
theorem dX11_gates_128 : decode cX11_gates 128 = .ok (.iconst 2, 1) := by decide +kernel
theorem dX11_gates_129 : decode cX11_gates 129 = .ok (.if_icmp .ne 7, 3) := by decide +kernel
theorem dX11_gates_132 : decode cX11_gates 132 = .ok (.iload_n 3, 1) := by decide +kernel
theorem dX11_gates_133 : decode cX11_gates 133 = .ok (.goto 5, 3) := by decide +kernel
theorem dX11_gates_136 : decode cX11_gates 136 = .ok (.iload 4, 2) := by decide +kernel
theorem dX11_gates_138 : decode cX11_gates 138 = .ok (.ireturn, 1) := by decide +kernel
def wW_X11_gates (G : GG) (h0 h1 h2 h3 h4 h5 h6 h7 h8 h9 y0_3 y0_4 y0_6 y0_18 y0_21 y0_22 y0_23 y0_24 y0_25 y0_26 y0_33 y0_34 y0_45 y0_46 y0_47 y0_48 : Nat) (x0_5 : Int32) (x0_7 : Int32) (x0_8 : Int32) (x0_9 : Int32) (x0_10 : Int32) (x0_11 : Int32) (x0_12 : Int32) (x0_13 : Int32) (x0_14 : Int32) (x0_15 : Int32) (x0_16 : Int32) (x0_17 : Int32) (x0_19 : Int32) (x0_20 : Int32) (x0_27 : Int32) (x0_28 : Int32) (x0_29 : Int32) (x0_30 : Int32) (x0_31 : Int32) (x0_32 : Int32) (x0_35 : Int32) (x0_36 : Int32) (x0_37 : Int32) (x0_44 : Int32) (x0_49 : Int32) (x0_50 : Int32) (a1 : Nat → Int32) (a2 : Nat → Int32) (a3 : Nat → Int32) (a4 : Nat → Int32) (a5 : Nat → Int32) (a6 : Nat → Int32) (a7 : Nat → Int32) (a8 : Nat → Int32) (a9 : Nat → Int32) : va_W := [(h0, .inr (11, [.ref h1, .ref h2, .ref h3, .ref y0_3, .ref y0_4, .int x0_5, .ref y0_6, .int x0_7, .int x0_8, .int x0_9, .int x0_10, .int x0_11, .int x0_12, .int x0_13, .int x0_14, .int x0_15, .int x0_16, .int x0_17, .ref y0_18, .int x0_19, .int x0_20, .ref y0_21, .ref y0_22, .ref y0_23, .ref y0_24, .ref y0_25, .ref y0_26, .int x0_27, .int x0_28, .int x0_29, .int x0_30, .int x0_31, .int x0_32, .ref y0_33, .ref y0_34, .int x0_35, .int x0_36, .int x0_37, .ref h4, .ref h5, .ref h6, .ref h7, .ref h8, .ref h9, .int x0_44, .ref y0_45, .ref y0_46, .ref y0_47, .ref y0_48, .int x0_49, .int x0_50])), (h1, .inl (G.2.1, 121, .inl a1)), (h2, .inl (G.2.1, 2, .inl a2)), (h3, .inl (G.2.1, 2, .inl a3)), (h4, .inl (G.2.1, 240, .inl a4)), (h5, .inl (G.2.1, 240, .inl a5)), (h6, .inl (G.2.1, 240, .inl a6)), (h7, .inl (G.2.1, 240, .inl a7)), (h8, .inl (G.2.1, 240, .inl a8)), (h9, .inl (G.2.1, 260, .inl a9))]
set_option maxHeartbeats 4000000 in
set_option maxRecDepth 100000 in
theorem c_X11_gates (l : Launch) (G : GG) (h0 h1 h2 h3 h4 h5 h6 h7 h8 h9 y0_3 y0_4 y0_6 y0_18 y0_21 y0_22 y0_23 y0_24 y0_25 y0_26 y0_33 y0_34 y0_45 y0_46 y0_47 y0_48 : Nat) (sz : Nat) (x0_5 : Int32) (x0_7 : Int32) (x0_8 : Int32) (x0_9 : Int32) (x0_10 : Int32) (x0_11 : Int32) (x0_12 : Int32) (x0_13 : Int32) (x0_14 : Int32) (x0_15 : Int32) (x0_16 : Int32) (x0_17 : Int32) (x0_19 : Int32) (x0_20 : Int32) (x0_27 : Int32) (x0_28 : Int32) (x0_29 : Int32) (x0_30 : Int32) (x0_31 : Int32) (x0_32 : Int32) (x0_35 : Int32) (x0_36 : Int32) (x0_37 : Int32) (x0_44 : Int32) (x0_49 : Int32) (x0_50 : Int32) (a1 : Nat → Int32) (a2 : Nat → Int32) (a3 : Nat → Int32) (a4 : Nat → Int32) (a5 : Nat → Int32) (a6 : Nat → Int32) (a7 : Nat → Int32) (a8 : Nat → Int32) (a9 : Nat → Int32) (F : Nat) (b1 : Int32)  (r0 : Int32) (e_x0_44 : Int32) (e_a4 : Nat → Int32) (e_a5 : Nat → Int32) (e_a6 : Nat → Int32) (e_a7 : Nat → Int32) (e_a8 : Nat → Int32) (e_a9 : Nat → Int32) (hf : p_X11_gates F x0_5 x0_44 a1 a2 a3 a4 a5 a6 a7 a8 a9 b1 = some (r0, e_x0_44, e_a4, e_a5, e_a6, e_a7, e_a8, e_a9)) : Met l yX11_gates (.code yX11_gates cX11_gates 7 (some .int) :: gtbl) ({ frames := 3, cells := 0, slots := 0, locals := 69 } : Room) (PcS G [.ref h0, .int b1] (wW_X11_gates G h0 h1 h2 h3 h4 h5 h6 h7 h8 h9 y0_3 y0_4 y0_6 y0_18 y0_21 y0_22 y0_23 y0_24 y0_25 y0_26 y0_33 y0_34 y0_45 y0_46 y0_47 y0_48 x0_5 x0_7 x0_8 x0_9 x0_10 x0_11 x0_12 x0_13 x0_14 x0_15 x0_16 x0_17 x0_19 x0_20 x0_27 x0_28 x0_29 x0_30 x0_31 x0_32 x0_35 x0_36 x0_37 x0_44 x0_49 x0_50 a1 a2 a3 a4 a5 a6 a7 a8 a9) sz) (QiS G r0 (va_A (wW_X11_gates G h0 h1 h2 h3 h4 h5 h6 h7 h8 h9 y0_3 y0_4 y0_6 y0_18 y0_21 y0_22 y0_23 y0_24 y0_25 y0_26 y0_33 y0_34 y0_45 y0_46 y0_47 y0_48 x0_5 x0_7 x0_8 x0_9 x0_10 x0_11 x0_12 x0_13 x0_14 x0_15 x0_16 x0_17 x0_19 x0_20 x0_27 x0_28 x0_29 x0_30 x0_31 x0_32 x0_35 x0_36 x0_37 x0_44 x0_49 x0_50 a1 a2 a3 a4 a5 a6 a7 a8 a9) sz) (wW_X11_gates G h0 h1 h2 h3 h4 h5 h6 h7 h8 h9 y0_3 y0_4 y0_6 y0_18 y0_21 y0_22 y0_23 y0_24 y0_25 y0_26 y0_33 y0_34 y0_45 y0_46 y0_47 y0_48 x0_5 x0_7 x0_8 x0_9 x0_10 x0_11 x0_12 x0_13 x0_14 x0_15 x0_16 x0_17 x0_19 x0_20 x0_27 x0_28 x0_29 x0_30 x0_31 x0_32 x0_35 x0_36 x0_37 e_x0_44 x0_49 x0_50 a1 a2 a3 e_a4 e_a5 e_a6 e_a7 e_a8 e_a9)) 0 0 (va_A (wW_X11_gates G h0 h1 h2 h3 h4 h5 h6 h7 h8 h9 y0_3 y0_4 y0_6 y0_18 y0_21 y0_22 y0_23 y0_24 y0_25 y0_26 y0_33 y0_34 y0_45 y0_46 y0_47 y0_48 x0_5 x0_7 x0_8 x0_9 x0_10 x0_11 x0_12 x0_13 x0_14 x0_15 x0_16 x0_17 x0_19 x0_20 x0_27 x0_28 x0_29 x0_30 x0_31 x0_32 x0_35 x0_36 x0_37 x0_44 x0_49 x0_50 a1 a2 a3 a4 a5 a6 a7 a8 a9) sz) := by
  refine met_start (by decide) (Nat.le_of_ble_eq_true rfl) ?_
  intro p e s m below meth c hC hr hlk hnm hK hP hD hA hS hX ls hl
  obtain ⟨hx, hb, hml, hown, ht0⟩ := hC
  have hown : s.vm.findClass RX11 = some m.cls := hown
  generalize va_A (wW_X11_gates G h0 h1 h2 h3 h4 h5 h6 h7 h8 h9 y0_3 y0_4 y0_6 y0_18 y0_21 y0_22 y0_23 y0_24 y0_25 y0_26 y0_33 y0_34 y0_45 y0_46 y0_47 y0_48 x0_5 x0_7 x0_8 x0_9 x0_10 x0_11 x0_12 x0_13 x0_14 x0_15 x0_16 x0_17 x0_19 x0_20 x0_27 x0_28 x0_29 x0_30 x0_31 x0_32 x0_35 x0_36 x0_37 x0_44 x0_49 x0_50 a1 a2 a3 a4 a5 a6 a7 a8 a9) sz = A at hD hA hS hX ⊢
  have hl : lv_has ls 7 [(0, .ref h0), (1, .int b1)] := hl
  have hf : p_X11_gates F x0_5 x0_44 a1 a2 a3 a4 a5 a6 a7 a8 a9 b1 = some (r0, e_x0_44, e_a4, e_a5, e_a6, e_a7, e_a8, e_a9) := hf
  have kL72 : ∀ (c72_1 : Int32) (c72_3 : Int32) (n72 : Nat) (u72_4 : Int32) (u72_5 : Int32) (u72_6 : Int32) (x0_44_72 : Int32) (a4_72 : Nat → Int32) (a5_72 : Nat → Int32) (a6_72 : Nat → Int32) (a7_72 : Nat → Int32) (a8_72 : Nat → Int32) (a9_72 : Nat → Int32), p_X11_gates_L72 F x0_5 a1 a2 a3 c72_1 c72_3 n72 u72_4 u72_5 u72_6 x0_44_72 a4_72 a5_72 a6_72 a7_72 a8_72 a9_72 = some (r0, e_x0_44, e_a4, e_a5, e_a6, e_a7, e_a8, e_a9) → ∀ (H : Heap) (locs : List Loc), va_P G.1 vwCl (wW_X11_gates G h0 h1 h2 h3 h4 h5 h6 h7 h8 h9 y0_3 y0_4 y0_6 y0_18 y0_21 y0_22 y0_23 y0_24 y0_25 y0_26 y0_33 y0_34 y0_45 y0_46 y0_47 y0_48 x0_5 x0_7 x0_8 x0_9 x0_10 x0_11 x0_12 x0_13 x0_14 x0_15 x0_16 x0_17 x0_19 x0_20 x0_27 x0_28 x0_29 x0_30 x0_31 x0_32 x0_35 x0_36 x0_37 x0_44_72 x0_49 x0_50 a1 a2 a3 a4_72 a5_72 a6_72 a7_72 a8_72 a9_72) H → va_D A (wW_X11_gates G h0 h1 h2 h3 h4 h5 h6 h7 h8 h9 y0_3 y0_4 y0_6 y0_18 y0_21 y0_22 y0_23 y0_24 y0_25 y0_26 y0_33 y0_34 y0_45 y0_46 y0_47 y0_48 x0_5 x0_7 x0_8 x0_9 x0_10 x0_11 x0_12 x0_13 x0_14 x0_15 x0_16 x0_17 x0_19 x0_20 x0_27 x0_28 x0_29 x0_30 x0_31 x0_32 x0_35 x0_36 x0_37 x0_44_72 x0_49 x0_50 a1 a2 a3 a4_72 a5_72 a6_72 a7_72 a8_72 a9_72) → va_S A s.heap H locs → ∀ ls : Array Slot, lv_has ls 7 [(0, .ref h0), (1, .int c72_1), (3, .int c72_3), (4, .int u72_4), (5, .int u72_5), (6, .int u72_6)] → W p l e ({ frames := 3, cells := 0, slots := 0, locals := 69 } : Room) s m (List.toArray [.ref h0, .int b1]) below meth c H locs 0 0 (MQ below (QiS G r0 A (wW_X11_gates G h0 h1 h2 h3 h4 h5 h6 h7 h8 h9 y0_3 y0_4 y0_6 y0_18 y0_21 y0_22 y0_23 y0_24 y0_25 y0_26 y0_33 y0_34 y0_45 y0_46 y0_47 y0_48 x0_5 x0_7 x0_8 x0_9 x0_10 x0_11 x0_12 x0_13 x0_14 x0_15 x0_16 x0_17 x0_19 x0_20 x0_27 x0_28 x0_29 x0_30 x0_31 x0_32 x0_35 x0_36 x0_37 e_x0_44 x0_49 x0_50 a1 a2 a3 e_a4 e_a5 e_a6 e_a7 e_a8 e_a9)) (List.toArray [.ref h0, .int b1]) s 0 0 A) (F0 m 72 ls []) := by
    intro c72_1 c72_3 n72
    induction n72 with
    | zero =>
      intro u72_4 u72_5 u72_6 x0_44_72 a4_72 a5_72 a6_72 a7_72 a8_72 a9_72 hf
      cases hf
    | succ n72 ih72 =>
      intro u72_4 u72_5 u72_6 x0_44_72 a4_72 a5_72 a6_72 a7_72 a8_72 a9_72 hf H locs hP hD hS ls hl
      have hf : p_X11_gates_L72b F x0_5 a1 a2 a3 c72_1 c72_3 (p_X11_gates_L72 F x0_5 a1 a2 a3 c72_1 c72_3 n72) u72_4 u72_5 u72_6 x0_44_72 a4_72 a5_72 a6_72 a7_72 a8_72 a9_72 = some (r0, e_x0_44, e_a4, e_a5, e_a6, e_a7, e_a8, e_a9) := hf
      refine lv_iload hx hb dX11_gates_72 (lv_at hl 5 rfl) ?_
      refine lv_aload_n hx hb dX11_gates_74 rfl (lv_at hl 0 rfl) ?_
      obtain ⟨r_75_0, hc_r_75_0, hf⟩ := of_bnd hf
      refine cl_Vi (w2 := (wW_X11_gates G h0 h1 h2 h3 h4 h5 h6 h7 h8 h9 y0_3 y0_4 y0_6 y0_18 y0_21 y0_22 y0_23 y0_24 y0_25 y0_26 y0_33 y0_34 y0_45 y0_46 y0_47 y0_48 x0_5 x0_7 x0_8 x0_9 x0_10 x0_11 x0_12 x0_13 x0_14 x0_15 x0_16 x0_17 x0_19 x0_20 x0_27 x0_28 x0_29 x0_30 x0_31 x0_32 x0_35 x0_36 x0_37 x0_44_72 x0_49 x0_50 a1 a2 a3 a4_72 a5_72 a6_72 a7_72 a8_72 a9_72)) (As := []) (rest := [.int u72_6]) ⟨hx, hb, hml, hown, ht0⟩ (c_X11_checksNow l G h0 h3 h1 h2 y0_3 y0_4 y0_6 y0_18 y0_21 y0_22 y0_23 y0_24 y0_25 y0_26 y0_33 y0_34 h4 h5 h6 h7 h8 h9 y0_45 y0_46 y0_47 y0_48 _ x0_5 x0_7 x0_8 x0_9 x0_10 x0_11 x0_12 x0_13 x0_14 x0_15 x0_16 x0_17 x0_19 x0_20 x0_27 x0_28 x0_29 x0_30 x0_31 x0_32 x0_35 x0_36 x0_37 x0_44_72 x0_49 x0_50 a3 F _ hc_r_75_0) yk_X11_checksNow wd_1576 ⟨rfl, rfl, by decide, by decide⟩ ⟨Nat.le_refl _, Nat.le_refl _⟩ hX hK hP hD hS hA [0, 3] [1, 2, 4, 5, 6, 7, 8, 9] [8, 0, 1, 9, 2, 3, 4, 5, 6, 7] (va_recv hK hP (ci := 11) (q0 := 0) rfl rfl) rfl rfl (by decide) rfl rfl rfl rfl rfl hl.1 rfl (Nat.le_of_ble_eq_true rfl) dX11_gates_75 (fun H locs hP hD hS => ?_)
      refine lv_icmp_ge (tgt := 117) hx hb dX11_gates_78 (by decide) (fun c2 => ?_) (fun c2 => ?_)
      · have hf := of_pos hf c2
        refine lv_iload_n hx hb dX11_gates_117 rfl (lv_at hl 1 rfl) ?_
        refine lv_iconst (v := (1 : Int32)) hx hb dX11_gates_118 (by decide) ?_
        refine lv_icmp_ne (tgt := 127) hx hb dX11_gates_119 (by decide) (fun c3 => ?_) (fun c3 => ?_)
        · have hf := of_neg hf c3
          refine lv_iload_n hx hb dX11_gates_127 rfl (lv_at hl 1 rfl) ?_
          refine lv_iconst (v := (2 : Int32)) hx hb dX11_gates_128 (by decide) ?_
          refine lv_icmp_ne (tgt := 136) hx hb dX11_gates_129 (by decide) (fun c4 => ?_) (fun c4 => ?_)
          · have hf := of_neg hf c4
            refine lv_iload hx hb dX11_gates_136 (lv_at hl 3 rfl) ?_
            cases hf
            exact ret_i hx hb hr hlk hK hP hD hS dX11_gates_138
          · have hf := of_pos hf c4
            refine lv_iload_n hx hb dX11_gates_132 rfl (lv_at hl 2 rfl) ?_
            refine lv_goto (tgt := 138) hx hb dX11_gates_133 (by decide) ?_
            cases hf
            exact ret_i hx hb hr hlk hK hP hD hS dX11_gates_138
        · have hf := of_pos hf c3
          refine lv_iload hx hb dX11_gates_122 (lv_at hl 4 rfl) ?_
          refine lv_goto (tgt := 138) hx hb dX11_gates_124 (by decide) ?_
          cases hf
          exact ret_i hx hb hr hlk hK hP hD hS dX11_gates_138
      · have hf := of_neg hf c2
        refine lv_iload hx hb dX11_gates_81 (lv_at hl 4 rfl) ?_
        refine lv_iconst (v := (0 : Int32)) hx hb dX11_gates_83 (by decide) ?_
        refine lv_aload_n hx hb dX11_gates_84 rfl (lv_at hl 0 rfl) ?_
        refine lv_iload hx hb dX11_gates_85 (lv_at hl 5 rfl) ?_
        obtain ⟨r_87_4, hc_r_87_4, hf⟩ := of_bnd hf
        refine cl_Vi (w2 := (wW_X11_gates G h0 h1 h2 h3 h4 h5 h6 h7 h8 h9 y0_3 y0_4 y0_6 y0_18 y0_21 y0_22 y0_23 y0_24 y0_25 y0_26 y0_33 y0_34 y0_45 y0_46 y0_47 y0_48 x0_5 x0_7 x0_8 x0_9 x0_10 x0_11 x0_12 x0_13 x0_14 x0_15 x0_16 x0_17 x0_19 x0_20 x0_27 x0_28 x0_29 x0_30 x0_31 x0_32 x0_35 x0_36 x0_37 x0_44_72 x0_49 x0_50 a1 a2 a3 a4_72 a5_72 a6_72 a7_72 a8_72 a9_72)) (As := [.int u72_6]) (rest := [.int (0 : Int32), .int u72_5]) ⟨hx, hb, hml, hown, ht0⟩ (c_X11_hasMany l G h0 h4 h1 h2 h3 y0_3 y0_4 y0_6 y0_18 y0_21 y0_22 y0_23 y0_24 y0_25 y0_26 y0_33 y0_34 h5 h6 h7 h8 h9 y0_45 y0_46 y0_47 y0_48 _ x0_5 x0_7 x0_8 x0_9 x0_10 x0_11 x0_12 x0_13 x0_14 x0_15 x0_16 x0_17 x0_19 x0_20 x0_27 x0_28 x0_29 x0_30 x0_31 x0_32 x0_35 x0_36 x0_37 x0_44_72 x0_49 x0_50 a4_72 F u72_6 _ hc_r_87_4) yk_X11_hasMany wd_1901 ⟨rfl, rfl, by decide, by decide⟩ ⟨Nat.le_refl _, Nat.le_refl _⟩ hX hK hP hD hS hA [0, 4] [1, 2, 3, 5, 6, 7, 8, 9] [8, 0, 1, 2, 9, 3, 4, 5, 6, 7] (va_recv hK hP (ci := 11) (q0 := 0) rfl rfl) rfl rfl (by decide) rfl rfl rfl rfl rfl hl.1 rfl (Nat.le_of_ble_eq_true rfl) dX11_gates_87 (fun H locs hP hD hS => ?_)
        refine lv_iconst (v := (1 : Int32)) hx hb dX11_gates_90 (by decide) ?_
        refine lv_isub hx hb dX11_gates_91 ?_
        obtain ⟨r_92_5, hc_r_92_5, hf⟩ := of_bnd hf
        refine cl_Si (w2 := (wW_X11_gates G h0 h1 h2 h3 h4 h5 h6 h7 h8 h9 y0_3 y0_4 y0_6 y0_18 y0_21 y0_22 y0_23 y0_24 y0_25 y0_26 y0_33 y0_34 y0_45 y0_46 y0_47 y0_48 x0_5 x0_7 x0_8 x0_9 x0_10 x0_11 x0_12 x0_13 x0_14 x0_15 x0_16 x0_17 x0_19 x0_20 x0_27 x0_28 x0_29 x0_30 x0_31 x0_32 x0_35 x0_36 x0_37 x0_44_72 x0_49 x0_50 a1 a2 a3 a4_72 a5_72 a6_72 a7_72 a8_72 a9_72)) (As := [.int (0 : Int32), .int (r_87_4 - (1 : Int32))]) (rest := [.int u72_5]) ⟨hx, hb, hml, hown, ht0⟩ (c_X11_more l G _ F (0 : Int32) (r_87_4 - (1 : Int32)) _ hc_r_92_5) yk_X11_more wd_1372 ⟨rfl, rfl, by decide, by decide⟩ ⟨Nat.le_refl _, Nat.le_refl _⟩ hX hK hP hD hS hA [] [0, 1, 2, 3, 4, 5, 6, 7, 8, 9] [0, 1, 2, 3, 4, 5, 6, 7, 8, 9] rfl rfl (by decide) rfl rfl rfl rfl rfl hl.1 rfl (Nat.le_of_ble_eq_true rfl) dX11_gates_92 (fun H locs hP hD hS => ?_)
        refine lv_iadd hx hb dX11_gates_95 ?_
        refine lv_istore (lv' := [(5, .int (u72_5 + r_92_5)), (0, .ref h0), (1, .int c72_1), (3, .int c72_3), (4, .int u72_4), (6, .int u72_6)]) hx hb dX11_gates_96 hl (by decide) rfl (fun ls hl => ?_)
        refine lv_iload hx hb dX11_gates_98 (lv_at hl 4 rfl) ?_
        refine lv_aload_n hx hb dX11_gates_100 rfl (lv_at hl 1 rfl) ?_
        refine lv_iload hx hb dX11_gates_101 (lv_at hl 5 rfl) ?_
        obtain ⟨⟨r_103_6, r_103_6_a3⟩, hc_r_103_6, hf⟩ := of_bnd hf
        refine cl_Vi (w2 := (wW_X11_gates G h0 h1 h2 h3 h4 h5 h6 h7 h8 h9 y0_3 y0_4 y0_6 y0_18 y0_21 y0_22 y0_23 y0_24 y0_25 y0_26 y0_33 y0_34 y0_45 y0_46 y0_47 y0_48 x0_5 x0_7 x0_8 x0_9 x0_10 x0_11 x0_12 x0_13 x0_14 x0_15 x0_16 x0_17 x0_19 x0_20 x0_27 x0_28 x0_29 x0_30 x0_31 x0_32 x0_35 x0_36 x0_37 x0_44_72 x0_49 x0_50 a1 a2 a3 a4_72 a5_72 a6_72 a7_72 a8_72 r_103_6_a3)) (As := [.int u72_6]) (rest := [.int u72_4]) ⟨hx, hb, hml, hown, ht0⟩ (c_X11_deepBy l G h0 h4 h5 h9 h1 h2 h3 y0_3 y0_4 y0_6 y0_18 y0_21 y0_22 y0_23 y0_24 y0_25 y0_26 y0_33 y0_34 h6 h7 h8 y0_45 y0_46 y0_47 y0_48 _ x0_5 x0_7 x0_8 x0_9 x0_10 x0_11 x0_12 x0_13 x0_14 x0_15 x0_16 x0_17 x0_19 x0_20 x0_27 x0_28 x0_29 x0_30 x0_31 x0_32 x0_35 x0_36 x0_37 x0_44_72 x0_49 x0_50 a4_72 a5_72 a9_72 F u72_6 _ _ hc_r_103_6) yk_X11_deepBy wd_1905 ⟨rfl, rfl, by decide, by decide⟩ ⟨Nat.le_refl _, Nat.le_refl _⟩ hX hK hP hD hS hA [0, 4, 5, 9] [1, 2, 3, 6, 7, 8] [6, 0, 1, 2, 7, 8, 3, 4, 5, 9] (va_recv hK hP (ci := 11) (q0 := 0) rfl rfl) rfl rfl (by decide) rfl rfl rfl rfl rfl hl.1 rfl (Nat.le_of_ble_eq_true rfl) dX11_gates_103 (fun H locs hP hD hS => ?_)
        obtain ⟨r_106_7, hc_r_106_7, hf⟩ := of_bnd hf
        refine cl_Si (w2 := (wW_X11_gates G h0 h1 h2 h3 h4 h5 h6 h7 h8 h9 y0_3 y0_4 y0_6 y0_18 y0_21 y0_22 y0_23 y0_24 y0_25 y0_26 y0_33 y0_34 y0_45 y0_46 y0_47 y0_48 x0_5 x0_7 x0_8 x0_9 x0_10 x0_11 x0_12 x0_13 x0_14 x0_15 x0_16 x0_17 x0_19 x0_20 x0_27 x0_28 x0_29 x0_30 x0_31 x0_32 x0_35 x0_36 x0_37 x0_44_72 x0_49 x0_50 a1 a2 a3 a4_72 a5_72 a6_72 a7_72 a8_72 r_103_6_a3)) (As := [.int u72_4, .int r_103_6]) (rest := []) ⟨hx, hb, hml, hown, ht0⟩ (c_X11_more l G _ F u72_4 r_103_6 _ hc_r_106_7) yk_X11_more wd_1372 ⟨rfl, rfl, by decide, by decide⟩ ⟨Nat.le_refl _, Nat.le_refl _⟩ hX hK hP hD hS hA [] [0, 1, 2, 3, 4, 5, 6, 7, 8, 9] [0, 1, 2, 3, 4, 5, 6, 7, 8, 9] rfl rfl (by decide) rfl rfl rfl rfl rfl hl.1 rfl (Nat.le_of_ble_eq_true rfl) dX11_gates_106 (fun H locs hP hD hS => ?_)
        refine lv_istore (lv' := [(4, .int r_106_7), (5, .int (u72_5 + r_92_5)), (0, .ref h0), (1, .int c72_1), (3, .int c72_3), (6, .int u72_6)]) hx hb dX11_gates_109 hl (by decide) rfl (fun ls hl => ?_)
        refine lv_iinc (v := u72_6 + (1 : Int32)) (lv' := [(6, .int (u72_6 + (1 : Int32))), (4, .int r_106_7), (5, .int (u72_5 + r_92_5)), (0, .ref h0), (1, .int c72_1), (3, .int c72_3)]) hx hb dX11_gates_111 hl (k := 5) rfl (by rfl) (by decide) rfl (fun ls hl => ?_)
        refine lv_goto (tgt := 72) hx hb dX11_gates_114 (by decide) ?_
        exact ih72 _ _ _ _ _ _ _ _ _ _ hf _ _ hP hD hS _ (lv_sub hl [3, 4, 5, 1, 2, 0] rfl)
  have kL15 : ∀ (c15_1 : Int32) (n15 : Nat) (u15_2 : Int32) (u15_3 : Int32) (x0_44_15 : Int32) (a4_15 : Nat → Int32) (a5_15 : Nat → Int32) (a6_15 : Nat → Int32) (a7_15 : Nat → Int32) (a8_15 : Nat → Int32) (a9_15 : Nat → Int32), p_X11_gates_L15 F x0_5 a1 a2 a3 c15_1 n15 u15_2 u15_3 x0_44_15 a4_15 a5_15 a6_15 a7_15 a8_15 a9_15 = some (r0, e_x0_44, e_a4, e_a5, e_a6, e_a7, e_a8, e_a9) → ∀ (H : Heap) (locs : List Loc), va_P G.1 vwCl (wW_X11_gates G h0 h1 h2 h3 h4 h5 h6 h7 h8 h9 y0_3 y0_4 y0_6 y0_18 y0_21 y0_22 y0_23 y0_24 y0_25 y0_26 y0_33 y0_34 y0_45 y0_46 y0_47 y0_48 x0_5 x0_7 x0_8 x0_9 x0_10 x0_11 x0_12 x0_13 x0_14 x0_15 x0_16 x0_17 x0_19 x0_20 x0_27 x0_28 x0_29 x0_30 x0_31 x0_32 x0_35 x0_36 x0_37 x0_44_15 x0_49 x0_50 a1 a2 a3 a4_15 a5_15 a6_15 a7_15 a8_15 a9_15) H → va_D A (wW_X11_gates G h0 h1 h2 h3 h4 h5 h6 h7 h8 h9 y0_3 y0_4 y0_6 y0_18 y0_21 y0_22 y0_23 y0_24 y0_25 y0_26 y0_33 y0_34 y0_45 y0_46 y0_47 y0_48 x0_5 x0_7 x0_8 x0_9 x0_10 x0_11 x0_12 x0_13 x0_14 x0_15 x0_16 x0_17 x0_19 x0_20 x0_27 x0_28 x0_29 x0_30 x0_31 x0_32 x0_35 x0_36 x0_37 x0_44_15 x0_49 x0_50 a1 a2 a3 a4_15 a5_15 a6_15 a7_15 a8_15 a9_15) → va_S A s.heap H locs → ∀ ls : Array Slot, lv_has ls 7 [(0, .ref h0), (1, .int c15_1), (2, .int u15_2), (3, .int u15_3)] → W p l e ({ frames := 3, cells := 0, slots := 0, locals := 69 } : Room) s m (List.toArray [.ref h0, .int b1]) below meth c H locs 0 0 (MQ below (QiS G r0 A (wW_X11_gates G h0 h1 h2 h3 h4 h5 h6 h7 h8 h9 y0_3 y0_4 y0_6 y0_18 y0_21 y0_22 y0_23 y0_24 y0_25 y0_26 y0_33 y0_34 y0_45 y0_46 y0_47 y0_48 x0_5 x0_7 x0_8 x0_9 x0_10 x0_11 x0_12 x0_13 x0_14 x0_15 x0_16 x0_17 x0_19 x0_20 x0_27 x0_28 x0_29 x0_30 x0_31 x0_32 x0_35 x0_36 x0_37 e_x0_44 x0_49 x0_50 a1 a2 a3 e_a4 e_a5 e_a6 e_a7 e_a8 e_a9)) (List.toArray [.ref h0, .int b1]) s 0 0 A) (F0 m 15 ls []) := by
    intro c15_1 n15
    induction n15 with
    | zero =>
      intro u15_2 u15_3 x0_44_15 a4_15 a5_15 a6_15 a7_15 a8_15 a9_15 hf
      cases hf
    | succ n15 ih15 =>
      intro u15_2 u15_3 x0_44_15 a4_15 a5_15 a6_15 a7_15 a8_15 a9_15 hf H locs hP hD hS ls hl
      have hf : p_X11_gates_L15b F x0_5 a1 a2 a3 c15_1 (p_X11_gates_L15 F x0_5 a1 a2 a3 c15_1 n15) u15_2 u15_3 x0_44_15 a4_15 a5_15 a6_15 a7_15 a8_15 a9_15 = some (r0, e_x0_44, e_a4, e_a5, e_a6, e_a7, e_a8, e_a9) := hf
      refine lv_iload_n hx hb dX11_gates_15 rfl (lv_at hl 3 rfl) ?_
      refine lv_aload_n hx hb dX11_gates_16 rfl (lv_at hl 0 rfl) ?_
      obtain ⟨r_17_8, hc_r_17_8, hf⟩ := of_bnd hf
      refine cl_Vi (w2 := (wW_X11_gates G h0 h1 h2 h3 h4 h5 h6 h7 h8 h9 y0_3 y0_4 y0_6 y0_18 y0_21 y0_22 y0_23 y0_24 y0_25 y0_26 y0_33 y0_34 y0_45 y0_46 y0_47 y0_48 x0_5 x0_7 x0_8 x0_9 x0_10 x0_11 x0_12 x0_13 x0_14 x0_15 x0_16 x0_17 x0_19 x0_20 x0_27 x0_28 x0_29 x0_30 x0_31 x0_32 x0_35 x0_36 x0_37 x0_44_15 x0_49 x0_50 a1 a2 a3 a4_15 a5_15 a6_15 a7_15 a8_15 a9_15)) (As := []) (rest := [.int u15_3]) ⟨hx, hb, hml, hown, ht0⟩ (c_X11_checksNow l G h0 h3 h1 h2 y0_3 y0_4 y0_6 y0_18 y0_21 y0_22 y0_23 y0_24 y0_25 y0_26 y0_33 y0_34 h4 h5 h6 h7 h8 h9 y0_45 y0_46 y0_47 y0_48 _ x0_5 x0_7 x0_8 x0_9 x0_10 x0_11 x0_12 x0_13 x0_14 x0_15 x0_16 x0_17 x0_19 x0_20 x0_27 x0_28 x0_29 x0_30 x0_31 x0_32 x0_35 x0_36 x0_37 x0_44_15 x0_49 x0_50 a3 F _ hc_r_17_8) yk_X11_checksNow wd_1576 ⟨rfl, rfl, by decide, by decide⟩ ⟨Nat.le_refl _, Nat.le_refl _⟩ hX hK hP hD hS hA [0, 3] [1, 2, 4, 5, 6, 7, 8, 9] [8, 0, 1, 9, 2, 3, 4, 5, 6, 7] (va_recv hK hP (ci := 11) (q0 := 0) rfl rfl) rfl rfl (by decide) rfl rfl rfl rfl rfl hl.1 rfl (Nat.le_of_ble_eq_true rfl) dX11_gates_17 (fun H locs hP hD hS => ?_)
      refine lv_icmp_ge (tgt := 43) hx hb dX11_gates_20 (by decide) (fun c10 => ?_) (fun c10 => ?_)
      · have hf := of_pos hf c10
        refine lv_iload_n hx hb dX11_gates_43 rfl (lv_at hl 1 rfl) ?_
        refine lv_if_ne (tgt := 49) hx hb dX11_gates_44 (by decide) (fun c11 => ?_) (fun c11 => ?_)
        · have hf := of_neg hf c11
          refine lv_aload_n hx hb dX11_gates_49 rfl (lv_at hl 0 rfl) ?_
          obtain ⟨⟨r_50_11_x0_44, r_50_11_a3, r_50_11_a4, r_50_11_a5, r_50_11_a6, r_50_11_a7⟩, hc_r_50_11, hf⟩ := of_bnd hf
          refine cl_Vv (w2 := (wW_X11_gates G h0 h1 h2 h3 h4 h5 h6 h7 h8 h9 y0_3 y0_4 y0_6 y0_18 y0_21 y0_22 y0_23 y0_24 y0_25 y0_26 y0_33 y0_34 y0_45 y0_46 y0_47 y0_48 x0_5 x0_7 x0_8 x0_9 x0_10 x0_11 x0_12 x0_13 x0_14 x0_15 x0_16 x0_17 x0_19 x0_20 x0_27 x0_28 x0_29 x0_30 x0_31 x0_32 x0_35 x0_36 x0_37 r_50_11_x0_44 x0_49 x0_50 a1 a2 a3 r_50_11_a3 r_50_11_a4 r_50_11_a5 r_50_11_a6 r_50_11_a7 a9_15)) (As := []) (rest := []) ⟨hx, hb, hml, hown, ht0⟩ (c_X11_laySignals l G h0 h1 h2 h4 h5 h6 h7 h8 h3 y0_3 y0_4 y0_6 y0_18 y0_21 y0_22 y0_23 y0_24 y0_25 y0_26 y0_33 y0_34 h9 y0_45 y0_46 y0_47 y0_48 _ x0_5 x0_7 x0_8 x0_9 x0_10 x0_11 x0_12 x0_13 x0_14 x0_15 x0_16 x0_17 x0_19 x0_20 x0_27 x0_28 x0_29 x0_30 x0_31 x0_32 x0_35 x0_36 x0_37 x0_44_15 x0_49 x0_50 a1 a2 a4_15 a5_15 a6_15 a7_15 a8_15 F _ _ _ _ _ _ hc_r_50_11) yk_X11_laySignals wd_1893 ⟨rfl, rfl, by decide, by decide⟩ ⟨Nat.le_refl _, Nat.le_refl _⟩ hX hK hP hD hS hA [0, 1, 2, 4, 5, 6, 7, 8] [3, 9] [2, 3, 4, 0, 5, 6, 7, 8, 9, 1] (va_recv hK hP (ci := 11) (q0 := 0) rfl rfl) rfl rfl (by decide) rfl rfl rfl rfl rfl hl.1 rfl (Nat.le_of_ble_eq_true rfl) dX11_gates_50 (fun H locs hP hD hS => ?_)
          refine lv_aload_n hx hb dX11_gates_53 rfl (lv_at hl 0 rfl) ?_
          refine va_get (ci := 11) (v := .int r_50_11_x0_44) (C := RX11) (T := TX11) (N := 51) hx hb ht0 iX11 hown hK hP 0 rfl rfl 44 (by decide) (ht0 _ wd_1450) (fun _ h9 => h9) rfl dX11_gates_54 ?_
          refine lv_aload_n hx hb dX11_gates_57 rfl (lv_at hl 0 rfl) ?_
          obtain ⟨r_58_12, hc_r_58_12, hf⟩ := of_bnd hf
          refine cl_Vi (w2 := (wW_X11_gates G h0 h1 h2 h3 h4 h5 h6 h7 h8 h9 y0_3 y0_4 y0_6 y0_18 y0_21 y0_22 y0_23 y0_24 y0_25 y0_26 y0_33 y0_34 y0_45 y0_46 y0_47 y0_48 x0_5 x0_7 x0_8 x0_9 x0_10 x0_11 x0_12 x0_13 x0_14 x0_15 x0_16 x0_17 x0_19 x0_20 x0_27 x0_28 x0_29 x0_30 x0_31 x0_32 x0_35 x0_36 x0_37 r_50_11_x0_44 x0_49 x0_50 a1 a2 a3 r_50_11_a3 r_50_11_a4 r_50_11_a5 r_50_11_a6 r_50_11_a7 a9_15)) (As := []) (rest := [.int r_50_11_x0_44]) ⟨hx, hb, hml, hown, ht0⟩ (c_X11_dataNow l G h0 h2 h1 h3 y0_3 y0_4 y0_6 y0_18 y0_21 y0_22 y0_23 y0_24 y0_25 y0_26 y0_33 y0_34 h4 h5 h6 h7 h8 h9 y0_45 y0_46 y0_47 y0_48 _ x0_5 x0_7 x0_8 x0_9 x0_10 x0_11 x0_12 x0_13 x0_14 x0_15 x0_16 x0_17 x0_19 x0_20 x0_27 x0_28 x0_29 x0_30 x0_31 x0_32 x0_35 x0_36 x0_37 r_50_11_x0_44 x0_49 x0_50 a2 F _ hc_r_58_12) yk_X11_dataNow wd_1398 ⟨rfl, rfl, by decide, by decide⟩ ⟨Nat.le_refl _, Nat.le_refl _⟩ hX hK hP hD hS hA [0, 2] [1, 3, 4, 5, 6, 7, 8, 9] [8, 0, 9, 1, 2, 3, 4, 5, 6, 7] (va_recv hK hP (ci := 11) (q0 := 0) rfl rfl) rfl rfl (by decide) rfl rfl rfl rfl rfl hl.1 rfl (Nat.le_of_ble_eq_true rfl) dX11_gates_58 (fun H locs hP hD hS => ?_)
          refine lv_isub hx hb dX11_gates_61 ?_
          refine lv_istore_n (lv' := [(3, .int (r_50_11_x0_44 - r_58_12)), (0, .ref h0), (1, .int c15_1), (2, .int u15_2)]) hx hb dX11_gates_62 rfl hl (by decide) rfl (fun ls hl => ?_)
          refine lv_iconst (v := (0 : Int32)) hx hb dX11_gates_63 (by decide) ?_
          refine lv_istore (lv' := [(4, .int (0 : Int32)), (3, .int (r_50_11_x0_44 - r_58_12)), (0, .ref h0), (1, .int c15_1), (2, .int u15_2)]) hx hb dX11_gates_64 hl (by decide) rfl (fun ls hl => ?_)
          refine lv_iload_n hx hb dX11_gates_66 rfl (lv_at hl 1 rfl) ?_
          refine lv_istore (lv' := [(5, .int (r_50_11_x0_44 - r_58_12)), (4, .int (0 : Int32)), (3, .int (r_50_11_x0_44 - r_58_12)), (0, .ref h0), (1, .int c15_1), (2, .int u15_2)]) hx hb dX11_gates_67 hl (by decide) rfl (fun ls hl => ?_)
          refine lv_iconst (v := (0 : Int32)) hx hb dX11_gates_69 (by decide) ?_
          refine lv_istore (lv' := [(6, .int (0 : Int32)), (5, .int (r_50_11_x0_44 - r_58_12)), (4, .int (0 : Int32)), (3, .int (r_50_11_x0_44 - r_58_12)), (0, .ref h0), (1, .int c15_1), (2, .int u15_2)]) hx hb dX11_gates_70 hl (by decide) rfl (fun ls hl => ?_)
          exact kL72 _ _ _ _ _ _ _ _ _ _ _ _ _ hf _ _ hP hD hS _ (lv_sub hl [4, 5, 3, 2, 1, 0] rfl)
        · have hf := of_pos hf c11
          refine lv_iload_n hx hb dX11_gates_47 rfl (lv_at hl 2 rfl) ?_
          cases hf
          exact ret_i hx hb hr hlk hK hP hD hS dX11_gates_48
      · have hf := of_neg hf c10
        refine lv_iload_n hx hb dX11_gates_23 rfl (lv_at hl 2 rfl) ?_
        refine lv_iconst (v := (0 : Int32)) hx hb dX11_gates_24 (by decide) ?_
        refine lv_aload_n hx hb dX11_gates_25 rfl (lv_at hl 0 rfl) ?_
        refine lv_iload_n hx hb dX11_gates_26 rfl (lv_at hl 3 rfl) ?_
        obtain ⟨r_27_13, hc_r_27_13, hf⟩ := of_bnd hf
        refine cl_Vi (w2 := (wW_X11_gates G h0 h1 h2 h3 h4 h5 h6 h7 h8 h9 y0_3 y0_4 y0_6 y0_18 y0_21 y0_22 y0_23 y0_24 y0_25 y0_26 y0_33 y0_34 y0_45 y0_46 y0_47 y0_48 x0_5 x0_7 x0_8 x0_9 x0_10 x0_11 x0_12 x0_13 x0_14 x0_15 x0_16 x0_17 x0_19 x0_20 x0_27 x0_28 x0_29 x0_30 x0_31 x0_32 x0_35 x0_36 x0_37 x0_44_15 x0_49 x0_50 a1 a2 a3 a4_15 a5_15 a6_15 a7_15 a8_15 a9_15)) (As := [.int u15_3]) (rest := [.int (0 : Int32), .int u15_2]) ⟨hx, hb, hml, hown, ht0⟩ (c_X11_wiresOf l G h0 h1 h2 h3 y0_3 y0_4 y0_6 y0_18 y0_21 y0_22 y0_23 y0_24 y0_25 y0_26 y0_33 y0_34 h4 h5 h6 h7 h8 h9 y0_45 y0_46 y0_47 y0_48 _ x0_5 x0_7 x0_8 x0_9 x0_10 x0_11 x0_12 x0_13 x0_14 x0_15 x0_16 x0_17 x0_19 x0_20 x0_27 x0_28 x0_29 x0_30 x0_31 x0_32 x0_35 x0_36 x0_37 x0_44_15 x0_49 x0_50 a1 a2 F u15_3 _ hc_r_27_13) yk_X11_wiresOf wd_1790 ⟨rfl, rfl, by decide, by decide⟩ ⟨Nat.le_refl _, Nat.le_refl _⟩ hX hK hP hD hS hA [0, 1, 2] [3, 4, 5, 6, 7, 8, 9] [7, 8, 9, 0, 1, 2, 3, 4, 5, 6] (va_recv hK hP (ci := 11) (q0 := 0) rfl rfl) rfl rfl (by decide) rfl rfl rfl rfl rfl hl.1 rfl (Nat.le_of_ble_eq_true rfl) dX11_gates_27 (fun H locs hP hD hS => ?_)
        refine lv_iconst (v := (1 : Int32)) hx hb dX11_gates_30 (by decide) ?_
        refine lv_isub hx hb dX11_gates_31 ?_
        obtain ⟨r_32_14, hc_r_32_14, hf⟩ := of_bnd hf
        refine cl_Si (w2 := (wW_X11_gates G h0 h1 h2 h3 h4 h5 h6 h7 h8 h9 y0_3 y0_4 y0_6 y0_18 y0_21 y0_22 y0_23 y0_24 y0_25 y0_26 y0_33 y0_34 y0_45 y0_46 y0_47 y0_48 x0_5 x0_7 x0_8 x0_9 x0_10 x0_11 x0_12 x0_13 x0_14 x0_15 x0_16 x0_17 x0_19 x0_20 x0_27 x0_28 x0_29 x0_30 x0_31 x0_32 x0_35 x0_36 x0_37 x0_44_15 x0_49 x0_50 a1 a2 a3 a4_15 a5_15 a6_15 a7_15 a8_15 a9_15)) (As := [.int (0 : Int32), .int (r_27_13 - (1 : Int32))]) (rest := [.int u15_2]) ⟨hx, hb, hml, hown, ht0⟩ (c_X11_more l G _ F (0 : Int32) (r_27_13 - (1 : Int32)) _ hc_r_32_14) yk_X11_more wd_1372 ⟨rfl, rfl, by decide, by decide⟩ ⟨Nat.le_refl _, Nat.le_refl _⟩ hX hK hP hD hS hA [] [0, 1, 2, 3, 4, 5, 6, 7, 8, 9] [0, 1, 2, 3, 4, 5, 6, 7, 8, 9] rfl rfl (by decide) rfl rfl rfl rfl rfl hl.1 rfl (Nat.le_of_ble_eq_true rfl) dX11_gates_32 (fun H locs hP hD hS => ?_)
        refine lv_iadd hx hb dX11_gates_35 ?_
        refine lv_istore_n (lv' := [(2, .int (u15_2 + r_32_14)), (0, .ref h0), (1, .int c15_1), (3, .int u15_3)]) hx hb dX11_gates_36 rfl hl (by decide) rfl (fun ls hl => ?_)
        refine lv_iinc (v := u15_3 + (1 : Int32)) (lv' := [(3, .int (u15_3 + (1 : Int32))), (2, .int (u15_2 + r_32_14)), (0, .ref h0), (1, .int c15_1)]) hx hb dX11_gates_37 hl (k := 3) rfl (by rfl) (by decide) rfl (fun ls hl => ?_)
        refine lv_goto (tgt := 15) hx hb dX11_gates_40 (by decide) ?_
        exact ih15 _ _ _ _ _ _ _ _ _ hf _ _ hP hD hS _ (lv_sub hl [2, 3, 1, 0] rfl)
  refine lv_iload_n hx hb dX11_gates_0 rfl (lv_at hl 1 rfl) ?_
  refine lv_iconst (v := (0 : Int32)) hx hb dX11_gates_1 (by decide) ?_
  refine lv_iconst (v := (3 : Int32)) hx hb dX11_gates_2 (by decide) ?_
  obtain ⟨r_3_15, hc_r_3_15, hf⟩ := of_bnd hf
  refine cl_Si (w2 := (wW_X11_gates G h0 h1 h2 h3 h4 h5 h6 h7 h8 h9 y0_3 y0_4 y0_6 y0_18 y0_21 y0_22 y0_23 y0_24 y0_25 y0_26 y0_33 y0_34 y0_45 y0_46 y0_47 y0_48 x0_5 x0_7 x0_8 x0_9 x0_10 x0_11 x0_12 x0_13 x0_14 x0_15 x0_16 x0_17 x0_19 x0_20 x0_27 x0_28 x0_29 x0_30 x0_31 x0_32 x0_35 x0_36 x0_37 x0_44 x0_49 x0_50 a1 a2 a3 a4 a5 a6 a7 a8 a9)) (As := [.int b1, .int (0 : Int32), .int (3 : Int32)]) (rest := []) ⟨hx, hb, hml, hown, ht0⟩ (c_X11_isIn l G _ F b1 (0 : Int32) (3 : Int32) _ hc_r_3_15) yk_X11_isIn wd_1321 ⟨rfl, rfl, by decide, by decide⟩ ⟨Nat.le_refl _, Nat.le_refl _⟩ hX hK hP hD hS hA [] [0, 1, 2, 3, 4, 5, 6, 7, 8, 9] [0, 1, 2, 3, 4, 5, 6, 7, 8, 9] rfl rfl (by decide) rfl rfl rfl rfl rfl hl.1 rfl (Nat.le_of_ble_eq_true rfl) dX11_gates_3 (fun H locs hP hD hS => ?_)
  refine lv_if_ne (tgt := 11) hx hb dX11_gates_6 (by decide) (fun c17 => ?_) (fun c17 => ?_)
  · have hf := of_neg hf c17
    refine lv_iconst (v := (0 : Int32)) hx hb dX11_gates_11 (by decide) ?_
    refine lv_istore_n (lv' := [(2, .int (0 : Int32)), (0, .ref h0), (1, .int b1)]) hx hb dX11_gates_12 rfl hl (by decide) rfl (fun ls hl => ?_)
    refine lv_iconst (v := (0 : Int32)) hx hb dX11_gates_13 (by decide) ?_
    refine lv_istore_n (lv' := [(3, .int (0 : Int32)), (2, .int (0 : Int32)), (0, .ref h0), (1, .int b1)]) hx hb dX11_gates_14 rfl hl (by decide) rfl (fun ls hl => ?_)
    exact kL15 _ _ _ _ _ _ _ _ _ _ _ hf _ _ hP hD hS _ (lv_sub hl [2, 3, 1, 0] rfl)
  · have hf := of_pos hf c17
    refine lv_iconst (v := (-1 : Int32)) hx hb dX11_gates_9 (by decide) ?_
    cases hf
    exact ret_i hx hb hr hlk hK hP hD hS dX11_gates_10
theorem yk_X11_gates : ykV yX11_gates RX11 cX11_gates 7 (some .int) 1 := ⟨wd_1890, wd_1891, wd_142, wd_1892, rfl, by decide +kernel, by decide +kernel, by decide +kernel⟩
