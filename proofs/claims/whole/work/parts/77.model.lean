theorem dX11_shared_0 : decode cX11_shared 0 = .ok (.iload_n 2, 1) := by decide +kernel
theorem dX11_shared_1 : decode cX11_shared 1 = .ok (.iconst 0, 1) := by decide +kernel
theorem dX11_shared_2 : decode cX11_shared 2 = .ok (.iconst 3, 1) := by decide +kernel
theorem dX11_shared_3 : decode cX11_shared 3 = .ok (.invokestatic 163, 3) := by decide +kernel
theorem dX11_shared_6 : decode cX11_shared 6 = .ok (.ifCond .eq 7, 3) := by decide +kernel
theorem dX11_shared_9 : decode cX11_shared 9 = .ok (.iload_n 1, 1) := by decide +kernel
theorem dX11_shared_10 : decode cX11_shared 10 = .ok (.ifCond .ge 5, 3) := by decide +kernel
theorem dX11_shared_13 : decode cX11_shared 13 = .ok (.iconst (-1), 1) := by decide +kernel
theorem dX11_shared_14 : decode cX11_shared 14 = .ok (.ireturn, 1) := by decide +kernel
theorem dX11_shared_15 : decode cX11_shared 15 = .ok (.aload_n 0, 1) := by decide +kernel
theorem dX11_shared_16 : decode cX11_shared 16 = .ok (.invokevirtual 451, 3) := by decide +kernel
theorem dX11_shared_19 : decode cX11_shared 19 = .ok (.iload_n 1, 1) := by decide +kernel
theorem dX11_shared_20 : decode cX11_shared 20 = .ok (.aload_n 0, 1) := by decide +kernel
theorem dX11_shared_21 : decode cX11_shared 21 = .ok (.getfield 442, 3) := by decide +kernel
theorem dX11_shared_24 : decode cX11_shared 24 = .ok (.aload_n 0, 1) := by decide +kernel
theorem dX11_shared_25 : decode cX11_shared 25 = .ok (.invokevirtual 221, 3) := by decide +kernel
theorem dX11_shared_28 : decode cX11_shared 28 = .ok (.isub, 1) := by decide +kernel
theorem dX11_shared_29 : decode cX11_shared 29 = .ok (.if_icmp .lt 5, 3) := by decide +kernel
theorem dX11_shared_32 : decode cX11_shared 32 = .ok (.iconst (-1), 1) := by decide +kernel
theorem dX11_shared_33 : decode cX11_shared 33 = .ok (.ireturn, 1) := by decide +kernel
theorem dX11_shared_34 : decode cX11_shared 34 = .ok (.aload_n 0, 1) := by decide +kernel
theorem dX11_shared_35 : decode cX11_shared 35 = .ok (.invokevirtual 221, 3) := by decide +kernel
theorem dX11_shared_38 : decode cX11_shared 38 = .ok (.iload_n 1, 1) := by decide +kernel
theorem dX11_shared_39 : decode cX11_shared 39 = .ok (.iadd, 1) := by decide +kernel
theorem dX11_shared_40 : decode cX11_shared 40 = .ok (.istore_n 3, 1) := by decide +kernel
theorem dX11_shared_41 : decode cX11_shared 41 = .ok (.iload_n 2, 1) := by decide +kernel
theorem dX11_shared_42 : decode cX11_shared 42 = .ok (.ifCond .ne 12, 3) := by decide +kernel
theorem dX11_shared_45 : decode cX11_shared 45 = .ok (.aload_n 0, 1) := by decide +kernel
theorem dX11_shared_46 : decode cX11_shared 46 = .ok (.getfield 67, 3) := by decide +kernel
theorem dX11_shared_49 : decode cX11_shared 49 = .ok (.iload_n 3, 1) := by decide +kernel
theorem dX11_shared_50 : decode cX11_shared 50 = .ok (.iaload, 1) := by decide +kernel
theorem dX11_shared_51 : decode cX11_shared 51 = .ok (.goto 37, 3) := by decide +kernel
theorem dX11_shared_54 : decode cX11_shared 54 = .ok (.iload_n 2, 1) := by decide +kernel
theorem dX11_shared_55 : decode cX11_shared 55 = .ok (.iconst 1, 1) := by decide +kernel
theorem dX11_shared_56 : decode cX11_shared 56 = .ok (.if_icmp .ne 12, 3) := by decide +kernel
theorem dX11_shared_59 : decode cX11_shared 59 = .ok (.aload_n 0, 1) := by decide +kernel
theorem dX11_shared_60 : decode cX11_shared 60 = .ok (.getfield 70, 3) := by decide +kernel
theorem dX11_shared_63 : decode cX11_shared 63 = .ok (.iload_n 3, 1) := by decide +kernel
theorem dX11_shared_64 : decode cX11_shared 64 = .ok (.iaload, 1) := by decide +kernel
theorem dX11_shared_65 : decode cX11_shared 65 = .ok (.goto 23, 3) := by decide +kernel
theorem dX11_shared_68 : decode cX11_shared 68 = .ok (.iload_n 2, 1) := by decide +kernel
theorem dX11_shared_69 : decode cX11_shared 69 = .ok (.iconst 2, 1) := by decide +kernel
theorem dX11_shared_70 : decode cX11_shared 70 = .ok (.if_icmp .ne 12, 3) := by decide +kernel
theorem dX11_shared_73 : decode cX11_shared 73 = .ok (.aload_n 0, 1) := by decide +kernel
theorem dX11_shared_74 : decode cX11_shared 74 = .ok (.getfield 73, 3) := by decide +kernel
theorem dX11_shared_77 : decode cX11_shared 77 = .ok (.iload_n 3, 1) := by decide +kernel
theorem dX11_shared_78 : decode cX11_shared 78 = .ok (.iaload, 1) := by decide +kernel
theorem dX11_shared_79 : decode cX11_shared 79 = .ok (.goto 9, 3) := by decide +kernel
theorem dX11_shared_82 : decode cX11_shared 82 = .ok (.aload_n 0, 1) := by decide +kernel
theorem dX11_shared_83 : decode cX11_shared 83 = .ok (.getfield 64, 3) := by decide +kernel
theorem dX11_shared_86 : decode cX11_shared 86 = .ok (.iload_n 3, 1) := by decide +kernel
theorem dX11_shared_87 : decode cX11_shared 87 = .ok (.iaload, 1) := by decide +kernel
theorem dX11_shared_88 : decode cX11_shared 88 = .ok (.ireturn, 1) := by decide +kernel
def wW_X11_shared (G : GG) (h0 h1 h2 h3 h4 h5 h6 h7 y0_2 y0_3 y0_4 y0_6 y0_18 y0_21 y0_22 y0_23 y0_24 y0_25 y0_26 y0_33 y0_34 y0_43 y0_45 y0_46 y0_47 y0_48 : Nat) (x0_5 : Int32) (x0_7 : Int32) (x0_8 : Int32) (x0_9 : Int32) (x0_10 : Int32) (x0_11 : Int32) (x0_12 : Int32) (x0_13 : Int32) (x0_14 : Int32) (x0_15 : Int32) (x0_16 : Int32) (x0_17 : Int32) (x0_19 : Int32) (x0_20 : Int32) (x0_27 : Int32) (x0_28 : Int32) (x0_29 : Int32) (x0_30 : Int32) (x0_31 : Int32) (x0_32 : Int32) (x0_35 : Int32) (x0_36 : Int32) (x0_37 : Int32) (x0_44 : Int32) (x0_49 : Int32) (x0_50 : Int32) (a1 : Nat → Int32) (a2 : Nat → Int32) (a3 : Nat → Int32) (a4 : Nat → Int32) (a5 : Nat → Int32) (a6 : Nat → Int32) (a7 : Nat → Int32) : va_W := [(h0, .inr (11, [.ref h1, .ref h2, .ref y0_2, .ref y0_3, .ref y0_4, .int x0_5, .ref y0_6, .int x0_7, .int x0_8, .int x0_9, .int x0_10, .int x0_11, .int x0_12, .int x0_13, .int x0_14, .int x0_15, .int x0_16, .int x0_17, .ref y0_18, .int x0_19, .int x0_20, .ref y0_21, .ref y0_22, .ref y0_23, .ref y0_24, .ref y0_25, .ref y0_26, .int x0_27, .int x0_28, .int x0_29, .int x0_30, .int x0_31, .int x0_32, .ref y0_33, .ref y0_34, .int x0_35, .int x0_36, .int x0_37, .ref h3, .ref h4, .ref h5, .ref h6, .ref h7, .ref y0_43, .int x0_44, .ref y0_45, .ref y0_46, .ref y0_47, .ref y0_48, .int x0_49, .int x0_50])), (h1, .inl (G.2.1, 121, .inl a1)), (h2, .inl (G.2.1, 2, .inl a2)), (h3, .inl (G.2.1, 240, .inl a3)), (h4, .inl (G.2.1, 240, .inl a4)), (h5, .inl (G.2.1, 240, .inl a5)), (h6, .inl (G.2.1, 240, .inl a6)), (h7, .inl (G.2.1, 240, .inl a7))]
set_option maxHeartbeats 4000000 in
set_option maxRecDepth 100000 in
theorem c_X11_shared (l : Launch) (G : GG) (h0 h1 h2 h3 h4 h5 h6 h7 y0_2 y0_3 y0_4 y0_6 y0_18 y0_21 y0_22 y0_23 y0_24 y0_25 y0_26 y0_33 y0_34 y0_43 y0_45 y0_46 y0_47 y0_48 : Nat) (sz : Nat) (x0_5 : Int32) (x0_7 : Int32) (x0_8 : Int32) (x0_9 : Int32) (x0_10 : Int32) (x0_11 : Int32) (x0_12 : Int32) (x0_13 : Int32) (x0_14 : Int32) (x0_15 : Int32) (x0_16 : Int32) (x0_17 : Int32) (x0_19 : Int32) (x0_20 : Int32) (x0_27 : Int32) (x0_28 : Int32) (x0_29 : Int32) (x0_30 : Int32) (x0_31 : Int32) (x0_32 : Int32) (x0_35 : Int32) (x0_36 : Int32) (x0_37 : Int32) (x0_44 : Int32) (x0_49 : Int32) (x0_50 : Int32) (a1 : Nat → Int32) (a2 : Nat → Int32) (a3 : Nat → Int32) (a4 : Nat → Int32) (a5 : Nat → Int32) (a6 : Nat → Int32) (a7 : Nat → Int32) (F : Nat) (b1 : Int32) (b2 : Int32)  (r0 : Int32) (e_x0_44 : Int32) (e_a3 : Nat → Int32) (e_a4 : Nat → Int32) (e_a5 : Nat → Int32) (e_a6 : Nat → Int32) (e_a7 : Nat → Int32) (hf : p_X11_shared F x0_5 x0_44 a1 a2 a3 a4 a5 a6 a7 b1 b2 = some (r0, e_x0_44, e_a3, e_a4, e_a5, e_a6, e_a7)) : Met l yX11_shared (.code yX11_shared cX11_shared 4 (some .int) :: gtbl) ({ frames := 3, cells := 0, slots := 0, locals := 69 } : Room) (PcS G [.ref h0, .int b1, .int b2] (wW_X11_shared G h0 h1 h2 h3 h4 h5 h6 h7 y0_2 y0_3 y0_4 y0_6 y0_18 y0_21 y0_22 y0_23 y0_24 y0_25 y0_26 y0_33 y0_34 y0_43 y0_45 y0_46 y0_47 y0_48 x0_5 x0_7 x0_8 x0_9 x0_10 x0_11 x0_12 x0_13 x0_14 x0_15 x0_16 x0_17 x0_19 x0_20 x0_27 x0_28 x0_29 x0_30 x0_31 x0_32 x0_35 x0_36 x0_37 x0_44 x0_49 x0_50 a1 a2 a3 a4 a5 a6 a7) sz) (QiS G r0 (va_A (wW_X11_shared G h0 h1 h2 h3 h4 h5 h6 h7 y0_2 y0_3 y0_4 y0_6 y0_18 y0_21 y0_22 y0_23 y0_24 y0_25 y0_26 y0_33 y0_34 y0_43 y0_45 y0_46 y0_47 y0_48 x0_5 x0_7 x0_8 x0_9 x0_10 x0_11 x0_12 x0_13 x0_14 x0_15 x0_16 x0_17 x0_19 x0_20 x0_27 x0_28 x0_29 x0_30 x0_31 x0_32 x0_35 x0_36 x0_37 x0_44 x0_49 x0_50 a1 a2 a3 a4 a5 a6 a7) sz) (wW_X11_shared G h0 h1 h2 h3 h4 h5 h6 h7 y0_2 y0_3 y0_4 y0_6 y0_18 y0_21 y0_22 y0_23 y0_24 y0_25 y0_26 y0_33 y0_34 y0_43 y0_45 y0_46 y0_47 y0_48 x0_5 x0_7 x0_8 x0_9 x0_10 x0_11 x0_12 x0_13 x0_14 x0_15 x0_16 x0_17 x0_19 x0_20 x0_27 x0_28 x0_29 x0_30 x0_31 x0_32 x0_35 x0_36 x0_37 e_x0_44 x0_49 x0_50 a1 a2 e_a3 e_a4 e_a5 e_a6 e_a7)) 0 0 (va_A (wW_X11_shared G h0 h1 h2 h3 h4 h5 h6 h7 y0_2 y0_3 y0_4 y0_6 y0_18 y0_21 y0_22 y0_23 y0_24 y0_25 y0_26 y0_33 y0_34 y0_43 y0_45 y0_46 y0_47 y0_48 x0_5 x0_7 x0_8 x0_9 x0_10 x0_11 x0_12 x0_13 x0_14 x0_15 x0_16 x0_17 x0_19 x0_20 x0_27 x0_28 x0_29 x0_30 x0_31 x0_32 x0_35 x0_36 x0_37 x0_44 x0_49 x0_50 a1 a2 a3 a4 a5 a6 a7) sz) := by
  refine met_start (by decide) (Nat.le_of_ble_eq_true rfl) ?_
  intro p e s m below meth c hC hr hlk hnm hK hP hD hA hS hX ls hl
  obtain ⟨hx, hb, hml, hown, ht0⟩ := hC
  have hown : s.vm.findClass RX11 = some m.cls := hown
  generalize va_A (wW_X11_shared G h0 h1 h2 h3 h4 h5 h6 h7 y0_2 y0_3 y0_4 y0_6 y0_18 y0_21 y0_22 y0_23 y0_24 y0_25 y0_26 y0_33 y0_34 y0_43 y0_45 y0_46 y0_47 y0_48 x0_5 x0_7 x0_8 x0_9 x0_10 x0_11 x0_12 x0_13 x0_14 x0_15 x0_16 x0_17 x0_19 x0_20 x0_27 x0_28 x0_29 x0_30 x0_31 x0_32 x0_35 x0_36 x0_37 x0_44 x0_49 x0_50 a1 a2 a3 a4 a5 a6 a7) sz = A at hD hA hS hX ⊢
  have hl : lv_has ls 4 [(0, .ref h0), (1, .int b1), (2, .int b2)] := hl
  have hf : p_X11_shared F x0_5 x0_44 a1 a2 a3 a4 a5 a6 a7 b1 b2 = some (r0, e_x0_44, e_a3, e_a4, e_a5, e_a6, e_a7) := hf
  refine lv_iload_n hx hb dX11_shared_0 rfl (lv_at hl 2 rfl) ?_
  refine lv_iconst (v := (0 : Int32)) hx hb dX11_shared_1 (by decide) ?_
  refine lv_iconst (v := (3 : Int32)) hx hb dX11_shared_2 (by decide) ?_
  obtain ⟨r_3_0, hc_r_3_0, hf⟩ := of_bnd hf
  refine cl_Si (w2 := (wW_X11_shared G h0 h1 h2 h3 h4 h5 h6 h7 y0_2 y0_3 y0_4 y0_6 y0_18 y0_21 y0_22 y0_23 y0_24 y0_25 y0_26 y0_33 y0_34 y0_43 y0_45 y0_46 y0_47 y0_48 x0_5 x0_7 x0_8 x0_9 x0_10 x0_11 x0_12 x0_13 x0_14 x0_15 x0_16 x0_17 x0_19 x0_20 x0_27 x0_28 x0_29 x0_30 x0_31 x0_32 x0_35 x0_36 x0_37 x0_44 x0_49 x0_50 a1 a2 a3 a4 a5 a6 a7)) (As := [.int b2, .int (0 : Int32), .int (3 : Int32)]) (rest := []) ⟨hx, hb, hml, hown, ht0⟩ (c_X11_isIn l G _ F b2 (0 : Int32) (3 : Int32) _ hc_r_3_0) yk_X11_isIn wd_1321 ⟨rfl, rfl, by decide, by decide⟩ ⟨Nat.le_refl _, Nat.le_refl _⟩ hX hK hP hD hS hA [] [0, 1, 2, 3, 4, 5, 6, 7] [0, 1, 2, 3, 4, 5, 6, 7] rfl rfl (by decide) rfl rfl rfl rfl rfl hl.1 rfl (Nat.le_of_ble_eq_true rfl) dX11_shared_3 (fun H locs hP hD hS => ?_)
  refine lv_if_eq (tgt := 13) hx hb dX11_shared_6 (by decide) (fun c2 => ?_) (fun c2 => ?_)
  · have hf := of_pos hf c2
    refine lv_iconst (v := (-1 : Int32)) hx hb dX11_shared_13 (by decide) ?_
    cases hf
    exact ret_i hx hb hr hlk hK hP hD hS dX11_shared_14
  · have hf := of_neg hf c2
    refine lv_iload_n hx hb dX11_shared_9 rfl (lv_at hl 1 rfl) ?_
    refine lv_if_ge (tgt := 15) hx hb dX11_shared_10 (by decide) (fun c3 => ?_) (fun c3 => ?_)
    · have hf := of_pos hf c3
      refine lv_aload_n hx hb dX11_shared_15 rfl (lv_at hl 0 rfl) ?_
      obtain ⟨⟨r_16_3_x0_44, r_16_3_a3, r_16_3_a4, r_16_3_a5, r_16_3_a6, r_16_3_a7⟩, hc_r_16_3, hf⟩ := of_bnd hf
      refine cl_Vv (w2 := (wW_X11_shared G h0 h1 h2 h3 h4 h5 h6 h7 y0_2 y0_3 y0_4 y0_6 y0_18 y0_21 y0_22 y0_23 y0_24 y0_25 y0_26 y0_33 y0_34 y0_43 y0_45 y0_46 y0_47 y0_48 x0_5 x0_7 x0_8 x0_9 x0_10 x0_11 x0_12 x0_13 x0_14 x0_15 x0_16 x0_17 x0_19 x0_20 x0_27 x0_28 x0_29 x0_30 x0_31 x0_32 x0_35 x0_36 x0_37 r_16_3_x0_44 x0_49 x0_50 a1 a2 r_16_3_a3 r_16_3_a4 r_16_3_a5 r_16_3_a6 r_16_3_a7)) (As := []) (rest := []) ⟨hx, hb, hml, hown, ht0⟩ (c_X11_laySignals l G h0 h1 h2 h3 h4 h5 h6 h7 y0_2 y0_3 y0_4 y0_6 y0_18 y0_21 y0_22 y0_23 y0_24 y0_25 y0_26 y0_33 y0_34 y0_43 y0_45 y0_46 y0_47 y0_48 _ x0_5 x0_7 x0_8 x0_9 x0_10 x0_11 x0_12 x0_13 x0_14 x0_15 x0_16 x0_17 x0_19 x0_20 x0_27 x0_28 x0_29 x0_30 x0_31 x0_32 x0_35 x0_36 x0_37 x0_44 x0_49 x0_50 a1 a2 a3 a4 a5 a6 a7 F _ _ _ _ _ _ hc_r_16_3) yk_X11_laySignals wd_1893 ⟨rfl, rfl, by decide, by decide⟩ ⟨Nat.le_refl _, Nat.le_refl _⟩ hX hK hP hD hS hA [0, 1, 2, 3, 4, 5, 6, 7] [] [0, 1, 2, 3, 4, 5, 6, 7] (va_recv hK hP (ci := 11) (q0 := 0) rfl rfl) rfl rfl (by decide) rfl rfl rfl rfl rfl hl.1 rfl (Nat.le_of_ble_eq_true rfl) dX11_shared_16 (fun H locs hP hD hS => ?_)
      refine lv_iload_n hx hb dX11_shared_19 rfl (lv_at hl 1 rfl) ?_
      refine lv_aload_n hx hb dX11_shared_20 rfl (lv_at hl 0 rfl) ?_
      refine va_get (ci := 11) (v := .int r_16_3_x0_44) (C := RX11) (T := TX11) (N := 51) hx hb ht0 iX11 hown hK hP 0 rfl rfl 44 (by decide) (ht0 _ wd_1450) (fun _ h9 => h9) rfl dX11_shared_21 ?_
      refine lv_aload_n hx hb dX11_shared_24 rfl (lv_at hl 0 rfl) ?_
      obtain ⟨r_25_4, hc_r_25_4, hf⟩ := of_bnd hf
      refine cl_Vi (w2 := (wW_X11_shared G h0 h1 h2 h3 h4 h5 h6 h7 y0_2 y0_3 y0_4 y0_6 y0_18 y0_21 y0_22 y0_23 y0_24 y0_25 y0_26 y0_33 y0_34 y0_43 y0_45 y0_46 y0_47 y0_48 x0_5 x0_7 x0_8 x0_9 x0_10 x0_11 x0_12 x0_13 x0_14 x0_15 x0_16 x0_17 x0_19 x0_20 x0_27 x0_28 x0_29 x0_30 x0_31 x0_32 x0_35 x0_36 x0_37 r_16_3_x0_44 x0_49 x0_50 a1 a2 r_16_3_a3 r_16_3_a4 r_16_3_a5 r_16_3_a6 r_16_3_a7)) (As := []) (rest := [.int r_16_3_x0_44, .int b1]) ⟨hx, hb, hml, hown, ht0⟩ (c_X11_dataNow l G h0 h2 h1 y0_2 y0_3 y0_4 y0_6 y0_18 y0_21 y0_22 y0_23 y0_24 y0_25 y0_26 y0_33 y0_34 h3 h4 h5 h6 h7 y0_43 y0_45 y0_46 y0_47 y0_48 _ x0_5 x0_7 x0_8 x0_9 x0_10 x0_11 x0_12 x0_13 x0_14 x0_15 x0_16 x0_17 x0_19 x0_20 x0_27 x0_28 x0_29 x0_30 x0_31 x0_32 x0_35 x0_36 x0_37 r_16_3_x0_44 x0_49 x0_50 a2 F _ hc_r_25_4) yk_X11_dataNow wd_1398 ⟨rfl, rfl, by decide, by decide⟩ ⟨Nat.le_refl _, Nat.le_refl _⟩ hX hK hP hD hS hA [0, 2] [1, 3, 4, 5, 6, 7] [6, 0, 7, 1, 2, 3, 4, 5] (va_recv hK hP (ci := 11) (q0 := 0) rfl rfl) rfl rfl (by decide) rfl rfl rfl rfl rfl hl.1 rfl (Nat.le_of_ble_eq_true rfl) dX11_shared_25 (fun H locs hP hD hS => ?_)
      refine lv_isub hx hb dX11_shared_28 ?_
      refine lv_icmp_lt (tgt := 34) hx hb dX11_shared_29 (by decide) (fun c6 => ?_) (fun c6 => ?_)
      · have hf := of_pos hf c6
        refine lv_aload_n hx hb dX11_shared_34 rfl (lv_at hl 0 rfl) ?_
        obtain ⟨r_35_6, hc_r_35_6, hf⟩ := of_bnd hf
        refine cl_Vi (w2 := (wW_X11_shared G h0 h1 h2 h3 h4 h5 h6 h7 y0_2 y0_3 y0_4 y0_6 y0_18 y0_21 y0_22 y0_23 y0_24 y0_25 y0_26 y0_33 y0_34 y0_43 y0_45 y0_46 y0_47 y0_48 x0_5 x0_7 x0_8 x0_9 x0_10 x0_11 x0_12 x0_13 x0_14 x0_15 x0_16 x0_17 x0_19 x0_20 x0_27 x0_28 x0_29 x0_30 x0_31 x0_32 x0_35 x0_36 x0_37 r_16_3_x0_44 x0_49 x0_50 a1 a2 r_16_3_a3 r_16_3_a4 r_16_3_a5 r_16_3_a6 r_16_3_a7)) (As := []) (rest := []) ⟨hx, hb, hml, hown, ht0⟩ (c_X11_dataNow l G h0 h2 h1 y0_2 y0_3 y0_4 y0_6 y0_18 y0_21 y0_22 y0_23 y0_24 y0_25 y0_26 y0_33 y0_34 h3 h4 h5 h6 h7 y0_43 y0_45 y0_46 y0_47 y0_48 _ x0_5 x0_7 x0_8 x0_9 x0_10 x0_11 x0_12 x0_13 x0_14 x0_15 x0_16 x0_17 x0_19 x0_20 x0_27 x0_28 x0_29 x0_30 x0_31 x0_32 x0_35 x0_36 x0_37 r_16_3_x0_44 x0_49 x0_50 a2 F _ hc_r_35_6) yk_X11_dataNow wd_1398 ⟨rfl, rfl, by decide, by decide⟩ ⟨Nat.le_refl _, Nat.le_refl _⟩ hX hK hP hD hS hA [0, 2] [1, 3, 4, 5, 6, 7] [6, 0, 7, 1, 2, 3, 4, 5] (va_recv hK hP (ci := 11) (q0 := 0) rfl rfl) rfl rfl (by decide) rfl rfl rfl rfl rfl hl.1 rfl (Nat.le_of_ble_eq_true rfl) dX11_shared_35 (fun H locs hP hD hS => ?_)
        refine lv_iload_n hx hb dX11_shared_38 rfl (lv_at hl 1 rfl) ?_
        refine lv_iadd hx hb dX11_shared_39 ?_
        refine lv_istore_n (lv' := [(3, .int (r_35_6 + b1)), (0, .ref h0), (1, .int b1), (2, .int b2)]) hx hb dX11_shared_40 rfl hl (by decide) rfl (fun ls hl => ?_)
        refine lv_iload_n hx hb dX11_shared_41 rfl (lv_at hl 3 rfl) ?_
        refine lv_if_ne (tgt := 54) hx hb dX11_shared_42 (by decide) (fun c8 => ?_) (fun c8 => ?_)
        · have hf := of_neg hf c8
          refine lv_iload_n hx hb dX11_shared_54 rfl (lv_at hl 3 rfl) ?_
          refine lv_iconst (v := (1 : Int32)) hx hb dX11_shared_55 (by decide) ?_
          refine lv_icmp_ne (tgt := 68) hx hb dX11_shared_56 (by decide) (fun c9 => ?_) (fun c9 => ?_)
          · have hf := of_neg hf c9
            refine lv_iload_n hx hb dX11_shared_68 rfl (lv_at hl 3 rfl) ?_
            refine lv_iconst (v := (2 : Int32)) hx hb dX11_shared_69 (by decide) ?_
            refine lv_icmp_ne (tgt := 82) hx hb dX11_shared_70 (by decide) (fun c10 => ?_) (fun c10 => ?_)
            · have hf := of_neg hf c10
              refine lv_aload_n hx hb dX11_shared_82 rfl (lv_at hl 1 rfl) ?_
              refine va_get (ci := 11) (v := .ref h4) (C := RX11) (T := TX11) (N := 51) hx hb ht0 iX11 hown hK hP 0 rfl rfl 39 (by decide) (ht0 _ wd_1445) (fun _ h9 => h9) rfl dX11_shared_83 ?_
              refine lv_iload_n hx hb dX11_shared_86 rfl (lv_at hl 0 rfl) ?_
              obtain ⟨g11, hf⟩ := of_grd hf
              refine va_iald hx hb hK hP 4 0 rfl rfl g11 dX11_shared_87 ?_
              cases hf
              exact ret_i hx hb hr hlk hK hP hD hS dX11_shared_88
            · have hf := of_pos hf c10
              refine lv_aload_n hx hb dX11_shared_73 rfl (lv_at hl 1 rfl) ?_
              refine va_get (ci := 11) (v := .ref h7) (C := RX11) (T := TX11) (N := 51) hx hb ht0 iX11 hown hK hP 0 rfl rfl 42 (by decide) (ht0 _ wd_1448) (fun _ h9 => h9) rfl dX11_shared_74 ?_
              refine lv_iload_n hx hb dX11_shared_77 rfl (lv_at hl 0 rfl) ?_
              obtain ⟨g12, hf⟩ := of_grd hf
              refine va_iald hx hb hK hP 7 0 rfl rfl g12 dX11_shared_78 ?_
              refine lv_goto (tgt := 88) hx hb dX11_shared_79 (by decide) ?_
              cases hf
              exact ret_i hx hb hr hlk hK hP hD hS dX11_shared_88
          · have hf := of_pos hf c9
            refine lv_aload_n hx hb dX11_shared_59 rfl (lv_at hl 1 rfl) ?_
            refine va_get (ci := 11) (v := .ref h6) (C := RX11) (T := TX11) (N := 51) hx hb ht0 iX11 hown hK hP 0 rfl rfl 41 (by decide) (ht0 _ wd_1447) (fun _ h9 => h9) rfl dX11_shared_60 ?_
            refine lv_iload_n hx hb dX11_shared_63 rfl (lv_at hl 0 rfl) ?_
            obtain ⟨g13, hf⟩ := of_grd hf
            refine va_iald hx hb hK hP 6 0 rfl rfl g13 dX11_shared_64 ?_
            refine lv_goto (tgt := 88) hx hb dX11_shared_65 (by decide) ?_
            cases hf
            exact ret_i hx hb hr hlk hK hP hD hS dX11_shared_88
        · have hf := of_pos hf c8
          refine lv_aload_n hx hb dX11_shared_45 rfl (lv_at hl 1 rfl) ?_
          refine va_get (ci := 11) (v := .ref h5) (C := RX11) (T := TX11) (N := 51) hx hb ht0 iX11 hown hK hP 0 rfl rfl 40 (by decide) (ht0 _ wd_1446) (fun _ h9 => h9) rfl dX11_shared_46 ?_
          refine lv_iload_n hx hb dX11_shared_49 rfl (lv_at hl 0 rfl) ?_
          obtain ⟨g14, hf⟩ := of_grd hf
          refine va_iald hx hb hK hP 5 0 rfl rfl g14 dX11_shared_50 ?_
          refine lv_goto (tgt := 88) hx hb dX11_shared_51 (by decide) ?_
          cases hf
          exact ret_i hx hb hr hlk hK hP hD hS dX11_shared_88
      · have hf := of_neg hf c6
        refine lv_iconst (v := (-1 : Int32)) hx hb dX11_shared_32 (by decide) ?_
        cases hf
        exact ret_i hx hb hr hlk hK hP hD hS dX11_shared_33
    · have hf := of_neg hf c3
      refine lv_iconst (v := (-1 : Int32)) hx hb dX11_shared_13 (by decide) ?_
      cases hf
      exact ret_i hx hb hr hlk hK hP hD hS dX11_shared_14
theorem yk_X11_shared : ykV yX11_shared RX11 cX11_shared 4 (some .int) 2 := ⟨wd_1910, wd_1911, wd_142, wd_1912, rfl, by decide +kernel, by decide +kernel, by decide +kernel⟩
theorem dX11_manyOf_0 : decode cX11_manyOf 0 = .ok (.iconst 0, 1) := by decide +kernel
theorem dX11_manyOf_1 : decode cX11_manyOf 1 = .ok (.istore_n 2, 1) := by decide +kernel
theorem dX11_manyOf_2 : decode cX11_manyOf 2 = .ok (.iconst 0, 1) := by decide +kernel
theorem dX11_manyOf_3 : decode cX11_manyOf 3 = .ok (.istore_n 3, 1) := by decide +kernel
theorem dX11_manyOf_4 : decode cX11_manyOf 4 = .ok (.iload_n 3, 1) := by decide +kernel
theorem dX11_manyOf_5 : decode cX11_manyOf 5 = .ok (.iconst 1, 1) := by decide +kernel
theorem dX11_manyOf_6 : decode cX11_manyOf 6 = .ok (.iload_n 1, 1) := by decide +kernel
theorem dX11_manyOf_7 : decode cX11_manyOf 7 = .ok (.ishl, 1) := by decide +kernel
theorem dX11_manyOf_8 : decode cX11_manyOf 8 = .ok (.if_icmp .ge 25, 3) := by decide +kernel
theorem dX11_manyOf_11 : decode cX11_manyOf 11 = .ok (.iload_n 2, 1) := by decide +kernel
theorem dX11_manyOf_12 : decode cX11_manyOf 12 = .ok (.iload_n 3, 1) := by decide +kernel
theorem dX11_manyOf_13 : decode cX11_manyOf 13 = .ok (.invokestatic 192, 3) := by decide +kernel
theorem dX11_manyOf_16 : decode cX11_manyOf 16 = .ok (.iload_n 0, 1) := by decide +kernel
theorem dX11_manyOf_17 : decode cX11_manyOf 17 = .ok (.if_icmp .ne 7, 3) := by decide +kernel
theorem dX11_manyOf_20 : decode cX11_manyOf 20 = .ok (.iconst 1, 1) := by decide +kernel
theorem dX11_manyOf_21 : decode cX11_manyOf 21 = .ok (.goto 4, 3) := by decide +kernel
theorem dX11_manyOf_24 : decode cX11_manyOf 24 = .ok (.iconst 0, 1) := by decide +kernel
theorem dX11_manyOf_25 : decode cX11_manyOf 25 = .ok (.iadd, 1) := by decide +kernel
theorem dX11_manyOf_26 : decode cX11_manyOf 26 = .ok (.istore_n 2, 1) := by decide +kernel
theorem dX11_manyOf_27 : decode cX11_manyOf 27 = .ok (.iinc 3 1, 3) := by decide +kernel
theorem dX11_manyOf_30 : decode cX11_manyOf 30 = .ok (.goto (-26), 3) := by decide +kernel
theorem dX11_manyOf_33 : decode cX11_manyOf 33 = .ok (.iload_n 2, 1) := by decide +kernel
theorem dX11_manyOf_34 : decode cX11_manyOf 34 = .ok (.ireturn, 1) := by decide +kernel
set_option maxHeartbeats 4000000 in
set_option maxRecDepth 100000 in
theorem c_X11_manyOf (l : Launch) (G : GG) (sz : Nat)  (F : Nat) (b0 : Int32) (b1 : Int32)  (r0 : Int32) (hf : p_X11_manyOf F b0 b1 = some r0) : Met l yX11_manyOf (.code yX11_manyOf cX11_manyOf 4 (some .int) :: gtbl) ({ frames := 1, cells := 0, slots := 0, locals := 22 } : Room) (PcS G [.int b0, .int b1] [] sz) (QiS G r0 (va_A [] sz) []) 0 0 (va_A [] sz) := by
  refine met_start (by decide) (Nat.le_of_ble_eq_true rfl) ?_
  intro p e s m below meth c hC hr hlk hnm hK hP hD hA hS hX ls hl
  obtain ⟨hx, hb, hml, hown, ht0⟩ := hC
  have hown : s.vm.findClass RX11 = some m.cls := hown
  generalize va_A [] sz = A at hD hA hS hX ⊢
  have hl : lv_has ls 4 [(0, .int b0), (1, .int b1)] := hl
  have hf : p_X11_manyOf F b0 b1 = some r0 := hf
  have kL4 : ∀ (c4_0 : Int32) (c4_1 : Int32) (n4 : Nat) (u4_2 : Int32) (u4_3 : Int32), p_X11_manyOf_L4 F c4_0 c4_1 n4 u4_2 u4_3 = some r0 → ∀ (H : Heap) (locs : List Loc), va_P G.1 vwCl [] H → va_D A [] → va_S A s.heap H locs → ∀ ls : Array Slot, lv_has ls 4 [(0, .int c4_0), (1, .int c4_1), (2, .int u4_2), (3, .int u4_3)] → W p l e ({ frames := 1, cells := 0, slots := 0, locals := 22 } : Room) s m (List.toArray [.int b0, .int b1]) below meth c H locs 0 0 (MQ below (QiS G r0 A []) (List.toArray [.int b0, .int b1]) s 0 0 A) (F0 m 4 ls []) := by
    intro c4_0 c4_1 n4
    induction n4 with
    | zero =>
      intro u4_2 u4_3 hf
      cases hf
    | succ n4 ih4 =>
      have kJ25 : ∀ (u25_3 : Int32) (s25_0 : Int32) (s25_1 : Int32), p_X11_manyOf_J25 F c4_0 c4_1 (p_X11_manyOf_L4 F c4_0 c4_1 n4) u25_3 s25_0 s25_1 = some r0 → ∀ (H : Heap) (locs : List Loc), va_P G.1 vwCl [] H → va_D A [] → va_S A s.heap H locs → ∀ ls : Array Slot, lv_has ls 4 [(0, .int c4_0), (1, .int c4_1), (3, .int u25_3)] → W p l e ({ frames := 1, cells := 0, slots := 0, locals := 22 } : Room) s m (List.toArray [.int b0, .int b1]) below meth c H locs 0 0 (MQ below (QiS G r0 A []) (List.toArray [.int b0, .int b1]) s 0 0 A) (F0 m 25 ls [.int s25_1, .int s25_0]) := by
        intro u25_3 s25_0 s25_1 hf H locs hP hD hS ls hl
        refine lv_iadd hx hb dX11_manyOf_25 ?_
        refine lv_istore_n (lv' := [(2, .int (s25_0 + s25_1)), (0, .int c4_0), (1, .int c4_1), (3, .int u25_3)]) hx hb dX11_manyOf_26 rfl hl (by decide) rfl (fun ls hl => ?_)
        refine lv_iinc (v := u25_3 + (1 : Int32)) (lv' := [(3, .int (u25_3 + (1 : Int32))), (2, .int (s25_0 + s25_1)), (0, .int c4_0), (1, .int c4_1)]) hx hb dX11_manyOf_27 hl (k := 3) rfl (by rfl) (by decide) rfl (fun ls hl => ?_)
        refine lv_goto (tgt := 4) hx hb dX11_manyOf_30 (by decide) ?_
        exact ih4 _ _ hf _ _ hP hD hS _ (lv_sub hl [2, 3, 1, 0] rfl)
      intro u4_2 u4_3 hf H locs hP hD hS ls hl
      have hf : p_X11_manyOf_L4b F c4_0 c4_1 (p_X11_manyOf_L4 F c4_0 c4_1 n4) u4_2 u4_3 = some r0 := hf
      refine lv_iload_n hx hb dX11_manyOf_4 rfl (lv_at hl 3 rfl) ?_
      refine lv_iconst (v := (1 : Int32)) hx hb dX11_manyOf_5 (by decide) ?_
      refine lv_iload_n hx hb dX11_manyOf_6 rfl (lv_at hl 1 rfl) ?_
      refine lv_ishl hx hb dX11_manyOf_7 ?_
      refine lv_icmp_ge (tgt := 33) hx hb dX11_manyOf_8 (by decide) (fun c1 => ?_) (fun c1 => ?_)
      · have hf := of_pos hf c1
        refine lv_iload_n hx hb dX11_manyOf_33 rfl (lv_at hl 2 rfl) ?_
        cases hf
        exact ret_i hx hb hr hlk hK hP hD hS dX11_manyOf_34
      · have hf := of_neg hf c1
        refine lv_iload_n hx hb dX11_manyOf_11 rfl (lv_at hl 2 rfl) ?_
        refine lv_iload_n hx hb dX11_manyOf_12 rfl (lv_at hl 3 rfl) ?_
        obtain ⟨r_13_1, hc_r_13_1, hf⟩ := of_bnd hf
        refine cl_Si (w2 := []) (As := [.int u4_3]) (rest := [.int u4_2]) ⟨hx, hb, hml, hown, ht0⟩ (c_X11_ones l G _ F u4_3 _ hc_r_13_1) yk_X11_ones wd_1344 ⟨rfl, rfl, by decide, by decide⟩ ⟨Nat.le_refl _, Nat.le_refl _⟩ hX hK hP hD hS hA [] [] [] rfl rfl (by decide) rfl rfl rfl rfl rfl hl.1 rfl (Nat.le_of_ble_eq_true rfl) dX11_manyOf_13 (fun H locs hP hD hS => ?_)
        refine lv_iload_n hx hb dX11_manyOf_16 rfl (lv_at hl 0 rfl) ?_
        refine lv_icmp_ne (tgt := 24) hx hb dX11_manyOf_17 (by decide) (fun c3 => ?_) (fun c3 => ?_)
        · have hf := of_neg hf c3
          refine lv_iconst (v := (0 : Int32)) hx hb dX11_manyOf_24 (by decide) ?_
          exact kJ25 _ _ _ hf _ _ hP hD hS _ (lv_sub hl [0, 1, 3] rfl)
        · have hf := of_pos hf c3
          refine lv_iconst (v := (1 : Int32)) hx hb dX11_manyOf_20 (by decide) ?_
          refine lv_goto (tgt := 25) hx hb dX11_manyOf_21 (by decide) ?_
          exact kJ25 _ _ _ hf _ _ hP hD hS _ (lv_sub hl [0, 1, 3] rfl)
  refine lv_iconst (v := (0 : Int32)) hx hb dX11_manyOf_0 (by decide) ?_
  refine lv_istore_n (lv' := [(2, .int (0 : Int32)), (0, .int b0), (1, .int b1)]) hx hb dX11_manyOf_1 rfl hl (by decide) rfl (fun ls hl => ?_)
  refine lv_iconst (v := (0 : Int32)) hx hb dX11_manyOf_2 (by decide) ?_
  refine lv_istore_n (lv' := [(3, .int (0 : Int32)), (2, .int (0 : Int32)), (0, .int b0), (1, .int b1)]) hx hb dX11_manyOf_3 rfl hl (by decide) rfl (fun ls hl => ?_)
  exact kL4 _ _ _ _ _ hf _ _ hP hD hS _ (lv_sub hl [2, 3, 1, 0] rfl)
theorem yk_X11_manyOf : ykS yX11_manyOf cX11_manyOf 4 (some .int) 2 := ⟨wd_1918, wd_142, wd_1919, by decide +kernel, by decide +kernel, by decide +kernel⟩
theorem dX11_fewest_0 : decode cX11_fewest 0 = .ok (.iload_n 1, 1) := by decide +kernel
theorem dX11_fewest_1 : decode cX11_fewest 1 = .ok (.iconst 1, 1) := by decide +kernel
theorem dX11_fewest_2 : decode cX11_fewest 2 = .ok (.sipush 200, 3) := by decide +kernel
theorem dX11_fewest_5 : decode cX11_fewest 5 = .ok (.invokestatic 163, 3) := by decide +kernel
theorem dX11_fewest_8 : decode cX11_fewest 8 = .ok (.ifCond .ne 5, 3) := by decide +kernel
theorem dX11_fewest_11 : decode cX11_fewest 11 = .ok (.iconst (-1), 1) := by decide +kernel
theorem dX11_fewest_12 : decode cX11_fewest 12 = .ok (.ireturn, 1) := by decide +kernel
theorem dX11_fewest_13 : decode cX11_fewest 13 = .ok (.iconst 4, 1) := by decide +kernel
theorem dX11_fewest_14 : decode cX11_fewest 14 = .ok (.istore_n 2, 1) := by decide +kernel
theorem dX11_fewest_15 : decode cX11_fewest 15 = .ok (.iload_n 2, 1) := by decide +kernel
theorem dX11_fewest_16 : decode cX11_fewest 16 = .ok (.bipush 9, 2) := by decide +kernel
theorem dX11_fewest_18 : decode cX11_fewest 18 = .ok (.if_icmp .ge 33, 3) := by decide +kernel
theorem dX11_fewest_21 : decode cX11_fewest 21 = .ok (.iconst 3, 1) := by decide +kernel
theorem dX11_fewest_22 : decode cX11_fewest 22 = .ok (.iload_n 2, 1) := by decide +kernel
theorem dX11_fewest_23 : decode cX11_fewest 23 = .ok (.invokestatic 457, 3) := by decide +kernel
theorem dX11_fewest_26 : decode cX11_fewest 26 = .ok (.iconst 5, 1) := by decide +kernel
theorem dX11_fewest_27 : decode cX11_fewest 27 = .ok (.iload_n 2, 1) := by decide +kernel
theorem dX11_fewest_28 : decode cX11_fewest 28 = .ok (.invokestatic 457, 3) := by decide +kernel
theorem dX11_fewest_31 : decode cX11_fewest 31 = .ok (.iadd, 1) := by decide +kernel
theorem dX11_fewest_32 : decode cX11_fewest 32 = .ok (.bipush 7, 2) := by decide +kernel
theorem dX11_fewest_34 : decode cX11_fewest 34 = .ok (.iload_n 2, 1) := by decide +kernel
theorem dX11_fewest_35 : decode cX11_fewest 35 = .ok (.invokestatic 457, 3) := by decide +kernel
theorem dX11_fewest_38 : decode cX11_fewest 38 = .ok (.iadd, 1) := by decide +kernel
theorem dX11_fewest_39 : decode cX11_fewest 39 = .ok (.iload_n 1, 1) := by decide +kernel
theorem dX11_fewest_40 : decode cX11_fewest 40 = .ok (.if_icmp .lt 5, 3) := by decide +kernel
theorem dX11_fewest_43 : decode cX11_fewest 43 = .ok (.iload_n 2, 1) := by decide +kernel
theorem dX11_fewest_44 : decode cX11_fewest 44 = .ok (.ireturn, 1) := by decide +kernel
theorem dX11_fewest_45 : decode cX11_fewest 45 = .ok (.iinc 2 1, 3) := by decide +kernel
theorem dX11_fewest_48 : decode cX11_fewest 48 = .ok (.goto (-33), 3) := by decide +kernel
theorem dX11_fewest_51 : decode cX11_fewest 51 = .ok (.iconst (-1), 1) := by decide +kernel
theorem dX11_fewest_52 : decode cX11_fewest 52 = .ok (.ireturn, 1) := by decide +kernel
set_option maxHeartbeats 4000000 in
set_option maxRecDepth 100000 in
theorem c_X11_fewest (l : Launch) (G : GG) (g_t : Nat) (sz : Nat)  (F : Nat) (b1 : Int32)  (r0 : Int32) (hf : p_X11_fewest F b1 = some r0) : Met l yX11_fewest (.code yX11_fewest cX11_fewest 3 (some .int) :: gtbl) ({ frames := 2, cells := 0, slots := 0, locals := 45 } : Room) (PcS G [.ref g_t, .int b1] [] sz) (QiS G r0 (va_A [] sz) []) 0 0 (va_A [] sz) := by
  refine met_start (by decide) (Nat.le_of_ble_eq_true rfl) ?_
  intro p e s m below meth c hC hr hlk hnm hK hP hD hA hS hX ls hl
  obtain ⟨hx, hb, hml, hown, ht0⟩ := hC
  have hown : s.vm.findClass RX11 = some m.cls := hown
  generalize va_A [] sz = A at hD hA hS hX ⊢
  have hl : lv_has ls 3 [(0, .ref g_t), (1, .int b1)] := hl
  have hf : p_X11_fewest F b1 = some r0 := hf
  have kL15 : ∀ (c15_1 : Int32) (n15 : Nat) (u15_2 : Int32), p_X11_fewest_L15 F c15_1 n15 u15_2 = some r0 → ∀ (H : Heap) (locs : List Loc), va_P G.1 vwCl [] H → va_D A [] → va_S A s.heap H locs → ∀ ls : Array Slot, lv_has ls 3 [(1, .int c15_1), (2, .int u15_2)] → W p l e ({ frames := 2, cells := 0, slots := 0, locals := 45 } : Room) s m (List.toArray [.ref g_t, .int b1]) below meth c H locs 0 0 (MQ below (QiS G r0 A []) (List.toArray [.ref g_t, .int b1]) s 0 0 A) (F0 m 15 ls []) := by
    intro c15_1 n15
    induction n15 with
    | zero =>
      intro u15_2 hf
      cases hf
    | succ n15 ih15 =>
      intro u15_2 hf H locs hP hD hS ls hl
      have hf : p_X11_fewest_L15b F c15_1 (p_X11_fewest_L15 F c15_1 n15) u15_2 = some r0 := hf
      refine lv_iload_n hx hb dX11_fewest_15 rfl (lv_at hl 1 rfl) ?_
      refine lv_bipush (v := (9 : Int32)) hx hb dX11_fewest_16 (by decide) ?_
      refine lv_icmp_ge (tgt := 51) hx hb dX11_fewest_18 (by decide) (fun c1 => ?_) (fun c1 => ?_)
      · have hf := of_pos hf c1
        refine lv_iconst (v := (-1 : Int32)) hx hb dX11_fewest_51 (by decide) ?_
        cases hf
        exact ret_i hx hb hr hlk hK hP hD hS dX11_fewest_52
      · have hf := of_neg hf c1
        refine lv_iconst (v := (3 : Int32)) hx hb dX11_fewest_21 (by decide) ?_
        refine lv_iload_n hx hb dX11_fewest_22 rfl (lv_at hl 1 rfl) ?_
        obtain ⟨r_23_1, hc_r_23_1, hf⟩ := of_bnd hf
        refine cl_Si (w2 := []) (As := [.int (3 : Int32), .int u15_2]) (rest := []) ⟨hx, hb, hml, hown, ht0⟩ (c_X11_manyOf l G _ F (3 : Int32) u15_2 _ hc_r_23_1) yk_X11_manyOf wd_1917 ⟨rfl, rfl, by decide, by decide⟩ ⟨Nat.le_refl _, Nat.le_refl _⟩ hX hK hP hD hS hA [] [] [] rfl rfl (by decide) rfl rfl rfl rfl rfl hl.1 rfl (Nat.le_of_ble_eq_true rfl) dX11_fewest_23 (fun H locs hP hD hS => ?_)
        refine lv_iconst (v := (5 : Int32)) hx hb dX11_fewest_26 (by decide) ?_
        refine lv_iload_n hx hb dX11_fewest_27 rfl (lv_at hl 1 rfl) ?_
        obtain ⟨r_28_2, hc_r_28_2, hf⟩ := of_bnd hf
        refine cl_Si (w2 := []) (As := [.int (5 : Int32), .int u15_2]) (rest := [.int r_23_1]) ⟨hx, hb, hml, hown, ht0⟩ (c_X11_manyOf l G _ F (5 : Int32) u15_2 _ hc_r_28_2) yk_X11_manyOf wd_1917 ⟨rfl, rfl, by decide, by decide⟩ ⟨Nat.le_refl _, Nat.le_refl _⟩ hX hK hP hD hS hA [] [] [] rfl rfl (by decide) rfl rfl rfl rfl rfl hl.1 rfl (Nat.le_of_ble_eq_true rfl) dX11_fewest_28 (fun H locs hP hD hS => ?_)
        refine lv_iadd hx hb dX11_fewest_31 ?_
        refine lv_bipush (v := (7 : Int32)) hx hb dX11_fewest_32 (by decide) ?_
        refine lv_iload_n hx hb dX11_fewest_34 rfl (lv_at hl 1 rfl) ?_
        obtain ⟨r_35_3, hc_r_35_3, hf⟩ := of_bnd hf
        refine cl_Si (w2 := []) (As := [.int (7 : Int32), .int u15_2]) (rest := [.int (r_23_1 + r_28_2)]) ⟨hx, hb, hml, hown, ht0⟩ (c_X11_manyOf l G _ F (7 : Int32) u15_2 _ hc_r_35_3) yk_X11_manyOf wd_1917 ⟨rfl, rfl, by decide, by decide⟩ ⟨Nat.le_refl _, Nat.le_refl _⟩ hX hK hP hD hS hA [] [] [] rfl rfl (by decide) rfl rfl rfl rfl rfl hl.1 rfl (Nat.le_of_ble_eq_true rfl) dX11_fewest_35 (fun H locs hP hD hS => ?_)
        refine lv_iadd hx hb dX11_fewest_38 ?_
        refine lv_iload_n hx hb dX11_fewest_39 rfl (lv_at hl 0 rfl) ?_
        refine lv_icmp_lt (tgt := 45) hx hb dX11_fewest_40 (by decide) (fun c5 => ?_) (fun c5 => ?_)
        · have hf := of_pos hf c5
          refine lv_iinc (v := u15_2 + (1 : Int32)) (lv' := [(2, .int (u15_2 + (1 : Int32))), (1, .int c15_1)]) hx hb dX11_fewest_45 hl (k := 1) rfl (by rfl) (by decide) rfl (fun ls hl => ?_)
          refine lv_goto (tgt := 15) hx hb dX11_fewest_48 (by decide) ?_
          exact ih15 _ hf _ _ hP hD hS _ (lv_sub hl [1, 0] rfl)
        · have hf := of_neg hf c5
          refine lv_iload_n hx hb dX11_fewest_43 rfl (lv_at hl 1 rfl) ?_
          cases hf
          exact ret_i hx hb hr hlk hK hP hD hS dX11_fewest_44
  refine lv_iload_n hx hb dX11_fewest_0 rfl (lv_at hl 1 rfl) ?_
  refine lv_iconst (v := (1 : Int32)) hx hb dX11_fewest_1 (by decide) ?_
  refine lv_sipush (v := (200 : Int32)) hx hb dX11_fewest_2 (by decide) ?_
  obtain ⟨r_5_5, hc_r_5_5, hf⟩ := of_bnd hf
  refine cl_Si (w2 := []) (As := [.int b1, .int (1 : Int32), .int (200 : Int32)]) (rest := []) ⟨hx, hb, hml, hown, ht0⟩ (c_X11_isIn l G _ F b1 (1 : Int32) (200 : Int32) _ hc_r_5_5) yk_X11_isIn wd_1321 ⟨rfl, rfl, by decide, by decide⟩ ⟨Nat.le_refl _, Nat.le_refl _⟩ hX hK hP hD hS hA [] [] [] rfl rfl (by decide) rfl rfl rfl rfl rfl hl.1 rfl (Nat.le_of_ble_eq_true rfl) dX11_fewest_5 (fun H locs hP hD hS => ?_)
  refine lv_if_ne (tgt := 13) hx hb dX11_fewest_8 (by decide) (fun c7 => ?_) (fun c7 => ?_)
  · have hf := of_neg hf c7
    refine lv_iconst (v := (4 : Int32)) hx hb dX11_fewest_13 (by decide) ?_
    refine lv_istore_n (lv' := [(2, .int (4 : Int32)), (0, .ref g_t), (1, .int b1)]) hx hb dX11_fewest_14 rfl hl (by decide) rfl (fun ls hl => ?_)
    exact kL15 _ _ _ hf _ _ hP hD hS _ (lv_sub hl [2, 0] rfl)
  · have hf := of_pos hf c7
    refine lv_iconst (v := (-1 : Int32)) hx hb dX11_fewest_11 (by decide) ?_
    cases hf
    exact ret_i hx hb hr hlk hK hP hD hS dX11_fewest_12
theorem yk_X11_fewest : ykV yX11_fewest RX11 cX11_fewest 3 (some .int) 1 := ⟨wd_1914, wd_1915, wd_142, wd_1916, rfl, by decide +kernel, by decide +kernel, by decide +kernel⟩
theorem dX11_columns_0 : decode cX11_columns 0 = .ok (.iload_n 1, 1) := by decide +kernel
theorem dX11_columns_1 : decode cX11_columns 1 = .ok (.iconst 3, 1) := by decide +kernel
theorem dX11_columns_2 : decode cX11_columns 2 = .ok (.if_icmp .eq 14, 3) := by decide +kernel
theorem dX11_columns_5 : decode cX11_columns 5 = .ok (.iload_n 1, 1) := by decide +kernel
theorem dX11_columns_6 : decode cX11_columns 6 = .ok (.iconst 5, 1) := by decide +kernel
theorem dX11_columns_7 : decode cX11_columns 7 = .ok (.if_icmp .eq 9, 3) := by decide +kernel
theorem dX11_columns_10 : decode cX11_columns 10 = .ok (.iload_n 1, 1) := by decide +kernel
theorem dX11_columns_11 : decode cX11_columns 11 = .ok (.bipush 7, 2) := by decide +kernel
theorem dX11_columns_13 : decode cX11_columns 13 = .ok (.if_icmp .ne 12, 3) := by decide +kernel
theorem dX11_columns_16 : decode cX11_columns 16 = .ok (.iload_n 2, 1) := by decide +kernel
theorem dX11_columns_17 : decode cX11_columns 17 = .ok (.iconst 0, 1) := by decide +kernel
theorem dX11_columns_18 : decode cX11_columns 18 = .ok (.iconst 1, 1) := by decide +kernel
theorem dX11_columns_19 : decode cX11_columns 19 = .ok (.invokestatic 163, 3) := by decide +kernel
theorem dX11_columns_22 : decode cX11_columns 22 = .ok (.ifCond .ne 5, 3) := by decide +kernel
theorem dX11_columns_25 : decode cX11_columns 25 = .ok (.iconst (-1), 1) := by decide +kernel
theorem dX11_columns_26 : decode cX11_columns 26 = .ok (.ireturn, 1) := by decide +kernel
theorem dX11_columns_27 : decode cX11_columns 27 = .ok (.iload_n 1, 1) := by decide +kernel
theorem dX11_columns_28 : decode cX11_columns 28 = .ok (.aload_n 0, 1) := by decide +kernel
theorem dX11_columns_29 : decode cX11_columns 29 = .ok (.invokevirtual 224, 3) := by decide +kernel
theorem dX11_columns_32 : decode cX11_columns 32 = .ok (.invokestatic 457, 3) := by decide +kernel
theorem dX11_columns_35 : decode cX11_columns 35 = .ok (.istore_n 3, 1) := by decide +kernel
theorem dX11_columns_36 : decode cX11_columns 36 = .ok (.iconst 0, 1) := by decide +kernel
theorem dX11_columns_37 : decode cX11_columns 37 = .ok (.istore 4, 2) := by decide +kernel
theorem dX11_columns_39 : decode cX11_columns 39 = .ok (.iload 4, 2) := by decide +kernel
theorem dX11_columns_41 : decode cX11_columns 41 = .ok (.aload_n 0, 1) := by decide +kernel
theorem dX11_columns_42 : decode cX11_columns 42 = .ok (.invokevirtual 221, 3) := by decide +kernel
theorem dX11_columns_45 : decode cX11_columns 45 = .ok (.if_icmp .ge 35, 3) := by decide +kernel
theorem dX11_columns_48 : decode cX11_columns 48 = .ok (.iload_n 2, 1) := by decide +kernel
theorem dX11_columns_49 : decode cX11_columns 49 = .ok (.iconst 1, 1) := by decide +kernel
theorem dX11_columns_50 : decode cX11_columns 50 = .ok (.if_icmp .ne 30, 3) := by decide +kernel
theorem dX11_columns_53 : decode cX11_columns 53 = .ok (.iload_n 3, 1) := by decide +kernel
theorem dX11_columns_54 : decode cX11_columns 54 = .ok (.aload_n 0, 1) := by decide +kernel
theorem dX11_columns_55 : decode cX11_columns 55 = .ok (.iload 4, 2) := by decide +kernel
theorem dX11_columns_57 : decode cX11_columns 57 = .ok (.invokevirtual 269, 3) := by decide +kernel
theorem dX11_columns_60 : decode cX11_columns 60 = .ok (.invokestatic 192, 3) := by decide +kernel
theorem dX11_columns_63 : decode cX11_columns 63 = .ok (.iload_n 1, 1) := by decide +kernel
theorem dX11_columns_64 : decode cX11_columns 64 = .ok (.if_icmp .ne 7, 3) := by decide +kernel
theorem dX11_columns_67 : decode cX11_columns 67 = .ok (.iconst 1, 1) := by decide +kernel
theorem dX11_columns_68 : decode cX11_columns 68 = .ok (.goto 4, 3) := by decide +kernel
theorem dX11_columns_71 : decode cX11_columns 71 = .ok (.iconst 0, 1) := by decide +kernel
theorem dX11_columns_72 : decode cX11_columns 72 = .ok (.isub, 1) := by decide +kernel
theorem dX11_columns_73 : decode cX11_columns 73 = .ok (.istore_n 3, 1) := by decide +kernel
theorem dX11_columns_74 : decode cX11_columns 74 = .ok (.iinc 4 1, 3) := by decide +kernel
theorem dX11_columns_77 : decode cX11_columns 77 = .ok (.goto (-38), 3) := by decide +kernel
theorem dX11_columns_80 : decode cX11_columns 80 = .ok (.iload_n 3, 1) := by decide +kernel
theorem dX11_columns_81 : decode cX11_columns 81 = .ok (.ireturn, 1) := by decide +kernel
def wW_X11_columns (G : GG) (h0 h1 h2 h3 y0_3 y0_4 y0_6 y0_18 y0_21 y0_22 y0_23 y0_24 y0_25 y0_26 y0_33 y0_34 y0_38 y0_39 y0_40 y0_41 y0_42 y0_43 y0_45 y0_46 y0_47 y0_48 : Nat) (x0_5 : Int32) (x0_7 : Int32) (x0_8 : Int32) (x0_9 : Int32) (x0_10 : Int32) (x0_11 : Int32) (x0_12 : Int32) (x0_13 : Int32) (x0_14 : Int32) (x0_15 : Int32) (x0_16 : Int32) (x0_17 : Int32) (x0_19 : Int32) (x0_20 : Int32) (x0_27 : Int32) (x0_28 : Int32) (x0_29 : Int32) (x0_30 : Int32) (x0_31 : Int32) (x0_32 : Int32) (x0_35 : Int32) (x0_36 : Int32) (x0_37 : Int32) (x0_44 : Int32) (x0_49 : Int32) (x0_50 : Int32) (a1 : Nat → Int32) (a2 : Nat → Int32) (a3 : Nat → Int32) : va_W := [(h0, .inr (11, [.ref h1, .ref h2, .ref h3, .ref y0_3, .ref y0_4, .int x0_5, .ref y0_6, .int x0_7, .int x0_8, .int x0_9, .int x0_10, .int x0_11, .int x0_12, .int x0_13, .int x0_14, .int x0_15, .int x0_16, .int x0_17, .ref y0_18, .int x0_19, .int x0_20, .ref y0_21, .ref y0_22, .ref y0_23, .ref y0_24, .ref y0_25, .ref y0_26, .int x0_27, .int x0_28, .int x0_29, .int x0_30, .int x0_31, .int x0_32, .ref y0_33, .ref y0_34, .int x0_35, .int x0_36, .int x0_37, .ref y0_38, .ref y0_39, .ref y0_40, .ref y0_41, .ref y0_42, .ref y0_43, .int x0_44, .ref y0_45, .ref y0_46, .ref y0_47, .ref y0_48, .int x0_49, .int x0_50])), (h1, .inl (G.2.1, 121, .inl a1)), (h2, .inl (G.2.1, 2, .inl a2)), (h3, .inl (G.2.1, 2, .inl a3))]
set_option maxHeartbeats 4000000 in
set_option maxRecDepth 100000 in
theorem c_X11_columns (l : Launch) (G : GG) (h0 h1 h2 h3 y0_3 y0_4 y0_6 y0_18 y0_21 y0_22 y0_23 y0_24 y0_25 y0_26 y0_33 y0_34 y0_38 y0_39 y0_40 y0_41 y0_42 y0_43 y0_45 y0_46 y0_47 y0_48 : Nat) (sz : Nat) (x0_5 : Int32) (x0_7 : Int32) (x0_8 : Int32) (x0_9 : Int32) (x0_10 : Int32) (x0_11 : Int32) (x0_12 : Int32) (x0_13 : Int32) (x0_14 : Int32) (x0_15 : Int32) (x0_16 : Int32) (x0_17 : Int32) (x0_19 : Int32) (x0_20 : Int32) (x0_27 : Int32) (x0_28 : Int32) (x0_29 : Int32) (x0_30 : Int32) (x0_31 : Int32) (x0_32 : Int32) (x0_35 : Int32) (x0_36 : Int32) (x0_37 : Int32) (x0_44 : Int32) (x0_49 : Int32) (x0_50 : Int32) (a1 : Nat → Int32) (a2 : Nat → Int32) (a3 : Nat → Int32) (F : Nat) (b1 : Int32) (b2 : Int32)  (r0 : Int32) (hf : p_X11_columns F x0_5 a1 a2 a3 b1 b2 = some r0) : Met l yX11_columns (.code yX11_columns cX11_columns 5 (some .int) :: gtbl) ({ frames := 2, cells := 0, slots := 0, locals := 45 } : Room) (PcS G [.ref h0, .int b1, .int b2] (wW_X11_columns G h0 h1 h2 h3 y0_3 y0_4 y0_6 y0_18 y0_21 y0_22 y0_23 y0_24 y0_25 y0_26 y0_33 y0_34 y0_38 y0_39 y0_40 y0_41 y0_42 y0_43 y0_45 y0_46 y0_47 y0_48 x0_5 x0_7 x0_8 x0_9 x0_10 x0_11 x0_12 x0_13 x0_14 x0_15 x0_16 x0_17 x0_19 x0_20 x0_27 x0_28 x0_29 x0_30 x0_31 x0_32 x0_35 x0_36 x0_37 x0_44 x0_49 x0_50 a1 a2 a3) sz) (QiS G r0 (va_A (wW_X11_columns G h0 h1 h2 h3 y0_3 y0_4 y0_6 y0_18 y0_21 y0_22 y0_23 y0_24 y0_25 y0_26 y0_33 y0_34 y0_38 y0_39 y0_40 y0_41 y0_42 y0_43 y0_45 y0_46 y0_47 y0_48 x0_5 x0_7 x0_8 x0_9 x0_10 x0_11 x0_12 x0_13 x0_14 x0_15 x0_16 x0_17 x0_19 x0_20 x0_27 x0_28 x0_29 x0_30 x0_31 x0_32 x0_35 x0_36 x0_37 x0_44 x0_49 x0_50 a1 a2 a3) sz) (wW_X11_columns G h0 h1 h2 h3 y0_3 y0_4 y0_6 y0_18 y0_21 y0_22 y0_23 y0_24 y0_25 y0_26 y0_33 y0_34 y0_38 y0_39 y0_40 y0_41 y0_42 y0_43 y0_45 y0_46 y0_47 y0_48 x0_5 x0_7 x0_8 x0_9 x0_10 x0_11 x0_12 x0_13 x0_14 x0_15 x0_16 x0_17 x0_19 x0_20 x0_27 x0_28 x0_29 x0_30 x0_31 x0_32 x0_35 x0_36 x0_37 x0_44 x0_49 x0_50 a1 a2 a3)) 0 0 (va_A (wW_X11_columns G h0 h1 h2 h3 y0_3 y0_4 y0_6 y0_18 y0_21 y0_22 y0_23 y0_24 y0_25 y0_26 y0_33 y0_34 y0_38 y0_39 y0_40 y0_41 y0_42 y0_43 y0_45 y0_46 y0_47 y0_48 x0_5 x0_7 x0_8 x0_9 x0_10 x0_11 x0_12 x0_13 x0_14 x0_15 x0_16 x0_17 x0_19 x0_20 x0_27 x0_28 x0_29 x0_30 x0_31 x0_32 x0_35 x0_36 x0_37 x0_44 x0_49 x0_50 a1 a2 a3) sz) := by
  refine met_start (by decide) (Nat.le_of_ble_eq_true rfl) ?_
  intro p e s m below meth c hC hr hlk hnm hK hP hD hA hS hX ls hl
  obtain ⟨hx, hb, hml, hown, ht0⟩ := hC
  have hown : s.vm.findClass RX11 = some m.cls := hown
  generalize va_A (wW_X11_columns G h0 h1 h2 h3 y0_3 y0_4 y0_6 y0_18 y0_21 y0_22 y0_23 y0_24 y0_25 y0_26 y0_33 y0_34 y0_38 y0_39 y0_40 y0_41 y0_42 y0_43 y0_45 y0_46 y0_47 y0_48 x0_5 x0_7 x0_8 x0_9 x0_10 x0_11 x0_12 x0_13 x0_14 x0_15 x0_16 x0_17 x0_19 x0_20 x0_27 x0_28 x0_29 x0_30 x0_31 x0_32 x0_35 x0_36 x0_37 x0_44 x0_49 x0_50 a1 a2 a3) sz = A at hD hA hS hX ⊢
  have hl : lv_has ls 5 [(0, .ref h0), (1, .int b1), (2, .int b2)] := hl
  have hf : p_X11_columns F x0_5 a1 a2 a3 b1 b2 = some r0 := hf
  have kL39 : ∀ (c39_1 : Int32) (c39_2 : Int32) (n39 : Nat) (u39_3 : Int32) (u39_4 : Int32), p_X11_columns_L39 F x0_5 a1 a2 a3 c39_1 c39_2 n39 u39_3 u39_4 = some r0 → ∀ (H : Heap) (locs : List Loc), va_P G.1 vwCl (wW_X11_columns G h0 h1 h2 h3 y0_3 y0_4 y0_6 y0_18 y0_21 y0_22 y0_23 y0_24 y0_25 y0_26 y0_33 y0_34 y0_38 y0_39 y0_40 y0_41 y0_42 y0_43 y0_45 y0_46 y0_47 y0_48 x0_5 x0_7 x0_8 x0_9 x0_10 x0_11 x0_12 x0_13 x0_14 x0_15 x0_16 x0_17 x0_19 x0_20 x0_27 x0_28 x0_29 x0_30 x0_31 x0_32 x0_35 x0_36 x0_37 x0_44 x0_49 x0_50 a1 a2 a3) H → va_D A (wW_X11_columns G h0 h1 h2 h3 y0_3 y0_4 y0_6 y0_18 y0_21 y0_22 y0_23 y0_24 y0_25 y0_26 y0_33 y0_34 y0_38 y0_39 y0_40 y0_41 y0_42 y0_43 y0_45 y0_46 y0_47 y0_48 x0_5 x0_7 x0_8 x0_9 x0_10 x0_11 x0_12 x0_13 x0_14 x0_15 x0_16 x0_17 x0_19 x0_20 x0_27 x0_28 x0_29 x0_30 x0_31 x0_32 x0_35 x0_36 x0_37 x0_44 x0_49 x0_50 a1 a2 a3) → va_S A s.heap H locs → ∀ ls : Array Slot, lv_has ls 5 [(0, .ref h0), (1, .int c39_1), (2, .int c39_2), (3, .int u39_3), (4, .int u39_4)] → W p l e ({ frames := 2, cells := 0, slots := 0, locals := 45 } : Room) s m (List.toArray [.ref h0, .int b1, .int b2]) below meth c H locs 0 0 (MQ below (QiS G r0 A (wW_X11_columns G h0 h1 h2 h3 y0_3 y0_4 y0_6 y0_18 y0_21 y0_22 y0_23 y0_24 y0_25 y0_26 y0_33 y0_34 y0_38 y0_39 y0_40 y0_41 y0_42 y0_43 y0_45 y0_46 y0_47 y0_48 x0_5 x0_7 x0_8 x0_9 x0_10 x0_11 x0_12 x0_13 x0_14 x0_15 x0_16 x0_17 x0_19 x0_20 x0_27 x0_28 x0_29 x0_30 x0_31 x0_32 x0_35 x0_36 x0_37 x0_44 x0_49 x0_50 a1 a2 a3)) (List.toArray [.ref h0, .int b1, .int b2]) s 0 0 A) (F0 m 39 ls []) := by
    intro c39_1 c39_2 n39
    induction n39 with
    | zero =>
      intro u39_3 u39_4 hf
      cases hf
    | succ n39 ih39 =>
      have kJ72 : ∀ (u72_4 : Int32) (s72_0 : Int32) (s72_1 : Int32), p_X11_columns_J72 F x0_5 a1 a2 a3 c39_1 c39_2 (p_X11_columns_L39 F x0_5 a1 a2 a3 c39_1 c39_2 n39) u72_4 s72_0 s72_1 = some r0 → ∀ (H : Heap) (locs : List Loc), va_P G.1 vwCl (wW_X11_columns G h0 h1 h2 h3 y0_3 y0_4 y0_6 y0_18 y0_21 y0_22 y0_23 y0_24 y0_25 y0_26 y0_33 y0_34 y0_38 y0_39 y0_40 y0_41 y0_42 y0_43 y0_45 y0_46 y0_47 y0_48 x0_5 x0_7 x0_8 x0_9 x0_10 x0_11 x0_12 x0_13 x0_14 x0_15 x0_16 x0_17 x0_19 x0_20 x0_27 x0_28 x0_29 x0_30 x0_31 x0_32 x0_35 x0_36 x0_37 x0_44 x0_49 x0_50 a1 a2 a3) H → va_D A (wW_X11_columns G h0 h1 h2 h3 y0_3 y0_4 y0_6 y0_18 y0_21 y0_22 y0_23 y0_24 y0_25 y0_26 y0_33 y0_34 y0_38 y0_39 y0_40 y0_41 y0_42 y0_43 y0_45 y0_46 y0_47 y0_48 x0_5 x0_7 x0_8 x0_9 x0_10 x0_11 x0_12 x0_13 x0_14 x0_15 x0_16 x0_17 x0_19 x0_20 x0_27 x0_28 x0_29 x0_30 x0_31 x0_32 x0_35 x0_36 x0_37 x0_44 x0_49 x0_50 a1 a2 a3) → va_S A s.heap H locs → ∀ ls : Array Slot, lv_has ls 5 [(0, .ref h0), (1, .int c39_1), (2, .int c39_2), (4, .int u72_4)] → W p l e ({ frames := 2, cells := 0, slots := 0, locals := 45 } : Room) s m (List.toArray [.ref h0, .int b1, .int b2]) below meth c H locs 0 0 (MQ below (QiS G r0 A (wW_X11_columns G h0 h1 h2 h3 y0_3 y0_4 y0_6 y0_18 y0_21 y0_22 y0_23 y0_24 y0_25 y0_26 y0_33 y0_34 y0_38 y0_39 y0_40 y0_41 y0_42 y0_43 y0_45 y0_46 y0_47 y0_48 x0_5 x0_7 x0_8 x0_9 x0_10 x0_11 x0_12 x0_13 x0_14 x0_15 x0_16 x0_17 x0_19 x0_20 x0_27 x0_28 x0_29 x0_30 x0_31 x0_32 x0_35 x0_36 x0_37 x0_44 x0_49 x0_50 a1 a2 a3)) (List.toArray [.ref h0, .int b1, .int b2]) s 0 0 A) (F0 m 72 ls [.int s72_1, .int s72_0]) := by
        intro u72_4 s72_0 s72_1 hf H locs hP hD hS ls hl
        refine lv_isub hx hb dX11_columns_72 ?_
        refine lv_istore_n (lv' := [(3, .int (s72_0 - s72_1)), (0, .ref h0), (1, .int c39_1), (2, .int c39_2), (4, .int u72_4)]) hx hb dX11_columns_73 rfl hl (by decide) rfl (fun ls hl => ?_)
        refine lv_iinc (v := u72_4 + (1 : Int32)) (lv' := [(4, .int (u72_4 + (1 : Int32))), (3, .int (s72_0 - s72_1)), (0, .ref h0), (1, .int c39_1), (2, .int c39_2)]) hx hb dX11_columns_74 hl (k := 4) rfl (by rfl) (by decide) rfl (fun ls hl => ?_)
        refine lv_goto (tgt := 39) hx hb dX11_columns_77 (by decide) ?_
        exact ih39 _ _ hf _ _ hP hD hS _ (lv_sub hl [2, 3, 4, 1, 0] rfl)
      intro u39_3 u39_4 hf H locs hP hD hS ls hl
      have hf : p_X11_columns_L39b F x0_5 a1 a2 a3 c39_1 c39_2 (p_X11_columns_L39 F x0_5 a1 a2 a3 c39_1 c39_2 n39) u39_3 u39_4 = some r0 := hf
      refine lv_iload hx hb dX11_columns_39 (lv_at hl 4 rfl) ?_
      refine lv_aload_n hx hb dX11_columns_41 rfl (lv_at hl 0 rfl) ?_
      obtain ⟨r_42_0, hc_r_42_0, hf⟩ := of_bnd hf
      refine cl_Vi (w2 := (wW_X11_columns G h0 h1 h2 h3 y0_3 y0_4 y0_6 y0_18 y0_21 y0_22 y0_23 y0_24 y0_25 y0_26 y0_33 y0_34 y0_38 y0_39 y0_40 y0_41 y0_42 y0_43 y0_45 y0_46 y0_47 y0_48 x0_5 x0_7 x0_8 x0_9 x0_10 x0_11 x0_12 x0_13 x0_14 x0_15 x0_16 x0_17 x0_19 x0_20 x0_27 x0_28 x0_29 x0_30 x0_31 x0_32 x0_35 x0_36 x0_37 x0_44 x0_49 x0_50 a1 a2 a3)) (As := []) (rest := [.int u39_4]) ⟨hx, hb, hml, hown, ht0⟩ (c_X11_dataNow l G h0 h2 h1 h3 y0_3 y0_4 y0_6 y0_18 y0_21 y0_22 y0_23 y0_24 y0_25 y0_26 y0_33 y0_34 y0_38 y0_39 y0_40 y0_41 y0_42 y0_43 y0_45 y0_46 y0_47 y0_48 _ x0_5 x0_7 x0_8 x0_9 x0_10 x0_11 x0_12 x0_13 x0_14 x0_15 x0_16 x0_17 x0_19 x0_20 x0_27 x0_28 x0_29 x0_30 x0_31 x0_32 x0_35 x0_36 x0_37 x0_44 x0_49 x0_50 a2 F _ hc_r_42_0) yk_X11_dataNow wd_1398 ⟨rfl, rfl, by decide, by decide⟩ ⟨Nat.le_refl _, Nat.le_refl _⟩ hX hK hP hD hS hA [0, 2] [1, 3] [2, 0, 3, 1] (va_recv hK hP (ci := 11) (q0 := 0) rfl rfl) rfl rfl (by decide) rfl rfl rfl rfl rfl hl.1 rfl (Nat.le_of_ble_eq_true rfl) dX11_columns_42 (fun H locs hP hD hS => ?_)
      refine lv_icmp_ge (tgt := 80) hx hb dX11_columns_45 (by decide) (fun c2 => ?_) (fun c2 => ?_)
      · have hf := of_pos hf c2
        refine lv_iload_n hx hb dX11_columns_80 rfl (lv_at hl 3 rfl) ?_
        cases hf
        exact ret_i hx hb hr hlk hK hP hD hS dX11_columns_81
      · have hf := of_neg hf c2
        refine lv_iload_n hx hb dX11_columns_48 rfl (lv_at hl 2 rfl) ?_
        refine lv_iconst (v := (1 : Int32)) hx hb dX11_columns_49 (by decide) ?_
        refine lv_icmp_ne (tgt := 80) hx hb dX11_columns_50 (by decide) (fun c3 => ?_) (fun c3 => ?_)
        · have hf := of_neg hf c3
          refine lv_iload_n hx hb dX11_columns_80 rfl (lv_at hl 3 rfl) ?_
          cases hf
          exact ret_i hx hb hr hlk hK hP hD hS dX11_columns_81
        · have hf := of_pos hf c3
          refine lv_iload_n hx hb dX11_columns_53 rfl (lv_at hl 3 rfl) ?_
          refine lv_aload_n hx hb dX11_columns_54 rfl (lv_at hl 0 rfl) ?_
          refine lv_iload hx hb dX11_columns_55 (lv_at hl 4 rfl) ?_
          obtain ⟨r_57_3, hc_r_57_3, hf⟩ := of_bnd hf
          refine cl_Vi (w2 := (wW_X11_columns G h0 h1 h2 h3 y0_3 y0_4 y0_6 y0_18 y0_21 y0_22 y0_23 y0_24 y0_25 y0_26 y0_33 y0_34 y0_38 y0_39 y0_40 y0_41 y0_42 y0_43 y0_45 y0_46 y0_47 y0_48 x0_5 x0_7 x0_8 x0_9 x0_10 x0_11 x0_12 x0_13 x0_14 x0_15 x0_16 x0_17 x0_19 x0_20 x0_27 x0_28 x0_29 x0_30 x0_31 x0_32 x0_35 x0_36 x0_37 x0_44 x0_49 x0_50 a1 a2 a3)) (As := [.int u39_4]) (rest := [.int u39_3]) ⟨hx, hb, hml, hown, ht0⟩ (c_X11_columnAt l G h0 h1 h2 h3 y0_3 y0_4 y0_6 y0_18 y0_21 y0_22 y0_23 y0_24 y0_25 y0_26 y0_33 y0_34 y0_38 y0_39 y0_40 y0_41 y0_42 y0_43 y0_45 y0_46 y0_47 y0_48 _ x0_5 x0_7 x0_8 x0_9 x0_10 x0_11 x0_12 x0_13 x0_14 x0_15 x0_16 x0_17 x0_19 x0_20 x0_27 x0_28 x0_29 x0_30 x0_31 x0_32 x0_35 x0_36 x0_37 x0_44 x0_49 x0_50 a1 F u39_4 _ hc_r_57_3) yk_X11_columnAt wd_1402 ⟨rfl, rfl, by decide, by decide⟩ ⟨Nat.le_refl _, Nat.le_refl _⟩ hX hK hP hD hS hA [0, 1] [2, 3] [2, 3, 0, 1] (va_recv hK hP (ci := 11) (q0 := 0) rfl rfl) rfl rfl (by decide) rfl rfl rfl rfl rfl hl.1 rfl (Nat.le_of_ble_eq_true rfl) dX11_columns_57 (fun H locs hP hD hS => ?_)
          obtain ⟨r_60_4, hc_r_60_4, hf⟩ := of_bnd hf
          refine cl_Si (w2 := (wW_X11_columns G h0 h1 h2 h3 y0_3 y0_4 y0_6 y0_18 y0_21 y0_22 y0_23 y0_24 y0_25 y0_26 y0_33 y0_34 y0_38 y0_39 y0_40 y0_41 y0_42 y0_43 y0_45 y0_46 y0_47 y0_48 x0_5 x0_7 x0_8 x0_9 x0_10 x0_11 x0_12 x0_13 x0_14 x0_15 x0_16 x0_17 x0_19 x0_20 x0_27 x0_28 x0_29 x0_30 x0_31 x0_32 x0_35 x0_36 x0_37 x0_44 x0_49 x0_50 a1 a2 a3)) (As := [.int r_57_3]) (rest := [.int u39_3]) ⟨hx, hb, hml, hown, ht0⟩ (c_X11_ones l G _ F r_57_3 _ hc_r_60_4) yk_X11_ones wd_1344 ⟨rfl, rfl, by decide, by decide⟩ ⟨Nat.le_refl _, Nat.le_refl _⟩ hX hK hP hD hS hA [] [0, 1, 2, 3] [0, 1, 2, 3] rfl rfl (by decide) rfl rfl rfl rfl rfl hl.1 rfl (Nat.le_of_ble_eq_true rfl) dX11_columns_60 (fun H locs hP hD hS => ?_)
          refine lv_iload_n hx hb dX11_columns_63 rfl (lv_at hl 1 rfl) ?_
          refine lv_icmp_ne (tgt := 71) hx hb dX11_columns_64 (by decide) (fun c6 => ?_) (fun c6 => ?_)
          · have hf := of_neg hf c6
            refine lv_iconst (v := (0 : Int32)) hx hb dX11_columns_71 (by decide) ?_
            exact kJ72 _ _ _ hf _ _ hP hD hS _ (lv_sub hl [0, 1, 2, 4] rfl)
          · have hf := of_pos hf c6
            refine lv_iconst (v := (1 : Int32)) hx hb dX11_columns_67 (by decide) ?_
            refine lv_goto (tgt := 72) hx hb dX11_columns_68 (by decide) ?_
            exact kJ72 _ _ _ hf _ _ hP hD hS _ (lv_sub hl [0, 1, 2, 4] rfl)
  have kJ16 : ∀ (u16_1 : Int32) (u16_2 : Int32), p_X11_columns_J16 F x0_5 a1 a2 a3 u16_1 u16_2 = some r0 → ∀ (H : Heap) (locs : List Loc), va_P G.1 vwCl (wW_X11_columns G h0 h1 h2 h3 y0_3 y0_4 y0_6 y0_18 y0_21 y0_22 y0_23 y0_24 y0_25 y0_26 y0_33 y0_34 y0_38 y0_39 y0_40 y0_41 y0_42 y0_43 y0_45 y0_46 y0_47 y0_48 x0_5 x0_7 x0_8 x0_9 x0_10 x0_11 x0_12 x0_13 x0_14 x0_15 x0_16 x0_17 x0_19 x0_20 x0_27 x0_28 x0_29 x0_30 x0_31 x0_32 x0_35 x0_36 x0_37 x0_44 x0_49 x0_50 a1 a2 a3) H → va_D A (wW_X11_columns G h0 h1 h2 h3 y0_3 y0_4 y0_6 y0_18 y0_21 y0_22 y0_23 y0_24 y0_25 y0_26 y0_33 y0_34 y0_38 y0_39 y0_40 y0_41 y0_42 y0_43 y0_45 y0_46 y0_47 y0_48 x0_5 x0_7 x0_8 x0_9 x0_10 x0_11 x0_12 x0_13 x0_14 x0_15 x0_16 x0_17 x0_19 x0_20 x0_27 x0_28 x0_29 x0_30 x0_31 x0_32 x0_35 x0_36 x0_37 x0_44 x0_49 x0_50 a1 a2 a3) → va_S A s.heap H locs → ∀ ls : Array Slot, lv_has ls 5 [(0, .ref h0), (1, .int u16_1), (2, .int u16_2)] → W p l e ({ frames := 2, cells := 0, slots := 0, locals := 45 } : Room) s m (List.toArray [.ref h0, .int b1, .int b2]) below meth c H locs 0 0 (MQ below (QiS G r0 A (wW_X11_columns G h0 h1 h2 h3 y0_3 y0_4 y0_6 y0_18 y0_21 y0_22 y0_23 y0_24 y0_25 y0_26 y0_33 y0_34 y0_38 y0_39 y0_40 y0_41 y0_42 y0_43 y0_45 y0_46 y0_47 y0_48 x0_5 x0_7 x0_8 x0_9 x0_10 x0_11 x0_12 x0_13 x0_14 x0_15 x0_16 x0_17 x0_19 x0_20 x0_27 x0_28 x0_29 x0_30 x0_31 x0_32 x0_35 x0_36 x0_37 x0_44 x0_49 x0_50 a1 a2 a3)) (List.toArray [.ref h0, .int b1, .int b2]) s 0 0 A) (F0 m 16 ls []) := by
    intro u16_1 u16_2 hf H locs hP hD hS ls hl
    refine lv_iload_n hx hb dX11_columns_16 rfl (lv_at hl 2 rfl) ?_
    refine lv_iconst (v := (0 : Int32)) hx hb dX11_columns_17 (by decide) ?_
    refine lv_iconst (v := (1 : Int32)) hx hb dX11_columns_18 (by decide) ?_
    obtain ⟨r_19_6, hc_r_19_6, hf⟩ := of_bnd hf
    refine cl_Si (w2 := (wW_X11_columns G h0 h1 h2 h3 y0_3 y0_4 y0_6 y0_18 y0_21 y0_22 y0_23 y0_24 y0_25 y0_26 y0_33 y0_34 y0_38 y0_39 y0_40 y0_41 y0_42 y0_43 y0_45 y0_46 y0_47 y0_48 x0_5 x0_7 x0_8 x0_9 x0_10 x0_11 x0_12 x0_13 x0_14 x0_15 x0_16 x0_17 x0_19 x0_20 x0_27 x0_28 x0_29 x0_30 x0_31 x0_32 x0_35 x0_36 x0_37 x0_44 x0_49 x0_50 a1 a2 a3)) (As := [.int u16_2, .int (0 : Int32), .int (1 : Int32)]) (rest := []) ⟨hx, hb, hml, hown, ht0⟩ (c_X11_isIn l G _ F u16_2 (0 : Int32) (1 : Int32) _ hc_r_19_6) yk_X11_isIn wd_1321 ⟨rfl, rfl, by decide, by decide⟩ ⟨Nat.le_refl _, Nat.le_refl _⟩ hX hK hP hD hS hA [] [0, 1, 2, 3] [0, 1, 2, 3] rfl rfl (by decide) rfl rfl rfl rfl rfl hl.1 rfl (Nat.le_of_ble_eq_true rfl) dX11_columns_19 (fun H locs hP hD hS => ?_)
    refine lv_if_ne (tgt := 27) hx hb dX11_columns_22 (by decide) (fun c8 => ?_) (fun c8 => ?_)
    · have hf := of_neg hf c8
      refine lv_iload_n hx hb dX11_columns_27 rfl (lv_at hl 1 rfl) ?_
      refine lv_aload_n hx hb dX11_columns_28 rfl (lv_at hl 0 rfl) ?_
      obtain ⟨r_29_8, hc_r_29_8, hf⟩ := of_bnd hf
      refine cl_Vi (w2 := (wW_X11_columns G h0 h1 h2 h3 y0_3 y0_4 y0_6 y0_18 y0_21 y0_22 y0_23 y0_24 y0_25 y0_26 y0_33 y0_34 y0_38 y0_39 y0_40 y0_41 y0_42 y0_43 y0_45 y0_46 y0_47 y0_48 x0_5 x0_7 x0_8 x0_9 x0_10 x0_11 x0_12 x0_13 x0_14 x0_15 x0_16 x0_17 x0_19 x0_20 x0_27 x0_28 x0_29 x0_30 x0_31 x0_32 x0_35 x0_36 x0_37 x0_44 x0_49 x0_50 a1 a2 a3)) (As := []) (rest := [.int u16_1]) ⟨hx, hb, hml, hown, ht0⟩ (c_X11_checksNow l G h0 h3 h1 h2 y0_3 y0_4 y0_6 y0_18 y0_21 y0_22 y0_23 y0_24 y0_25 y0_26 y0_33 y0_34 y0_38 y0_39 y0_40 y0_41 y0_42 y0_43 y0_45 y0_46 y0_47 y0_48 _ x0_5 x0_7 x0_8 x0_9 x0_10 x0_11 x0_12 x0_13 x0_14 x0_15 x0_16 x0_17 x0_19 x0_20 x0_27 x0_28 x0_29 x0_30 x0_31 x0_32 x0_35 x0_36 x0_37 x0_44 x0_49 x0_50 a3 F _ hc_r_29_8) yk_X11_checksNow wd_1576 ⟨rfl, rfl, by decide, by decide⟩ ⟨Nat.le_refl _, Nat.le_refl _⟩ hX hK hP hD hS hA [0, 3] [1, 2] [2, 0, 1, 3] (va_recv hK hP (ci := 11) (q0 := 0) rfl rfl) rfl rfl (by decide) rfl rfl rfl rfl rfl hl.1 rfl (Nat.le_of_ble_eq_true rfl) dX11_columns_29 (fun H locs hP hD hS => ?_)
      obtain ⟨r_32_9, hc_r_32_9, hf⟩ := of_bnd hf
      refine cl_Si (w2 := (wW_X11_columns G h0 h1 h2 h3 y0_3 y0_4 y0_6 y0_18 y0_21 y0_22 y0_23 y0_24 y0_25 y0_26 y0_33 y0_34 y0_38 y0_39 y0_40 y0_41 y0_42 y0_43 y0_45 y0_46 y0_47 y0_48 x0_5 x0_7 x0_8 x0_9 x0_10 x0_11 x0_12 x0_13 x0_14 x0_15 x0_16 x0_17 x0_19 x0_20 x0_27 x0_28 x0_29 x0_30 x0_31 x0_32 x0_35 x0_36 x0_37 x0_44 x0_49 x0_50 a1 a2 a3)) (As := [.int u16_1, .int r_29_8]) (rest := []) ⟨hx, hb, hml, hown, ht0⟩ (c_X11_manyOf l G _ F u16_1 r_29_8 _ hc_r_32_9) yk_X11_manyOf wd_1917 ⟨rfl, rfl, by decide, by decide⟩ ⟨Nat.le_refl _, Nat.le_refl _⟩ hX hK hP hD hS hA [] [0, 1, 2, 3] [0, 1, 2, 3] rfl rfl (by decide) rfl rfl rfl rfl rfl hl.1 rfl (Nat.le_of_ble_eq_true rfl) dX11_columns_32 (fun H locs hP hD hS => ?_)
      refine lv_istore_n (lv' := [(3, .int r_32_9), (0, .ref h0), (1, .int u16_1), (2, .int u16_2)]) hx hb dX11_columns_35 rfl hl (by decide) rfl (fun ls hl => ?_)
      refine lv_iconst (v := (0 : Int32)) hx hb dX11_columns_36 (by decide) ?_
      refine lv_istore (lv' := [(4, .int (0 : Int32)), (3, .int r_32_9), (0, .ref h0), (1, .int u16_1), (2, .int u16_2)]) hx hb dX11_columns_37 hl (by decide) rfl (fun ls hl => ?_)
      exact kL39 _ _ _ _ _ hf _ _ hP hD hS _ (lv_sub hl [2, 3, 4, 1, 0] rfl)
    · have hf := of_pos hf c8
      refine lv_iconst (v := (-1 : Int32)) hx hb dX11_columns_25 (by decide) ?_
      cases hf
      exact ret_i hx hb hr hlk hK hP hD hS dX11_columns_26
  refine lv_iload_n hx hb dX11_columns_0 rfl (lv_at hl 1 rfl) ?_
  refine lv_iconst (v := (3 : Int32)) hx hb dX11_columns_1 (by decide) ?_
  refine lv_icmp_eq (tgt := 16) hx hb dX11_columns_2 (by decide) (fun c11 => ?_) (fun c11 => ?_)
  · have hf := of_pos hf c11
    exact kJ16 _ _ hf _ _ hP hD hS _ (lv_sub hl [0, 1, 2] rfl)
  · have hf := of_neg hf c11
    refine lv_iload_n hx hb dX11_columns_5 rfl (lv_at hl 1 rfl) ?_
    refine lv_iconst (v := (5 : Int32)) hx hb dX11_columns_6 (by decide) ?_
    refine lv_icmp_eq (tgt := 16) hx hb dX11_columns_7 (by decide) (fun c12 => ?_) (fun c12 => ?_)
    · have hf := of_pos hf c12
      exact kJ16 _ _ hf _ _ hP hD hS _ (lv_sub hl [0, 1, 2] rfl)
    · have hf := of_neg hf c12
      refine lv_iload_n hx hb dX11_columns_10 rfl (lv_at hl 1 rfl) ?_
      refine lv_bipush (v := (7 : Int32)) hx hb dX11_columns_11 (by decide) ?_
      refine lv_icmp_ne (tgt := 25) hx hb dX11_columns_13 (by decide) (fun c13 => ?_) (fun c13 => ?_)
      · have hf := of_neg hf c13
        refine lv_iconst (v := (-1 : Int32)) hx hb dX11_columns_25 (by decide) ?_
        cases hf
        exact ret_i hx hb hr hlk hK hP hD hS dX11_columns_26
      · have hf := of_pos hf c13
        exact kJ16 _ _ hf _ _ hP hD hS _ (lv_sub hl [0, 1, 2] rfl)
theorem yk_X11_columns : ykV yX11_columns RX11 cX11_columns 5 (some .int) 2 := ⟨wd_1921, wd_1922, wd_142, wd_1923, rfl, by decide +kernel, by decide +kernel, by decide +kernel⟩
theorem dX11_strangeBy_0 : decode cX11_strangeBy 0 = .ok (.aload_n 0, 1) := by decide +kernel
theorem dX11_strangeBy_1 : decode cX11_strangeBy 1 = .ok (.invokevirtual 405, 3) := by decide +kernel
theorem dX11_strangeBy_4 : decode cX11_strangeBy 4 = .ok (.aload_n 0, 1) := by decide +kernel
theorem dX11_strangeBy_5 : decode cX11_strangeBy 5 = .ok (.iload_n 1, 1) := by decide +kernel
theorem dX11_strangeBy_6 : decode cX11_strangeBy 6 = .ok (.iload_n 2, 1) := by decide +kernel
theorem dX11_strangeBy_7 : decode cX11_strangeBy 7 = .ok (.iload_n 3, 1) := by decide +kernel
theorem dX11_strangeBy_8 : decode cX11_strangeBy 8 = .ok (.invokevirtual 366, 3) := by decide +kernel
theorem dX11_strangeBy_11 : decode cX11_strangeBy 11 = .ok (.aload_n 0, 1) := by decide +kernel
theorem dX11_strangeBy_12 : decode cX11_strangeBy 12 = .ok (.invokevirtual 369, 3) := by decide +kernel
theorem dX11_strangeBy_15 : decode cX11_strangeBy 15 = .ok (.istore 4, 2) := by decide +kernel
theorem dX11_strangeBy_17 : decode cX11_strangeBy 17 = .ok (.aload_n 0, 1) := by decide +kernel
theorem dX11_strangeBy_18 : decode cX11_strangeBy 18 = .ok (.invokevirtual 408, 3) := by decide +kernel
theorem dX11_strangeBy_21 : decode cX11_strangeBy 21 = .ok (.iload 4, 2) := by decide +kernel
theorem dX11_strangeBy_23 : decode cX11_strangeBy 23 = .ok (.ireturn, 1) := by decide +kernel
def wW_X11_strangeBy (G : GG) (h0 h1 h2 h3 h4 y0_3 y0_4 y0_6 y0_18 y0_21 y0_22 y0_23 y0_24 y0_25 y0_26 y0_33 y0_34 y0_38 y0_39 y0_40 y0_41 y0_42 y0_43 y0_46 y0_47 y0_48 : Nat) (x0_5 : Int32) (x0_7 : Int32) (x0_8 : Int32) (x0_9 : Int32) (x0_10 : Int32) (x0_11 : Int32) (x0_12 : Int32) (x0_13 : Int32) (x0_14 : Int32) (x0_15 : Int32) (x0_16 : Int32) (x0_17 : Int32) (x0_19 : Int32) (x0_20 : Int32) (x0_27 : Int32) (x0_28 : Int32) (x0_29 : Int32) (x0_30 : Int32) (x0_31 : Int32) (x0_32 : Int32) (x0_35 : Int32) (x0_36 : Int32) (x0_37 : Int32) (x0_44 : Int32) (x0_49 : Int32) (x0_50 : Int32) (a1 : Nat → Int32) (a2 : Nat → Int32) (a3 : Nat → Int32) (a4 : Nat → Int32) : va_W := [(h0, .inr (11, [.ref h1, .ref h2, .ref h3, .ref y0_3, .ref y0_4, .int x0_5, .ref y0_6, .int x0_7, .int x0_8, .int x0_9, .int x0_10, .int x0_11, .int x0_12, .int x0_13, .int x0_14, .int x0_15, .int x0_16, .int x0_17, .ref y0_18, .int x0_19, .int x0_20, .ref y0_21, .ref y0_22, .ref y0_23, .ref y0_24, .ref y0_25, .ref y0_26, .int x0_27, .int x0_28, .int x0_29, .int x0_30, .int x0_31, .int x0_32, .ref y0_33, .ref y0_34, .int x0_35, .int x0_36, .int x0_37, .ref y0_38, .ref y0_39, .ref y0_40, .ref y0_41, .ref y0_42, .ref y0_43, .int x0_44, .ref h4, .ref y0_46, .ref y0_47, .ref y0_48, .int x0_49, .int x0_50])), (h1, .inl (G.2.1, 121, .inl a1)), (h2, .inl (G.2.1, 2, .inl a2)), (h3, .inl (G.2.1, 2, .inl a3)), (h4, .inl (G.2.1, 121, .inl a4))]
set_option maxHeartbeats 4000000 in
set_option maxRecDepth 100000 in
theorem c_X11_strangeBy (l : Launch) (G : GG) (h0 h1 h2 h3 h4 y0_3 y0_4 y0_6 y0_18 y0_21 y0_22 y0_23 y0_24 y0_25 y0_26 y0_33 y0_34 y0_38 y0_39 y0_40 y0_41 y0_42 y0_43 y0_46 y0_47 y0_48 : Nat) (sz : Nat) (x0_5 : Int32) (x0_7 : Int32) (x0_8 : Int32) (x0_9 : Int32) (x0_10 : Int32) (x0_11 : Int32) (x0_12 : Int32) (x0_13 : Int32) (x0_14 : Int32) (x0_15 : Int32) (x0_16 : Int32) (x0_17 : Int32) (x0_19 : Int32) (x0_20 : Int32) (x0_27 : Int32) (x0_28 : Int32) (x0_29 : Int32) (x0_30 : Int32) (x0_31 : Int32) (x0_32 : Int32) (x0_35 : Int32) (x0_36 : Int32) (x0_37 : Int32) (x0_44 : Int32) (x0_49 : Int32) (x0_50 : Int32) (a1 : Nat → Int32) (a2 : Nat → Int32) (a3 : Nat → Int32) (a4 : Nat → Int32) (F : Nat) (b1 : Int32) (b2 : Int32) (b3 : Int32)  (r0 : Int32) (e_x0_29 : Int32) (e_x0_30 : Int32) (e_x0_31 : Int32) (e_x0_32 : Int32) (e_a1 : Nat → Int32) (e_a4 : Nat → Int32) (hf : p_X11_strangeBy F x0_5 x0_29 x0_30 x0_31 x0_32 a1 a2 a3 a4 b1 b2 b3 = some (r0, e_x0_29, e_x0_30, e_x0_31, e_x0_32, e_a1, e_a4)) : Met l yX11_strangeBy (.code yX11_strangeBy cX11_strangeBy 5 (some .int) :: gtbl) ({ frames := 10, cells := 0, slots := 0, locals := 234 } : Room) (PcS G [.ref h0, .int b1, .int b2, .int b3] (wW_X11_strangeBy G h0 h1 h2 h3 h4 y0_3 y0_4 y0_6 y0_18 y0_21 y0_22 y0_23 y0_24 y0_25 y0_26 y0_33 y0_34 y0_38 y0_39 y0_40 y0_41 y0_42 y0_43 y0_46 y0_47 y0_48 x0_5 x0_7 x0_8 x0_9 x0_10 x0_11 x0_12 x0_13 x0_14 x0_15 x0_16 x0_17 x0_19 x0_20 x0_27 x0_28 x0_29 x0_30 x0_31 x0_32 x0_35 x0_36 x0_37 x0_44 x0_49 x0_50 a1 a2 a3 a4) sz) (QiS G r0 (va_A (wW_X11_strangeBy G h0 h1 h2 h3 h4 y0_3 y0_4 y0_6 y0_18 y0_21 y0_22 y0_23 y0_24 y0_25 y0_26 y0_33 y0_34 y0_38 y0_39 y0_40 y0_41 y0_42 y0_43 y0_46 y0_47 y0_48 x0_5 x0_7 x0_8 x0_9 x0_10 x0_11 x0_12 x0_13 x0_14 x0_15 x0_16 x0_17 x0_19 x0_20 x0_27 x0_28 x0_29 x0_30 x0_31 x0_32 x0_35 x0_36 x0_37 x0_44 x0_49 x0_50 a1 a2 a3 a4) sz) (wW_X11_strangeBy G h0 h1 h2 h3 h4 y0_3 y0_4 y0_6 y0_18 y0_21 y0_22 y0_23 y0_24 y0_25 y0_26 y0_33 y0_34 y0_38 y0_39 y0_40 y0_41 y0_42 y0_43 y0_46 y0_47 y0_48 x0_5 x0_7 x0_8 x0_9 x0_10 x0_11 x0_12 x0_13 x0_14 x0_15 x0_16 x0_17 x0_19 x0_20 x0_27 x0_28 e_x0_29 e_x0_30 e_x0_31 e_x0_32 x0_35 x0_36 x0_37 x0_44 x0_49 x0_50 e_a1 a2 a3 e_a4)) 0 0 (va_A (wW_X11_strangeBy G h0 h1 h2 h3 h4 y0_3 y0_4 y0_6 y0_18 y0_21 y0_22 y0_23 y0_24 y0_25 y0_26 y0_33 y0_34 y0_38 y0_39 y0_40 y0_41 y0_42 y0_43 y0_46 y0_47 y0_48 x0_5 x0_7 x0_8 x0_9 x0_10 x0_11 x0_12 x0_13 x0_14 x0_15 x0_16 x0_17 x0_19 x0_20 x0_27 x0_28 x0_29 x0_30 x0_31 x0_32 x0_35 x0_36 x0_37 x0_44 x0_49 x0_50 a1 a2 a3 a4) sz) := by
  refine met_start (by decide) (Nat.le_of_ble_eq_true rfl) ?_
  intro p e s m below meth c hC hr hlk hnm hK hP hD hA hS hX ls hl
  obtain ⟨hx, hb, hml, hown, ht0⟩ := hC
  have hown : s.vm.findClass RX11 = some m.cls := hown
  generalize va_A (wW_X11_strangeBy G h0 h1 h2 h3 h4 y0_3 y0_4 y0_6 y0_18 y0_21 y0_22 y0_23 y0_24 y0_25 y0_26 y0_33 y0_34 y0_38 y0_39 y0_40 y0_41 y0_42 y0_43 y0_46 y0_47 y0_48 x0_5 x0_7 x0_8 x0_9 x0_10 x0_11 x0_12 x0_13 x0_14 x0_15 x0_16 x0_17 x0_19 x0_20 x0_27 x0_28 x0_29 x0_30 x0_31 x0_32 x0_35 x0_36 x0_37 x0_44 x0_49 x0_50 a1 a2 a3 a4) sz = A at hD hA hS hX ⊢
  have hl : lv_has ls 5 [(0, .ref h0), (1, .int b1), (2, .int b2), (3, .int b3)] := hl
  have hf : p_X11_strangeBy F x0_5 x0_29 x0_30 x0_31 x0_32 a1 a2 a3 a4 b1 b2 b3 = some (r0, e_x0_29, e_x0_30, e_x0_31, e_x0_32, e_a1, e_a4) := hf
  refine lv_aload_n hx hb dX11_strangeBy_0 rfl (lv_at hl 0 rfl) ?_
  obtain ⟨r_1_0_a2, hc_r_1_0, hf⟩ := of_bnd hf
  refine cl_Vv (w2 := (wW_X11_strangeBy G h0 h1 h2 h3 h4 y0_3 y0_4 y0_6 y0_18 y0_21 y0_22 y0_23 y0_24 y0_25 y0_26 y0_33 y0_34 y0_38 y0_39 y0_40 y0_41 y0_42 y0_43 y0_46 y0_47 y0_48 x0_5 x0_7 x0_8 x0_9 x0_10 x0_11 x0_12 x0_13 x0_14 x0_15 x0_16 x0_17 x0_19 x0_20 x0_27 x0_28 x0_29 x0_30 x0_31 x0_32 x0_35 x0_36 x0_37 x0_44 x0_49 x0_50 a1 a2 a3 r_1_0_a2)) (As := []) (rest := []) ⟨hx, hb, hml, hown, ht0⟩ (c_X11_putAside l G h0 h1 h4 h2 h3 y0_3 y0_4 y0_6 y0_18 y0_21 y0_22 y0_23 y0_24 y0_25 y0_26 y0_33 y0_34 y0_38 y0_39 y0_40 y0_41 y0_42 y0_43 y0_46 y0_47 y0_48 _ x0_5 x0_7 x0_8 x0_9 x0_10 x0_11 x0_12 x0_13 x0_14 x0_15 x0_16 x0_17 x0_19 x0_20 x0_27 x0_28 x0_29 x0_30 x0_31 x0_32 x0_35 x0_36 x0_37 x0_44 x0_49 x0_50 a1 a4 F _ hc_r_1_0) yk_X11_putAside wd_1821 ⟨rfl, rfl, by decide, by decide⟩ ⟨Nat.le_refl _, Nat.le_refl _⟩ hX hK hP hD hS hA [0, 1, 4] [2, 3] [2, 3, 0, 1, 4] (va_recv hK hP (ci := 11) (q0 := 0) rfl rfl) rfl rfl (by decide) rfl rfl rfl rfl rfl hl.1 rfl (Nat.le_of_ble_eq_true rfl) dX11_strangeBy_1 (fun H locs hP hD hS => ?_)
  refine lv_aload_n hx hb dX11_strangeBy_4 rfl (lv_at hl 0 rfl) ?_
  refine lv_iload_n hx hb dX11_strangeBy_5 rfl (lv_at hl 1 rfl) ?_
  refine lv_iload_n hx hb dX11_strangeBy_6 rfl (lv_at hl 2 rfl) ?_
  refine lv_iload_n hx hb dX11_strangeBy_7 rfl (lv_at hl 3 rfl) ?_
  obtain ⟨⟨r_8_1_x0_29, r_8_1_x0_30, r_8_1_x0_31, r_8_1_x0_32, r_8_1_a1⟩, hc_r_8_1, hf⟩ := of_bnd hf
  refine cl_Vv (w2 := (wW_X11_strangeBy G h0 h1 h2 h3 h4 y0_3 y0_4 y0_6 y0_18 y0_21 y0_22 y0_23 y0_24 y0_25 y0_26 y0_33 y0_34 y0_38 y0_39 y0_40 y0_41 y0_42 y0_43 y0_46 y0_47 y0_48 x0_5 x0_7 x0_8 x0_9 x0_10 x0_11 x0_12 x0_13 x0_14 x0_15 x0_16 x0_17 x0_19 x0_20 x0_27 x0_28 r_8_1_x0_29 r_8_1_x0_30 r_8_1_x0_31 r_8_1_x0_32 x0_35 x0_36 x0_37 x0_44 x0_49 x0_50 r_8_1_a1 a2 a3 r_1_0_a2)) (As := [.int b1, .int b2, .int b3]) (rest := []) ⟨hx, hb, hml, hown, ht0⟩ (c_X11_stormNow l G h0 h1 h2 h3 y0_3 y0_4 y0_6 y0_18 y0_21 y0_22 y0_23 y0_24 y0_25 y0_26 y0_33 y0_34 y0_38 y0_39 y0_40 y0_41 y0_42 y0_43 h4 y0_46 y0_47 y0_48 _ x0_5 x0_7 x0_8 x0_9 x0_10 x0_11 x0_12 x0_13 x0_14 x0_15 x0_16 x0_17 x0_19 x0_20 x0_27 x0_28 x0_29 x0_30 x0_31 x0_32 x0_35 x0_36 x0_37 x0_44 x0_49 x0_50 a1 a2 a3 F b1 b2 b3 _ _ _ _ _ hc_r_8_1) yk_X11_stormNow wd_1714 ⟨rfl, rfl, by decide, by decide⟩ ⟨Nat.le_refl _, Nat.le_refl _⟩ hX hK hP hD hS hA [0, 1, 2, 3] [4] [1, 2, 3, 4, 0] (va_recv hK hP (ci := 11) (q0 := 0) rfl rfl) rfl rfl (by decide) rfl rfl rfl rfl rfl hl.1 rfl (Nat.le_of_ble_eq_true rfl) dX11_strangeBy_8 (fun H locs hP hD hS => ?_)
  refine lv_aload_n hx hb dX11_strangeBy_11 rfl (lv_at hl 0 rfl) ?_
  obtain ⟨r_12_2, hc_r_12_2, hf⟩ := of_bnd hf
  refine cl_Vi (w2 := (wW_X11_strangeBy G h0 h1 h2 h3 h4 y0_3 y0_4 y0_6 y0_18 y0_21 y0_22 y0_23 y0_24 y0_25 y0_26 y0_33 y0_34 y0_38 y0_39 y0_40 y0_41 y0_42 y0_43 y0_46 y0_47 y0_48 x0_5 x0_7 x0_8 x0_9 x0_10 x0_11 x0_12 x0_13 x0_14 x0_15 x0_16 x0_17 x0_19 x0_20 x0_27 x0_28 r_8_1_x0_29 r_8_1_x0_30 r_8_1_x0_31 r_8_1_x0_32 x0_35 x0_36 x0_37 x0_44 x0_49 x0_50 r_8_1_a1 a2 a3 r_1_0_a2)) (As := []) (rest := []) ⟨hx, hb, hml, hown, ht0⟩ (c_X11_strangeMany l G h0 h1 h2 h3 y0_3 y0_4 y0_6 y0_18 y0_21 y0_22 y0_23 y0_24 y0_25 y0_26 y0_33 y0_34 y0_38 y0_39 y0_40 y0_41 y0_42 y0_43 h4 y0_46 y0_47 y0_48 _ x0_5 x0_7 x0_8 x0_9 x0_10 x0_11 x0_12 x0_13 x0_14 x0_15 x0_16 x0_17 x0_19 x0_20 x0_27 x0_28 r_8_1_x0_29 r_8_1_x0_30 r_8_1_x0_31 r_8_1_x0_32 x0_35 x0_36 x0_37 x0_44 x0_49 x0_50 r_8_1_a1 a2 F _ hc_r_12_2) yk_X11_strangeMany wd_1718 ⟨rfl, rfl, by decide, by decide⟩ ⟨Nat.le_refl _, Nat.le_refl _⟩ hX hK hP hD hS hA [0, 1, 2] [3, 4] [2, 3, 4, 0, 1] (va_recv hK hP (ci := 11) (q0 := 0) rfl rfl) rfl rfl (by decide) rfl rfl rfl rfl rfl hl.1 rfl (Nat.le_of_ble_eq_true rfl) dX11_strangeBy_12 (fun H locs hP hD hS => ?_)
  refine lv_istore (lv' := [(4, .int r_12_2), (0, .ref h0), (1, .int b1), (2, .int b2), (3, .int b3)]) hx hb dX11_strangeBy_15 hl (by decide) rfl (fun ls hl => ?_)
  refine lv_aload_n hx hb dX11_strangeBy_17 rfl (lv_at hl 1 rfl) ?_
  obtain ⟨r_18_3_a1, hc_r_18_3, hf⟩ := of_bnd hf
  refine cl_Vv (w2 := (wW_X11_strangeBy G h0 h1 h2 h3 h4 y0_3 y0_4 y0_6 y0_18 y0_21 y0_22 y0_23 y0_24 y0_25 y0_26 y0_33 y0_34 y0_38 y0_39 y0_40 y0_41 y0_42 y0_43 y0_46 y0_47 y0_48 x0_5 x0_7 x0_8 x0_9 x0_10 x0_11 x0_12 x0_13 x0_14 x0_15 x0_16 x0_17 x0_19 x0_20 x0_27 x0_28 r_8_1_x0_29 r_8_1_x0_30 r_8_1_x0_31 r_8_1_x0_32 x0_35 x0_36 x0_37 x0_44 x0_49 x0_50 r_18_3_a1 a2 a3 r_1_0_a2)) (As := []) (rest := []) ⟨hx, hb, hml, hown, ht0⟩ (c_X11_bringBack l G h0 h1 h4 h2 h3 y0_3 y0_4 y0_6 y0_18 y0_21 y0_22 y0_23 y0_24 y0_25 y0_26 y0_33 y0_34 y0_38 y0_39 y0_40 y0_41 y0_42 y0_43 y0_46 y0_47 y0_48 _ x0_5 x0_7 x0_8 x0_9 x0_10 x0_11 x0_12 x0_13 x0_14 x0_15 x0_16 x0_17 x0_19 x0_20 x0_27 x0_28 r_8_1_x0_29 r_8_1_x0_30 r_8_1_x0_31 r_8_1_x0_32 x0_35 x0_36 x0_37 x0_44 x0_49 x0_50 r_8_1_a1 r_1_0_a2 F _ hc_r_18_3) yk_X11_bringBack wd_1825 ⟨rfl, rfl, by decide, by decide⟩ ⟨Nat.le_refl _, Nat.le_refl _⟩ hX hK hP hD hS hA [0, 1, 4] [2, 3] [2, 3, 0, 1, 4] (va_recv hK hP (ci := 11) (q0 := 0) rfl rfl) rfl rfl (by decide) rfl rfl rfl rfl rfl hl.1 rfl (Nat.le_of_ble_eq_true rfl) dX11_strangeBy_18 (fun H locs hP hD hS => ?_)
  refine lv_iload hx hb dX11_strangeBy_21 (lv_at hl 0 rfl) ?_
  cases hf
  exact ret_i hx hb hr hlk hK hP hD hS dX11_strangeBy_23
theorem yk_X11_strangeBy : ykV yX11_strangeBy RX11 cX11_strangeBy 5 (some .int) 3 := ⟨wd_1930, wd_122, wd_142, wd_1931, rfl, by decide +kernel, by decide +kernel, by decide +kernel⟩
theorem dX11_would_0 : decode cX11_would 0 = .ok (.iload_n 1, 1) := by decide +kernel
theorem dX11_would_1 : decode cX11_would 1 = .ok (.iload_n 2, 1) := by decide +kernel
theorem dX11_would_2 : decode cX11_would 2 = .ok (.iconst 0, 1) := by decide +kernel
theorem dX11_would_3 : decode cX11_would 3 = .ok (.sipush 200, 3) := by decide +kernel
theorem dX11_would_6 : decode cX11_would 6 = .ok (.iload_n 3, 1) := by decide +kernel
theorem dX11_would_7 : decode cX11_would 7 = .ok (.invokestatic 362, 3) := by decide +kernel
theorem dX11_would_10 : decode cX11_would 10 = .ok (.ifCond .eq 13, 3) := by decide +kernel
theorem dX11_would_13 : decode cX11_would 13 = .ok (.aload_n 0, 1) := by decide +kernel
theorem dX11_would_14 : decode cX11_would 14 = .ok (.iload_n 1, 1) := by decide +kernel
theorem dX11_would_15 : decode cX11_would 15 = .ok (.iload_n 2, 1) := by decide +kernel
theorem dX11_would_16 : decode cX11_would 16 = .ok (.iload_n 3, 1) := by decide +kernel
theorem dX11_would_17 : decode cX11_would 17 = .ok (.invokevirtual 460, 3) := by decide +kernel
theorem dX11_would_20 : decode cX11_would 20 = .ok (.goto 4, 3) := by decide +kernel
theorem dX11_would_23 : decode cX11_would 23 = .ok (.iconst (-1), 1) := by decide +kernel
theorem dX11_would_24 : decode cX11_would 24 = .ok (.ireturn, 1) := by decide +kernel
def wW_X11_would (G : GG) (h0 h1 h2 h3 h4 y0_3 y0_4 y0_6 y0_18 y0_21 y0_22 y0_23 y0_24 y0_25 y0_26 y0_33 y0_34 y0_38 y0_39 y0_40 y0_41 y0_42 y0_43 y0_46 y0_47 y0_48 : Nat) (x0_5 : Int32) (x0_7 : Int32) (x0_8 : Int32) (x0_9 : Int32) (x0_10 : Int32) (x0_11 : Int32) (x0_12 : Int32) (x0_13 : Int32) (x0_14 : Int32) (x0_15 : Int32) (x0_16 : Int32) (x0_17 : Int32) (x0_19 : Int32) (x0_20 : Int32) (x0_27 : Int32) (x0_28 : Int32) (x0_29 : Int32) (x0_30 : Int32) (x0_31 : Int32) (x0_32 : Int32) (x0_35 : Int32) (x0_36 : Int32) (x0_37 : Int32) (x0_44 : Int32) (x0_49 : Int32) (x0_50 : Int32) (a1 : Nat → Int32) (a2 : Nat → Int32) (a3 : Nat → Int32) (a4 : Nat → Int32) : va_W := [(h0, .inr (11, [.ref h1, .ref h2, .ref h3, .ref y0_3, .ref y0_4, .int x0_5, .ref y0_6, .int x0_7, .int x0_8, .int x0_9, .int x0_10, .int x0_11, .int x0_12, .int x0_13, .int x0_14, .int x0_15, .int x0_16, .int x0_17, .ref y0_18, .int x0_19, .int x0_20, .ref y0_21, .ref y0_22, .ref y0_23, .ref y0_24, .ref y0_25, .ref y0_26, .int x0_27, .int x0_28, .int x0_29, .int x0_30, .int x0_31, .int x0_32, .ref y0_33, .ref y0_34, .int x0_35, .int x0_36, .int x0_37, .ref y0_38, .ref y0_39, .ref y0_40, .ref y0_41, .ref y0_42, .ref y0_43, .int x0_44, .ref h4, .ref y0_46, .ref y0_47, .ref y0_48, .int x0_49, .int x0_50])), (h1, .inl (G.2.1, 121, .inl a1)), (h2, .inl (G.2.1, 2, .inl a2)), (h3, .inl (G.2.1, 2, .inl a3)), (h4, .inl (G.2.1, 121, .inl a4))]
set_option maxHeartbeats 4000000 in
set_option maxRecDepth 100000 in
theorem c_X11_would (l : Launch) (G : GG) (h0 h1 h2 h3 h4 y0_3 y0_4 y0_6 y0_18 y0_21 y0_22 y0_23 y0_24 y0_25 y0_26 y0_33 y0_34 y0_38 y0_39 y0_40 y0_41 y0_42 y0_43 y0_46 y0_47 y0_48 : Nat) (sz : Nat) (x0_5 : Int32) (x0_7 : Int32) (x0_8 : Int32) (x0_9 : Int32) (x0_10 : Int32) (x0_11 : Int32) (x0_12 : Int32) (x0_13 : Int32) (x0_14 : Int32) (x0_15 : Int32) (x0_16 : Int32) (x0_17 : Int32) (x0_19 : Int32) (x0_20 : Int32) (x0_27 : Int32) (x0_28 : Int32) (x0_29 : Int32) (x0_30 : Int32) (x0_31 : Int32) (x0_32 : Int32) (x0_35 : Int32) (x0_36 : Int32) (x0_37 : Int32) (x0_44 : Int32) (x0_49 : Int32) (x0_50 : Int32) (a1 : Nat → Int32) (a2 : Nat → Int32) (a3 : Nat → Int32) (a4 : Nat → Int32) (F : Nat) (b1 : Int32) (b2 : Int32) (b3 : Int32)  (r0 : Int32) (e_x0_29 : Int32) (e_x0_30 : Int32) (e_x0_31 : Int32) (e_x0_32 : Int32) (e_a1 : Nat → Int32) (e_a4 : Nat → Int32) (hf : p_X11_would F x0_5 x0_29 x0_30 x0_31 x0_32 a1 a2 a3 a4 b1 b2 b3 = some (r0, e_x0_29, e_x0_30, e_x0_31, e_x0_32, e_a1, e_a4)) : Met l yX11_would (.code yX11_would cX11_would 4 (some .int) :: gtbl) ({ frames := 11, cells := 0, slots := 0, locals := 258 } : Room) (PcS G [.ref h0, .int b1, .int b2, .int b3] (wW_X11_would G h0 h1 h2 h3 h4 y0_3 y0_4 y0_6 y0_18 y0_21 y0_22 y0_23 y0_24 y0_25 y0_26 y0_33 y0_34 y0_38 y0_39 y0_40 y0_41 y0_42 y0_43 y0_46 y0_47 y0_48 x0_5 x0_7 x0_8 x0_9 x0_10 x0_11 x0_12 x0_13 x0_14 x0_15 x0_16 x0_17 x0_19 x0_20 x0_27 x0_28 x0_29 x0_30 x0_31 x0_32 x0_35 x0_36 x0_37 x0_44 x0_49 x0_50 a1 a2 a3 a4) sz) (QiS G r0 (va_A (wW_X11_would G h0 h1 h2 h3 h4 y0_3 y0_4 y0_6 y0_18 y0_21 y0_22 y0_23 y0_24 y0_25 y0_26 y0_33 y0_34 y0_38 y0_39 y0_40 y0_41 y0_42 y0_43 y0_46 y0_47 y0_48 x0_5 x0_7 x0_8 x0_9 x0_10 x0_11 x0_12 x0_13 x0_14 x0_15 x0_16 x0_17 x0_19 x0_20 x0_27 x0_28 x0_29 x0_30 x0_31 x0_32 x0_35 x0_36 x0_37 x0_44 x0_49 x0_50 a1 a2 a3 a4) sz) (wW_X11_would G h0 h1 h2 h3 h4 y0_3 y0_4 y0_6 y0_18 y0_21 y0_22 y0_23 y0_24 y0_25 y0_26 y0_33 y0_34 y0_38 y0_39 y0_40 y0_41 y0_42 y0_43 y0_46 y0_47 y0_48 x0_5 x0_7 x0_8 x0_9 x0_10 x0_11 x0_12 x0_13 x0_14 x0_15 x0_16 x0_17 x0_19 x0_20 x0_27 x0_28 e_x0_29 e_x0_30 e_x0_31 e_x0_32 x0_35 x0_36 x0_37 x0_44 x0_49 x0_50 e_a1 a2 a3 e_a4)) 0 0 (va_A (wW_X11_would G h0 h1 h2 h3 h4 y0_3 y0_4 y0_6 y0_18 y0_21 y0_22 y0_23 y0_24 y0_25 y0_26 y0_33 y0_34 y0_38 y0_39 y0_40 y0_41 y0_42 y0_43 y0_46 y0_47 y0_48 x0_5 x0_7 x0_8 x0_9 x0_10 x0_11 x0_12 x0_13 x0_14 x0_15 x0_16 x0_17 x0_19 x0_20 x0_27 x0_28 x0_29 x0_30 x0_31 x0_32 x0_35 x0_36 x0_37 x0_44 x0_49 x0_50 a1 a2 a3 a4) sz) := by
  refine met_start (by decide) (Nat.le_of_ble_eq_true rfl) ?_
  intro p e s m below meth c hC hr hlk hnm hK hP hD hA hS hX ls hl
  obtain ⟨hx, hb, hml, hown, ht0⟩ := hC
  have hown : s.vm.findClass RX11 = some m.cls := hown
  generalize va_A (wW_X11_would G h0 h1 h2 h3 h4 y0_3 y0_4 y0_6 y0_18 y0_21 y0_22 y0_23 y0_24 y0_25 y0_26 y0_33 y0_34 y0_38 y0_39 y0_40 y0_41 y0_42 y0_43 y0_46 y0_47 y0_48 x0_5 x0_7 x0_8 x0_9 x0_10 x0_11 x0_12 x0_13 x0_14 x0_15 x0_16 x0_17 x0_19 x0_20 x0_27 x0_28 x0_29 x0_30 x0_31 x0_32 x0_35 x0_36 x0_37 x0_44 x0_49 x0_50 a1 a2 a3 a4) sz = A at hD hA hS hX ⊢
  have hl : lv_has ls 4 [(0, .ref h0), (1, .int b1), (2, .int b2), (3, .int b3)] := hl
  have hf : p_X11_would F x0_5 x0_29 x0_30 x0_31 x0_32 a1 a2 a3 a4 b1 b2 b3 = some (r0, e_x0_29, e_x0_30, e_x0_31, e_x0_32, e_a1, e_a4) := hf
  refine lv_iload_n hx hb dX11_would_0 rfl (lv_at hl 1 rfl) ?_
  refine lv_iload_n hx hb dX11_would_1 rfl (lv_at hl 2 rfl) ?_
  refine lv_iconst (v := (0 : Int32)) hx hb dX11_would_2 (by decide) ?_
  refine lv_sipush (v := (200 : Int32)) hx hb dX11_would_3 (by decide) ?_
  refine lv_iload_n hx hb dX11_would_6 rfl (lv_at hl 3 rfl) ?_
  obtain ⟨r_7_0, hc_r_7_0, hf⟩ := of_bnd hf
  refine cl_Si (w2 := (wW_X11_would G h0 h1 h2 h3 h4 y0_3 y0_4 y0_6 y0_18 y0_21 y0_22 y0_23 y0_24 y0_25 y0_26 y0_33 y0_34 y0_38 y0_39 y0_40 y0_41 y0_42 y0_43 y0_46 y0_47 y0_48 x0_5 x0_7 x0_8 x0_9 x0_10 x0_11 x0_12 x0_13 x0_14 x0_15 x0_16 x0_17 x0_19 x0_20 x0_27 x0_28 x0_29 x0_30 x0_31 x0_32 x0_35 x0_36 x0_37 x0_44 x0_49 x0_50 a1 a2 a3 a4)) (As := [.int b1, .int b2, .int (0 : Int32), .int (200 : Int32), .int b3]) (rest := []) ⟨hx, hb, hml, hown, ht0⟩ (c_X11_isStorm l G _ F b1 b2 (0 : Int32) (200 : Int32) b3 _ hc_r_7_0) yk_X11_isStorm wd_1711 ⟨rfl, rfl, by decide, by decide⟩ ⟨Nat.le_refl _, Nat.le_refl _⟩ hX hK hP hD hS hA [] [0, 1, 2, 3, 4] [0, 1, 2, 3, 4] rfl rfl (by decide) rfl rfl rfl rfl rfl hl.1 rfl (Nat.le_of_ble_eq_true rfl) dX11_would_7 (fun H locs hP hD hS => ?_)
  refine lv_if_eq (tgt := 23) hx hb dX11_would_10 (by decide) (fun c2 => ?_) (fun c2 => ?_)
  · have hf := of_pos hf c2
    refine lv_iconst (v := (-1 : Int32)) hx hb dX11_would_23 (by decide) ?_
    cases hf
    exact ret_i hx hb hr hlk hK hP hD hS dX11_would_24
  · have hf := of_neg hf c2
    refine lv_aload_n hx hb dX11_would_13 rfl (lv_at hl 0 rfl) ?_
    refine lv_iload_n hx hb dX11_would_14 rfl (lv_at hl 1 rfl) ?_
    refine lv_iload_n hx hb dX11_would_15 rfl (lv_at hl 2 rfl) ?_
    refine lv_iload_n hx hb dX11_would_16 rfl (lv_at hl 3 rfl) ?_
    obtain ⟨⟨r_17_2, r_17_2_x0_29, r_17_2_x0_30, r_17_2_x0_31, r_17_2_x0_32, r_17_2_a1, r_17_2_a4⟩, hc_r_17_2, hf⟩ := of_bnd hf
    refine cl_Vi (w2 := (wW_X11_would G h0 h1 h2 h3 h4 y0_3 y0_4 y0_6 y0_18 y0_21 y0_22 y0_23 y0_24 y0_25 y0_26 y0_33 y0_34 y0_38 y0_39 y0_40 y0_41 y0_42 y0_43 y0_46 y0_47 y0_48 x0_5 x0_7 x0_8 x0_9 x0_10 x0_11 x0_12 x0_13 x0_14 x0_15 x0_16 x0_17 x0_19 x0_20 x0_27 x0_28 r_17_2_x0_29 r_17_2_x0_30 r_17_2_x0_31 r_17_2_x0_32 x0_35 x0_36 x0_37 x0_44 x0_49 x0_50 r_17_2_a1 a2 a3 r_17_2_a4)) (As := [.int b1, .int b2, .int b3]) (rest := []) ⟨hx, hb, hml, hown, ht0⟩ (c_X11_strangeBy l G h0 h1 h2 h3 h4 y0_3 y0_4 y0_6 y0_18 y0_21 y0_22 y0_23 y0_24 y0_25 y0_26 y0_33 y0_34 y0_38 y0_39 y0_40 y0_41 y0_42 y0_43 y0_46 y0_47 y0_48 _ x0_5 x0_7 x0_8 x0_9 x0_10 x0_11 x0_12 x0_13 x0_14 x0_15 x0_16 x0_17 x0_19 x0_20 x0_27 x0_28 x0_29 x0_30 x0_31 x0_32 x0_35 x0_36 x0_37 x0_44 x0_49 x0_50 a1 a2 a3 a4 F b1 b2 b3 _ _ _ _ _ _ _ hc_r_17_2) yk_X11_strangeBy wd_1928 ⟨rfl, rfl, by decide, by decide⟩ ⟨Nat.le_refl _, Nat.le_refl _⟩ hX hK hP hD hS hA [0, 1, 2, 3, 4] [] [0, 1, 2, 3, 4] (va_recv hK hP (ci := 11) (q0 := 0) rfl rfl) rfl rfl (by decide) rfl rfl rfl rfl rfl hl.1 rfl (Nat.le_of_ble_eq_true rfl) dX11_would_17 (fun H locs hP hD hS => ?_)
    refine lv_goto (tgt := 24) hx hb dX11_would_20 (by decide) ?_
    cases hf
    exact ret_i hx hb hr hlk hK hP hD hS dX11_would_24
theorem yk_X11_would : ykV yX11_would RX11 cX11_would 4 (some .int) 3 := ⟨wd_1925, wd_1926, wd_142, wd_1927, rfl, by decide +kernel, by decide +kernel, by decide +kernel⟩
theorem dX11_worst_0 : decode cX11_worst 0 = .ok (.iconst 0, 1) := by decide +kernel
theorem dX11_worst_1 : decode cX11_worst 1 = .ok (.iload_n 1, 1) := by decide +kernel
theorem dX11_worst_2 : decode cX11_worst 2 = .ok (.iconst 0, 1) := by decide +kernel
theorem dX11_worst_3 : decode cX11_worst 3 = .ok (.bipush 100, 2) := by decide +kernel
theorem dX11_worst_5 : decode cX11_worst 5 = .ok (.iload_n 2, 1) := by decide +kernel
theorem dX11_worst_6 : decode cX11_worst 6 = .ok (.invokestatic 362, 3) := by decide +kernel
theorem dX11_worst_9 : decode cX11_worst 9 = .ok (.ifCond .eq 12, 3) := by decide +kernel
theorem dX11_worst_12 : decode cX11_worst 12 = .ok (.iload_n 3, 1) := by decide +kernel
theorem dX11_worst_13 : decode cX11_worst 13 = .ok (.iconst 0, 1) := by decide +kernel
theorem dX11_worst_14 : decode cX11_worst 14 = .ok (.iconst 1, 1) := by decide +kernel
theorem dX11_worst_15 : decode cX11_worst 15 = .ok (.invokestatic 163, 3) := by decide +kernel
theorem dX11_worst_18 : decode cX11_worst 18 = .ok (.ifCond .ne 5, 3) := by decide +kernel
theorem dX11_worst_21 : decode cX11_worst 21 = .ok (.iconst (-1), 1) := by decide +kernel
theorem dX11_worst_22 : decode cX11_worst 22 = .ok (.ireturn, 1) := by decide +kernel
theorem dX11_worst_23 : decode cX11_worst 23 = .ok (.iconst 0, 1) := by decide +kernel
theorem dX11_worst_24 : decode cX11_worst 24 = .ok (.istore 4, 2) := by decide +kernel
theorem dX11_worst_26 : decode cX11_worst 26 = .ok (.iconst (-1), 1) := by decide +kernel
theorem dX11_worst_27 : decode cX11_worst 27 = .ok (.istore 5, 2) := by decide +kernel
theorem dX11_worst_29 : decode cX11_worst 29 = .ok (.iconst 0, 1) := by decide +kernel
theorem dX11_worst_30 : decode cX11_worst 30 = .ok (.istore 6, 2) := by decide +kernel
theorem dX11_worst_32 : decode cX11_worst 32 = .ok (.iload 6, 2) := by decide +kernel
theorem dX11_worst_34 : decode cX11_worst 34 = .ok (.bipush 50, 2) := by decide +kernel
theorem dX11_worst_36 : decode cX11_worst 36 = .ok (.if_icmp .ge 37, 3) := by decide +kernel
theorem dX11_worst_39 : decode cX11_worst 39 = .ok (.aload_n 0, 1) := by decide +kernel
theorem dX11_worst_40 : decode cX11_worst 40 = .ok (.iload 6, 2) := by decide +kernel
theorem dX11_worst_42 : decode cX11_worst 42 = .ok (.iload_n 1, 1) := by decide +kernel
theorem dX11_worst_43 : decode cX11_worst 43 = .ok (.iload_n 2, 1) := by decide +kernel
theorem dX11_worst_44 : decode cX11_worst 44 = .ok (.invokevirtual 460, 3) := by decide +kernel
theorem dX11_worst_47 : decode cX11_worst 47 = .ok (.istore 7, 2) := by decide +kernel
theorem dX11_worst_49 : decode cX11_worst 49 = .ok (.iload 7, 2) := by decide +kernel
theorem dX11_worst_51 : decode cX11_worst 51 = .ok (.iload 5, 2) := by decide +kernel
theorem dX11_worst_53 : decode cX11_worst 53 = .ok (.if_icmp .gt 6, 3) := by decide +kernel
theorem dX11_worst_56 : decode cX11_worst 56 = .ok (.goto 11, 3) := by decide +kernel
theorem dX11_worst_59 : decode cX11_worst 59 = .ok (.iload 6, 2) := by decide +kernel
theorem dX11_worst_61 : decode cX11_worst 61 = .ok (.istore 4, 2) := by decide +kernel
theorem dX11_worst_63 : decode cX11_worst 63 = .ok (.iload 7, 2) := by decide +kernel
theorem dX11_worst_65 : decode cX11_worst 65 = .ok (.istore 5, 2) := by decide +kernel
theorem dX11_worst_67 : decode cX11_worst 67 = .ok (.iinc 6 1, 3) := by decide +kernel
theorem dX11_worst_70 : decode cX11_worst 70 = .ok (.goto (-38), 3) := by decide +kernel
theorem dX11_worst_73 : decode cX11_worst 73 = .ok (.iload_n 3, 1) := by decide +kernel
theorem dX11_worst_74 : decode cX11_worst 74 = .ok (.ifCond .ne 8, 3) := by decide +kernel
theorem dX11_worst_77 : decode cX11_worst 77 = .ok (.iload 4, 2) := by decide +kernel
theorem dX11_worst_79 : decode cX11_worst 79 = .ok (.goto 5, 3) := by decide +kernel
theorem dX11_worst_82 : decode cX11_worst 82 = .ok (.iload 5, 2) := by decide +kernel
theorem dX11_worst_84 : decode cX11_worst 84 = .ok (.ireturn, 1) := by decide +kernel
def wW_X11_worst (G : GG) (h0 h1 h2 h3 h4 y0_3 y0_4 y0_6 y0_18 y0_21 y0_22 y0_23 y0_24 y0_25 y0_26 y0_33 y0_34 y0_38 y0_39 y0_40 y0_41 y0_42 y0_43 y0_46 y0_47 y0_48 : Nat) (x0_5 : Int32) (x0_7 : Int32) (x0_8 : Int32) (x0_9 : Int32) (x0_10 : Int32) (x0_11 : Int32) (x0_12 : Int32) (x0_13 : Int32) (x0_14 : Int32) (x0_15 : Int32) (x0_16 : Int32) (x0_17 : Int32) (x0_19 : Int32) (x0_20 : Int32) (x0_27 : Int32) (x0_28 : Int32) (x0_29 : Int32) (x0_30 : Int32) (x0_31 : Int32) (x0_32 : Int32) (x0_35 : Int32) (x0_36 : Int32) (x0_37 : Int32) (x0_44 : Int32) (x0_49 : Int32) (x0_50 : Int32) (a1 : Nat → Int32) (a2 : Nat → Int32) (a3 : Nat → Int32) (a4 : Nat → Int32) : va_W := [(h0, .inr (11, [.ref h1, .ref h2, .ref h3, .ref y0_3, .ref y0_4, .int x0_5, .ref y0_6, .int x0_7, .int x0_8, .int x0_9, .int x0_10, .int x0_11, .int x0_12, .int x0_13, .int x0_14, .int x0_15, .int x0_16, .int x0_17, .ref y0_18, .int x0_19, .int x0_20, .ref y0_21, .ref y0_22, .ref y0_23, .ref y0_24, .ref y0_25, .ref y0_26, .int x0_27, .int x0_28, .int x0_29, .int x0_30, .int x0_31, .int x0_32, .ref y0_33, .ref y0_34, .int x0_35, .int x0_36, .int x0_37, .ref y0_38, .ref y0_39, .ref y0_40, .ref y0_41, .ref y0_42, .ref y0_43, .int x0_44, .ref h4, .ref y0_46, .ref y0_47, .ref y0_48, .int x0_49, .int x0_50])), (h1, .inl (G.2.1, 121, .inl a1)), (h2, .inl (G.2.1, 2, .inl a2)), (h3, .inl (G.2.1, 2, .inl a3)), (h4, .inl (G.2.1, 121, .inl a4))]
set_option maxHeartbeats 4000000 in
set_option maxRecDepth 100000 in
theorem c_X11_worst (l : Launch) (G : GG) (h0 h1 h2 h3 h4 y0_3 y0_4 y0_6 y0_18 y0_21 y0_22 y0_23 y0_24 y0_25 y0_26 y0_33 y0_34 y0_38 y0_39 y0_40 y0_41 y0_42 y0_43 y0_46 y0_47 y0_48 : Nat) (sz : Nat) (x0_5 : Int32) (x0_7 : Int32) (x0_8 : Int32) (x0_9 : Int32) (x0_10 : Int32) (x0_11 : Int32) (x0_12 : Int32) (x0_13 : Int32) (x0_14 : Int32) (x0_15 : Int32) (x0_16 : Int32) (x0_17 : Int32) (x0_19 : Int32) (x0_20 : Int32) (x0_27 : Int32) (x0_28 : Int32) (x0_29 : Int32) (x0_30 : Int32) (x0_31 : Int32) (x0_32 : Int32) (x0_35 : Int32) (x0_36 : Int32) (x0_37 : Int32) (x0_44 : Int32) (x0_49 : Int32) (x0_50 : Int32) (a1 : Nat → Int32) (a2 : Nat → Int32) (a3 : Nat → Int32) (a4 : Nat → Int32) (F : Nat) (b1 : Int32) (b2 : Int32) (b3 : Int32)  (r0 : Int32) (e_x0_29 : Int32) (e_x0_30 : Int32) (e_x0_31 : Int32) (e_x0_32 : Int32) (e_a1 : Nat → Int32) (e_a4 : Nat → Int32) (hf : p_X11_worst F x0_5 x0_29 x0_30 x0_31 x0_32 a1 a2 a3 a4 b1 b2 b3 = some (r0, e_x0_29, e_x0_30, e_x0_31, e_x0_32, e_a1, e_a4)) : Met l yX11_worst (.code yX11_worst cX11_worst 8 (some .int) :: gtbl) ({ frames := 11, cells := 0, slots := 0, locals := 258 } : Room) (PcS G [.ref h0, .int b1, .int b2, .int b3] (wW_X11_worst G h0 h1 h2 h3 h4 y0_3 y0_4 y0_6 y0_18 y0_21 y0_22 y0_23 y0_24 y0_25 y0_26 y0_33 y0_34 y0_38 y0_39 y0_40 y0_41 y0_42 y0_43 y0_46 y0_47 y0_48 x0_5 x0_7 x0_8 x0_9 x0_10 x0_11 x0_12 x0_13 x0_14 x0_15 x0_16 x0_17 x0_19 x0_20 x0_27 x0_28 x0_29 x0_30 x0_31 x0_32 x0_35 x0_36 x0_37 x0_44 x0_49 x0_50 a1 a2 a3 a4) sz) (QiS G r0 (va_A (wW_X11_worst G h0 h1 h2 h3 h4 y0_3 y0_4 y0_6 y0_18 y0_21 y0_22 y0_23 y0_24 y0_25 y0_26 y0_33 y0_34 y0_38 y0_39 y0_40 y0_41 y0_42 y0_43 y0_46 y0_47 y0_48 x0_5 x0_7 x0_8 x0_9 x0_10 x0_11 x0_12 x0_13 x0_14 x0_15 x0_16 x0_17 x0_19 x0_20 x0_27 x0_28 x0_29 x0_30 x0_31 x0_32 x0_35 x0_36 x0_37 x0_44 x0_49 x0_50 a1 a2 a3 a4) sz) (wW_X11_worst G h0 h1 h2 h3 h4 y0_3 y0_4 y0_6 y0_18 y0_21 y0_22 y0_23 y0_24 y0_25 y0_26 y0_33 y0_34 y0_38 y0_39 y0_40 y0_41 y0_42 y0_43 y0_46 y0_47 y0_48 x0_5 x0_7 x0_8 x0_9 x0_10 x0_11 x0_12 x0_13 x0_14 x0_15 x0_16 x0_17 x0_19 x0_20 x0_27 x0_28 e_x0_29 e_x0_30 e_x0_31 e_x0_32 x0_35 x0_36 x0_37 x0_44 x0_49 x0_50 e_a1 a2 a3 e_a4)) 0 0 (va_A (wW_X11_worst G h0 h1 h2 h3 h4 y0_3 y0_4 y0_6 y0_18 y0_21 y0_22 y0_23 y0_24 y0_25 y0_26 y0_33 y0_34 y0_38 y0_39 y0_40 y0_41 y0_42 y0_43 y0_46 y0_47 y0_48 x0_5 x0_7 x0_8 x0_9 x0_10 x0_11 x0_12 x0_13 x0_14 x0_15 x0_16 x0_17 x0_19 x0_20 x0_27 x0_28 x0_29 x0_30 x0_31 x0_32 x0_35 x0_36 x0_37 x0_44 x0_49 x0_50 a1 a2 a3 a4) sz) := by
  refine met_start (by decide) (Nat.le_of_ble_eq_true rfl) ?_
  intro p e s m below meth c hC hr hlk hnm hK hP hD hA hS hX ls hl
  obtain ⟨hx, hb, hml, hown, ht0⟩ := hC
  have hown : s.vm.findClass RX11 = some m.cls := hown
  generalize va_A (wW_X11_worst G h0 h1 h2 h3 h4 y0_3 y0_4 y0_6 y0_18 y0_21 y0_22 y0_23 y0_24 y0_25 y0_26 y0_33 y0_34 y0_38 y0_39 y0_40 y0_41 y0_42 y0_43 y0_46 y0_47 y0_48 x0_5 x0_7 x0_8 x0_9 x0_10 x0_11 x0_12 x0_13 x0_14 x0_15 x0_16 x0_17 x0_19 x0_20 x0_27 x0_28 x0_29 x0_30 x0_31 x0_32 x0_35 x0_36 x0_37 x0_44 x0_49 x0_50 a1 a2 a3 a4) sz = A at hD hA hS hX ⊢
  have hl : lv_has ls 8 [(0, .ref h0), (1, .int b1), (2, .int b2), (3, .int b3)] := hl
  have hf : p_X11_worst F x0_5 x0_29 x0_30 x0_31 x0_32 a1 a2 a3 a4 b1 b2 b3 = some (r0, e_x0_29, e_x0_30, e_x0_31, e_x0_32, e_a1, e_a4) := hf
  have kL32 : ∀ (c32_1 : Int32) (c32_2 : Int32) (c32_3 : Int32) (n32 : Nat) (u32_4 : Int32) (u32_5 : Int32) (u32_6 : Int32) (x0_29_32 : Int32) (x0_30_32 : Int32) (x0_31_32 : Int32) (x0_32_32 : Int32) (a1_32 : Nat → Int32) (a4_32 : Nat → Int32), p_X11_worst_L32 F x0_5 a2 a3 c32_1 c32_2 c32_3 n32 u32_4 u32_5 u32_6 x0_29_32 x0_30_32 x0_31_32 x0_32_32 a1_32 a4_32 = some (r0, e_x0_29, e_x0_30, e_x0_31, e_x0_32, e_a1, e_a4) → ∀ (H : Heap) (locs : List Loc), va_P G.1 vwCl (wW_X11_worst G h0 h1 h2 h3 h4 y0_3 y0_4 y0_6 y0_18 y0_21 y0_22 y0_23 y0_24 y0_25 y0_26 y0_33 y0_34 y0_38 y0_39 y0_40 y0_41 y0_42 y0_43 y0_46 y0_47 y0_48 x0_5 x0_7 x0_8 x0_9 x0_10 x0_11 x0_12 x0_13 x0_14 x0_15 x0_16 x0_17 x0_19 x0_20 x0_27 x0_28 x0_29_32 x0_30_32 x0_31_32 x0_32_32 x0_35 x0_36 x0_37 x0_44 x0_49 x0_50 a1_32 a2 a3 a4_32) H → va_D A (wW_X11_worst G h0 h1 h2 h3 h4 y0_3 y0_4 y0_6 y0_18 y0_21 y0_22 y0_23 y0_24 y0_25 y0_26 y0_33 y0_34 y0_38 y0_39 y0_40 y0_41 y0_42 y0_43 y0_46 y0_47 y0_48 x0_5 x0_7 x0_8 x0_9 x0_10 x0_11 x0_12 x0_13 x0_14 x0_15 x0_16 x0_17 x0_19 x0_20 x0_27 x0_28 x0_29_32 x0_30_32 x0_31_32 x0_32_32 x0_35 x0_36 x0_37 x0_44 x0_49 x0_50 a1_32 a2 a3 a4_32) → va_S A s.heap H locs → ∀ ls : Array Slot, lv_has ls 8 [(0, .ref h0), (1, .int c32_1), (2, .int c32_2), (3, .int c32_3), (4, .int u32_4), (5, .int u32_5), (6, .int u32_6)] → W p l e ({ frames := 11, cells := 0, slots := 0, locals := 258 } : Room) s m (List.toArray [.ref h0, .int b1, .int b2, .int b3]) below meth c H locs 0 0 (MQ below (QiS G r0 A (wW_X11_worst G h0 h1 h2 h3 h4 y0_3 y0_4 y0_6 y0_18 y0_21 y0_22 y0_23 y0_24 y0_25 y0_26 y0_33 y0_34 y0_38 y0_39 y0_40 y0_41 y0_42 y0_43 y0_46 y0_47 y0_48 x0_5 x0_7 x0_8 x0_9 x0_10 x0_11 x0_12 x0_13 x0_14 x0_15 x0_16 x0_17 x0_19 x0_20 x0_27 x0_28 e_x0_29 e_x0_30 e_x0_31 e_x0_32 x0_35 x0_36 x0_37 x0_44 x0_49 x0_50 e_a1 a2 a3 e_a4)) (List.toArray [.ref h0, .int b1, .int b2, .int b3]) s 0 0 A) (F0 m 32 ls []) := by
    intro c32_1 c32_2 c32_3 n32
    induction n32 with
    | zero =>
      intro u32_4 u32_5 u32_6 x0_29_32 x0_30_32 x0_31_32 x0_32_32 a1_32 a4_32 hf
      cases hf
    | succ n32 ih32 =>
      have kJ67 : ∀ (u67_4 : Int32) (u67_5 : Int32) (u67_6 : Int32) (x0_29_67 : Int32) (x0_30_67 : Int32) (x0_31_67 : Int32) (x0_32_67 : Int32) (a1_67 : Nat → Int32) (a4_67 : Nat → Int32), p_X11_worst_J67 F x0_5 a2 a3 c32_1 c32_2 c32_3 (p_X11_worst_L32 F x0_5 a2 a3 c32_1 c32_2 c32_3 n32) u67_4 u67_5 u67_6 x0_29_67 x0_30_67 x0_31_67 x0_32_67 a1_67 a4_67 = some (r0, e_x0_29, e_x0_30, e_x0_31, e_x0_32, e_a1, e_a4) → ∀ (H : Heap) (locs : List Loc), va_P G.1 vwCl (wW_X11_worst G h0 h1 h2 h3 h4 y0_3 y0_4 y0_6 y0_18 y0_21 y0_22 y0_23 y0_24 y0_25 y0_26 y0_33 y0_34 y0_38 y0_39 y0_40 y0_41 y0_42 y0_43 y0_46 y0_47 y0_48 x0_5 x0_7 x0_8 x0_9 x0_10 x0_11 x0_12 x0_13 x0_14 x0_15 x0_16 x0_17 x0_19 x0_20 x0_27 x0_28 x0_29_67 x0_30_67 x0_31_67 x0_32_67 x0_35 x0_36 x0_37 x0_44 x0_49 x0_50 a1_67 a2 a3 a4_67) H → va_D A (wW_X11_worst G h0 h1 h2 h3 h4 y0_3 y0_4 y0_6 y0_18 y0_21 y0_22 y0_23 y0_24 y0_25 y0_26 y0_33 y0_34 y0_38 y0_39 y0_40 y0_41 y0_42 y0_43 y0_46 y0_47 y0_48 x0_5 x0_7 x0_8 x0_9 x0_10 x0_11 x0_12 x0_13 x0_14 x0_15 x0_16 x0_17 x0_19 x0_20 x0_27 x0_28 x0_29_67 x0_30_67 x0_31_67 x0_32_67 x0_35 x0_36 x0_37 x0_44 x0_49 x0_50 a1_67 a2 a3 a4_67) → va_S A s.heap H locs → ∀ ls : Array Slot, lv_has ls 8 [(0, .ref h0), (1, .int c32_1), (2, .int c32_2), (3, .int c32_3), (4, .int u67_4), (5, .int u67_5), (6, .int u67_6)] → W p l e ({ frames := 11, cells := 0, slots := 0, locals := 258 } : Room) s m (List.toArray [.ref h0, .int b1, .int b2, .int b3]) below meth c H locs 0 0 (MQ below (QiS G r0 A (wW_X11_worst G h0 h1 h2 h3 h4 y0_3 y0_4 y0_6 y0_18 y0_21 y0_22 y0_23 y0_24 y0_25 y0_26 y0_33 y0_34 y0_38 y0_39 y0_40 y0_41 y0_42 y0_43 y0_46 y0_47 y0_48 x0_5 x0_7 x0_8 x0_9 x0_10 x0_11 x0_12 x0_13 x0_14 x0_15 x0_16 x0_17 x0_19 x0_20 x0_27 x0_28 e_x0_29 e_x0_30 e_x0_31 e_x0_32 x0_35 x0_36 x0_37 x0_44 x0_49 x0_50 e_a1 a2 a3 e_a4)) (List.toArray [.ref h0, .int b1, .int b2, .int b3]) s 0 0 A) (F0 m 67 ls []) := by
        intro u67_4 u67_5 u67_6 x0_29_67 x0_30_67 x0_31_67 x0_32_67 a1_67 a4_67 hf H locs hP hD hS ls hl
        refine lv_iinc (v := u67_6 + (1 : Int32)) (lv' := [(6, .int (u67_6 + (1 : Int32))), (0, .ref h0), (1, .int c32_1), (2, .int c32_2), (3, .int c32_3), (4, .int u67_4), (5, .int u67_5)]) hx hb dX11_worst_67 hl (k := 6) rfl (by rfl) (by decide) rfl (fun ls hl => ?_)
        refine lv_goto (tgt := 32) hx hb dX11_worst_70 (by decide) ?_
        exact ih32 _ _ _ _ _ _ _ _ _ hf _ _ hP hD hS _ (lv_sub hl [1, 2, 3, 4, 5, 6, 0] rfl)
      intro u32_4 u32_5 u32_6 x0_29_32 x0_30_32 x0_31_32 x0_32_32 a1_32 a4_32 hf H locs hP hD hS ls hl
      have hf : p_X11_worst_L32b F x0_5 a2 a3 c32_1 c32_2 c32_3 (p_X11_worst_L32 F x0_5 a2 a3 c32_1 c32_2 c32_3 n32) u32_4 u32_5 u32_6 x0_29_32 x0_30_32 x0_31_32 x0_32_32 a1_32 a4_32 = some (r0, e_x0_29, e_x0_30, e_x0_31, e_x0_32, e_a1, e_a4) := hf
      refine lv_iload hx hb dX11_worst_32 (lv_at hl 6 rfl) ?_
      refine lv_bipush (v := (50 : Int32)) hx hb dX11_worst_34 (by decide) ?_
      refine lv_icmp_ge (tgt := 73) hx hb dX11_worst_36 (by decide) (fun c1 => ?_) (fun c1 => ?_)
      · have hf := of_pos hf c1
        refine lv_iload_n hx hb dX11_worst_73 rfl (lv_at hl 3 rfl) ?_
        refine lv_if_ne (tgt := 82) hx hb dX11_worst_74 (by decide) (fun c2 => ?_) (fun c2 => ?_)
        · have hf := of_neg hf c2
          refine lv_iload hx hb dX11_worst_82 (lv_at hl 5 rfl) ?_
          cases hf
          exact ret_i hx hb hr hlk hK hP hD hS dX11_worst_84
        · have hf := of_pos hf c2
          refine lv_iload hx hb dX11_worst_77 (lv_at hl 4 rfl) ?_
          refine lv_goto (tgt := 84) hx hb dX11_worst_79 (by decide) ?_
          cases hf
          exact ret_i hx hb hr hlk hK hP hD hS dX11_worst_84
      · have hf := of_neg hf c1
        refine lv_aload_n hx hb dX11_worst_39 rfl (lv_at hl 0 rfl) ?_
        refine lv_iload hx hb dX11_worst_40 (lv_at hl 6 rfl) ?_
        refine lv_iload_n hx hb dX11_worst_42 rfl (lv_at hl 1 rfl) ?_
        refine lv_iload_n hx hb dX11_worst_43 rfl (lv_at hl 2 rfl) ?_
        obtain ⟨⟨r_44_2, r_44_2_x0_29, r_44_2_x0_30, r_44_2_x0_31, r_44_2_x0_32, r_44_2_a1, r_44_2_a4⟩, hc_r_44_2, hf⟩ := of_bnd hf
        refine cl_Vi (w2 := (wW_X11_worst G h0 h1 h2 h3 h4 y0_3 y0_4 y0_6 y0_18 y0_21 y0_22 y0_23 y0_24 y0_25 y0_26 y0_33 y0_34 y0_38 y0_39 y0_40 y0_41 y0_42 y0_43 y0_46 y0_47 y0_48 x0_5 x0_7 x0_8 x0_9 x0_10 x0_11 x0_12 x0_13 x0_14 x0_15 x0_16 x0_17 x0_19 x0_20 x0_27 x0_28 r_44_2_x0_29 r_44_2_x0_30 r_44_2_x0_31 r_44_2_x0_32 x0_35 x0_36 x0_37 x0_44 x0_49 x0_50 r_44_2_a1 a2 a3 r_44_2_a4)) (As := [.int u32_6, .int c32_1, .int c32_2]) (rest := []) ⟨hx, hb, hml, hown, ht0⟩ (c_X11_strangeBy l G h0 h1 h2 h3 h4 y0_3 y0_4 y0_6 y0_18 y0_21 y0_22 y0_23 y0_24 y0_25 y0_26 y0_33 y0_34 y0_38 y0_39 y0_40 y0_41 y0_42 y0_43 y0_46 y0_47 y0_48 _ x0_5 x0_7 x0_8 x0_9 x0_10 x0_11 x0_12 x0_13 x0_14 x0_15 x0_16 x0_17 x0_19 x0_20 x0_27 x0_28 x0_29_32 x0_30_32 x0_31_32 x0_32_32 x0_35 x0_36 x0_37 x0_44 x0_49 x0_50 a1_32 a2 a3 a4_32 F u32_6 c32_1 c32_2 _ _ _ _ _ _ _ hc_r_44_2) yk_X11_strangeBy wd_1928 ⟨rfl, rfl, by decide, by decide⟩ ⟨Nat.le_refl _, Nat.le_refl _⟩ hX hK hP hD hS hA [0, 1, 2, 3, 4] [] [0, 1, 2, 3, 4] (va_recv hK hP (ci := 11) (q0 := 0) rfl rfl) rfl rfl (by decide) rfl rfl rfl rfl rfl hl.1 rfl (Nat.le_of_ble_eq_true rfl) dX11_worst_44 (fun H locs hP hD hS => ?_)
        refine lv_istore (lv' := [(7, .int r_44_2), (0, .ref h0), (1, .int c32_1), (2, .int c32_2), (3, .int c32_3), (4, .int u32_4), (5, .int u32_5), (6, .int u32_6)]) hx hb dX11_worst_47 hl (by decide) rfl (fun ls hl => ?_)
        refine lv_iload hx hb dX11_worst_49 (lv_at hl 0 rfl) ?_
        refine lv_iload hx hb dX11_worst_51 (lv_at hl 6 rfl) ?_
        refine lv_icmp_gt (tgt := 59) hx hb dX11_worst_53 (by decide) (fun c4 => ?_) (fun c4 => ?_)
        · have hf := of_pos hf c4
          refine lv_iload hx hb dX11_worst_59 (lv_at hl 7 rfl) ?_
          refine lv_istore (lv' := [(4, .int u32_6), (7, .int r_44_2), (0, .ref h0), (1, .int c32_1), (2, .int c32_2), (3, .int c32_3), (5, .int u32_5), (6, .int u32_6)]) hx hb dX11_worst_61 hl (by decide) rfl (fun ls hl => ?_)
          refine lv_iload hx hb dX11_worst_63 (lv_at hl 1 rfl) ?_
          refine lv_istore (lv' := [(5, .int r_44_2), (4, .int u32_6), (7, .int r_44_2), (0, .ref h0), (1, .int c32_1), (2, .int c32_2), (3, .int c32_3), (6, .int u32_6)]) hx hb dX11_worst_65 hl (by decide) rfl (fun ls hl => ?_)
          exact kJ67 _ _ _ _ _ _ _ _ _ hf _ _ hP hD hS _ (lv_sub hl [3, 4, 5, 6, 1, 0, 7] rfl)
        · have hf := of_neg hf c4
          refine lv_goto (tgt := 67) hx hb dX11_worst_56 (by decide) ?_
          exact kJ67 _ _ _ _ _ _ _ _ _ hf _ _ hP hD hS _ (lv_sub hl [1, 2, 3, 4, 5, 6, 7] rfl)
  refine lv_iconst (v := (0 : Int32)) hx hb dX11_worst_0 (by decide) ?_
  refine lv_iload_n hx hb dX11_worst_1 rfl (lv_at hl 1 rfl) ?_
  refine lv_iconst (v := (0 : Int32)) hx hb dX11_worst_2 (by decide) ?_
  refine lv_bipush (v := (100 : Int32)) hx hb dX11_worst_3 (by decide) ?_
  refine lv_iload_n hx hb dX11_worst_5 rfl (lv_at hl 2 rfl) ?_
  obtain ⟨r_6_4, hc_r_6_4, hf⟩ := of_bnd hf
  refine cl_Si (w2 := (wW_X11_worst G h0 h1 h2 h3 h4 y0_3 y0_4 y0_6 y0_18 y0_21 y0_22 y0_23 y0_24 y0_25 y0_26 y0_33 y0_34 y0_38 y0_39 y0_40 y0_41 y0_42 y0_43 y0_46 y0_47 y0_48 x0_5 x0_7 x0_8 x0_9 x0_10 x0_11 x0_12 x0_13 x0_14 x0_15 x0_16 x0_17 x0_19 x0_20 x0_27 x0_28 x0_29 x0_30 x0_31 x0_32 x0_35 x0_36 x0_37 x0_44 x0_49 x0_50 a1 a2 a3 a4)) (As := [.int (0 : Int32), .int b1, .int (0 : Int32), .int (100 : Int32), .int b2]) (rest := []) ⟨hx, hb, hml, hown, ht0⟩ (c_X11_isStorm l G _ F (0 : Int32) b1 (0 : Int32) (100 : Int32) b2 _ hc_r_6_4) yk_X11_isStorm wd_1711 ⟨rfl, rfl, by decide, by decide⟩ ⟨Nat.le_refl _, Nat.le_refl _⟩ hX hK hP hD hS hA [] [0, 1, 2, 3, 4] [0, 1, 2, 3, 4] rfl rfl (by decide) rfl rfl rfl rfl rfl hl.1 rfl (Nat.le_of_ble_eq_true rfl) dX11_worst_6 (fun H locs hP hD hS => ?_)
  refine lv_if_eq (tgt := 21) hx hb dX11_worst_9 (by decide) (fun c6 => ?_) (fun c6 => ?_)
  · have hf := of_pos hf c6
    refine lv_iconst (v := (-1 : Int32)) hx hb dX11_worst_21 (by decide) ?_
    cases hf
    exact ret_i hx hb hr hlk hK hP hD hS dX11_worst_22
  · have hf := of_neg hf c6
    refine lv_iload_n hx hb dX11_worst_12 rfl (lv_at hl 3 rfl) ?_
    refine lv_iconst (v := (0 : Int32)) hx hb dX11_worst_13 (by decide) ?_
    refine lv_iconst (v := (1 : Int32)) hx hb dX11_worst_14 (by decide) ?_
    obtain ⟨r_15_6, hc_r_15_6, hf⟩ := of_bnd hf
    refine cl_Si (w2 := (wW_X11_worst G h0 h1 h2 h3 h4 y0_3 y0_4 y0_6 y0_18 y0_21 y0_22 y0_23 y0_24 y0_25 y0_26 y0_33 y0_34 y0_38 y0_39 y0_40 y0_41 y0_42 y0_43 y0_46 y0_47 y0_48 x0_5 x0_7 x0_8 x0_9 x0_10 x0_11 x0_12 x0_13 x0_14 x0_15 x0_16 x0_17 x0_19 x0_20 x0_27 x0_28 x0_29 x0_30 x0_31 x0_32 x0_35 x0_36 x0_37 x0_44 x0_49 x0_50 a1 a2 a3 a4)) (As := [.int b3, .int (0 : Int32), .int (1 : Int32)]) (rest := []) ⟨hx, hb, hml, hown, ht0⟩ (c_X11_isIn l G _ F b3 (0 : Int32) (1 : Int32) _ hc_r_15_6) yk_X11_isIn wd_1321 ⟨rfl, rfl, by decide, by decide⟩ ⟨Nat.le_refl _, Nat.le_refl _⟩ hX hK hP hD hS hA [] [0, 1, 2, 3, 4] [0, 1, 2, 3, 4] rfl rfl (by decide) rfl rfl rfl rfl rfl hl.1 rfl (Nat.le_of_ble_eq_true rfl) dX11_worst_15 (fun H locs hP hD hS => ?_)
    refine lv_if_ne (tgt := 23) hx hb dX11_worst_18 (by decide) (fun c8 => ?_) (fun c8 => ?_)
    · have hf := of_neg hf c8
      refine lv_iconst (v := (0 : Int32)) hx hb dX11_worst_23 (by decide) ?_
      refine lv_istore (lv' := [(4, .int (0 : Int32)), (0, .ref h0), (1, .int b1), (2, .int b2), (3, .int b3)]) hx hb dX11_worst_24 hl (by decide) rfl (fun ls hl => ?_)
      refine lv_iconst (v := (-1 : Int32)) hx hb dX11_worst_26 (by decide) ?_
      refine lv_istore (lv' := [(5, .int (-1 : Int32)), (4, .int (0 : Int32)), (0, .ref h0), (1, .int b1), (2, .int b2), (3, .int b3)]) hx hb dX11_worst_27 hl (by decide) rfl (fun ls hl => ?_)
      refine lv_iconst (v := (0 : Int32)) hx hb dX11_worst_29 (by decide) ?_
      refine lv_istore (lv' := [(6, .int (0 : Int32)), (5, .int (-1 : Int32)), (4, .int (0 : Int32)), (0, .ref h0), (1, .int b1), (2, .int b2), (3, .int b3)]) hx hb dX11_worst_30 hl (by decide) rfl (fun ls hl => ?_)
      exact kL32 _ _ _ _ _ _ _ _ _ _ _ _ _ hf _ _ hP hD hS _ (lv_sub hl [3, 4, 5, 6, 2, 1, 0] rfl)
    · have hf := of_pos hf c8
      refine lv_iconst (v := (-1 : Int32)) hx hb dX11_worst_21 (by decide) ?_
      cases hf
      exact ret_i hx hb hr hlk hK hP hD hS dX11_worst_22
theorem yk_X11_worst : ykV yX11_worst RX11 cX11_worst 8 (some .int) 3 := ⟨wd_1933, wd_1934, wd_142, wd_1935, rfl, by decide +kernel, by decide +kernel, by decide +kernel⟩
theorem dX11_interval_0 : decode cX11_interval 0 = .ok (.iload_n 1, 1) := by decide +kernel
theorem dX11_interval_1 : decode cX11_interval 1 = .ok (.iload_n 2, 1) := by decide +kernel
theorem dX11_interval_2 : decode cX11_interval 2 = .ok (.iconst 1, 1) := by decide +kernel
theorem dX11_interval_3 : decode cX11_interval 3 = .ok (.sipush 200, 3) := by decide +kernel
theorem dX11_interval_6 : decode cX11_interval 6 = .ok (.iconst 0, 1) := by decide +kernel
theorem dX11_interval_7 : decode cX11_interval 7 = .ok (.invokestatic 362, 3) := by decide +kernel
theorem dX11_interval_10 : decode cX11_interval 10 = .ok (.ifCond .ne 5, 3) := by decide +kernel
theorem dX11_interval_13 : decode cX11_interval 13 = .ok (.iconst (-1), 1) := by decide +kernel
theorem dX11_interval_14 : decode cX11_interval 14 = .ok (.ireturn, 1) := by decide +kernel
theorem dX11_interval_15 : decode cX11_interval 15 = .ok (.bipush 50, 2) := by decide +kernel
theorem dX11_interval_17 : decode cX11_interval 17 = .ok (.istore_n 3, 1) := by decide +kernel
theorem dX11_interval_18 : decode cX11_interval 18 = .ok (.iload_n 3, 1) := by decide +kernel
theorem dX11_interval_19 : decode cX11_interval 19 = .ok (.ifCond .le 21, 3) := by decide +kernel
theorem dX11_interval_22 : decode cX11_interval 22 = .ok (.aload_n 0, 1) := by decide +kernel
theorem dX11_interval_23 : decode cX11_interval 23 = .ok (.iload_n 1, 1) := by decide +kernel
theorem dX11_interval_24 : decode cX11_interval 24 = .ok (.iload_n 2, 1) := by decide +kernel
theorem dX11_interval_25 : decode cX11_interval 25 = .ok (.iload_n 3, 1) := by decide +kernel
theorem dX11_interval_26 : decode cX11_interval 26 = .ok (.invokevirtual 460, 3) := by decide +kernel
theorem dX11_interval_29 : decode cX11_interval 29 = .ok (.ifCond .ne 5, 3) := by decide +kernel
theorem dX11_interval_32 : decode cX11_interval 32 = .ok (.iload_n 3, 1) := by decide +kernel
theorem dX11_interval_33 : decode cX11_interval 33 = .ok (.ireturn, 1) := by decide +kernel
theorem dX11_interval_34 : decode cX11_interval 34 = .ok (.iinc 3 (-1), 3) := by decide +kernel
theorem dX11_interval_37 : decode cX11_interval 37 = .ok (.goto (-19), 3) := by decide +kernel
theorem dX11_interval_40 : decode cX11_interval 40 = .ok (.iconst 0, 1) := by decide +kernel
theorem dX11_interval_41 : decode cX11_interval 41 = .ok (.ireturn, 1) := by decide +kernel
def wW_X11_interval (G : GG) (h0 h1 h2 h3 h4 y0_3 y0_4 y0_6 y0_18 y0_21 y0_22 y0_23 y0_24 y0_25 y0_26 y0_33 y0_34 y0_38 y0_39 y0_40 y0_41 y0_42 y0_43 y0_46 y0_47 y0_48 : Nat) (x0_5 : Int32) (x0_7 : Int32) (x0_8 : Int32) (x0_9 : Int32) (x0_10 : Int32) (x0_11 : Int32) (x0_12 : Int32) (x0_13 : Int32) (x0_14 : Int32) (x0_15 : Int32) (x0_16 : Int32) (x0_17 : Int32) (x0_19 : Int32) (x0_20 : Int32) (x0_27 : Int32) (x0_28 : Int32) (x0_29 : Int32) (x0_30 : Int32) (x0_31 : Int32) (x0_32 : Int32) (x0_35 : Int32) (x0_36 : Int32) (x0_37 : Int32) (x0_44 : Int32) (x0_49 : Int32) (x0_50 : Int32) (a1 : Nat → Int32) (a2 : Nat → Int32) (a3 : Nat → Int32) (a4 : Nat → Int32) : va_W := [(h0, .inr (11, [.ref h1, .ref h2, .ref h3, .ref y0_3, .ref y0_4, .int x0_5, .ref y0_6, .int x0_7, .int x0_8, .int x0_9, .int x0_10, .int x0_11, .int x0_12, .int x0_13, .int x0_14, .int x0_15, .int x0_16, .int x0_17, .ref y0_18, .int x0_19, .int x0_20, .ref y0_21, .ref y0_22, .ref y0_23, .ref y0_24, .ref y0_25, .ref y0_26, .int x0_27, .int x0_28, .int x0_29, .int x0_30, .int x0_31, .int x0_32, .ref y0_33, .ref y0_34, .int x0_35, .int x0_36, .int x0_37, .ref y0_38, .ref y0_39, .ref y0_40, .ref y0_41, .ref y0_42, .ref y0_43, .int x0_44, .ref h4, .ref y0_46, .ref y0_47, .ref y0_48, .int x0_49, .int x0_50])), (h1, .inl (G.2.1, 121, .inl a1)), (h2, .inl (G.2.1, 2, .inl a2)), (h3, .inl (G.2.1, 2, .inl a3)), (h4, .inl (G.2.1, 121, .inl a4))]
set_option maxHeartbeats 4000000 in
set_option maxRecDepth 100000 in
theorem c_X11_interval (l : Launch) (G : GG) (h0 h1 h2 h3 h4 y0_3 y0_4 y0_6 y0_18 y0_21 y0_22 y0_23 y0_24 y0_25 y0_26 y0_33 y0_34 y0_38 y0_39 y0_40 y0_41 y0_42 y0_43 y0_46 y0_47 y0_48 : Nat) (sz : Nat) (x0_5 : Int32) (x0_7 : Int32) (x0_8 : Int32) (x0_9 : Int32) (x0_10 : Int32) (x0_11 : Int32) (x0_12 : Int32) (x0_13 : Int32) (x0_14 : Int32) (x0_15 : Int32) (x0_16 : Int32) (x0_17 : Int32) (x0_19 : Int32) (x0_20 : Int32) (x0_27 : Int32) (x0_28 : Int32) (x0_29 : Int32) (x0_30 : Int32) (x0_31 : Int32) (x0_32 : Int32) (x0_35 : Int32) (x0_36 : Int32) (x0_37 : Int32) (x0_44 : Int32) (x0_49 : Int32) (x0_50 : Int32) (a1 : Nat → Int32) (a2 : Nat → Int32) (a3 : Nat → Int32) (a4 : Nat → Int32) (F : Nat) (b1 : Int32) (b2 : Int32)  (r0 : Int32) (e_x0_29 : Int32) (e_x0_30 : Int32) (e_x0_31 : Int32) (e_x0_32 : Int32) (e_a1 : Nat → Int32) (e_a4 : Nat → Int32) (hf : p_X11_interval F x0_5 x0_29 x0_30 x0_31 x0_32 a1 a2 a3 a4 b1 b2 = some (r0, e_x0_29, e_x0_30, e_x0_31, e_x0_32, e_a1, e_a4)) : Met l yX11_interval (.code yX11_interval cX11_interval 4 (some .int) :: gtbl) ({ frames := 11, cells := 0, slots := 0, locals := 258 } : Room) (PcS G [.ref h0, .int b1, .int b2] (wW_X11_interval G h0 h1 h2 h3 h4 y0_3 y0_4 y0_6 y0_18 y0_21 y0_22 y0_23 y0_24 y0_25 y0_26 y0_33 y0_34 y0_38 y0_39 y0_40 y0_41 y0_42 y0_43 y0_46 y0_47 y0_48 x0_5 x0_7 x0_8 x0_9 x0_10 x0_11 x0_12 x0_13 x0_14 x0_15 x0_16 x0_17 x0_19 x0_20 x0_27 x0_28 x0_29 x0_30 x0_31 x0_32 x0_35 x0_36 x0_37 x0_44 x0_49 x0_50 a1 a2 a3 a4) sz) (QiS G r0 (va_A (wW_X11_interval G h0 h1 h2 h3 h4 y0_3 y0_4 y0_6 y0_18 y0_21 y0_22 y0_23 y0_24 y0_25 y0_26 y0_33 y0_34 y0_38 y0_39 y0_40 y0_41 y0_42 y0_43 y0_46 y0_47 y0_48 x0_5 x0_7 x0_8 x0_9 x0_10 x0_11 x0_12 x0_13 x0_14 x0_15 x0_16 x0_17 x0_19 x0_20 x0_27 x0_28 x0_29 x0_30 x0_31 x0_32 x0_35 x0_36 x0_37 x0_44 x0_49 x0_50 a1 a2 a3 a4) sz) (wW_X11_interval G h0 h1 h2 h3 h4 y0_3 y0_4 y0_6 y0_18 y0_21 y0_22 y0_23 y0_24 y0_25 y0_26 y0_33 y0_34 y0_38 y0_39 y0_40 y0_41 y0_42 y0_43 y0_46 y0_47 y0_48 x0_5 x0_7 x0_8 x0_9 x0_10 x0_11 x0_12 x0_13 x0_14 x0_15 x0_16 x0_17 x0_19 x0_20 x0_27 x0_28 e_x0_29 e_x0_30 e_x0_31 e_x0_32 x0_35 x0_36 x0_37 x0_44 x0_49 x0_50 e_a1 a2 a3 e_a4)) 0 0 (va_A (wW_X11_interval G h0 h1 h2 h3 h4 y0_3 y0_4 y0_6 y0_18 y0_21 y0_22 y0_23 y0_24 y0_25 y0_26 y0_33 y0_34 y0_38 y0_39 y0_40 y0_41 y0_42 y0_43 y0_46 y0_47 y0_48 x0_5 x0_7 x0_8 x0_9 x0_10 x0_11 x0_12 x0_13 x0_14 x0_15 x0_16 x0_17 x0_19 x0_20 x0_27 x0_28 x0_29 x0_30 x0_31 x0_32 x0_35 x0_36 x0_37 x0_44 x0_49 x0_50 a1 a2 a3 a4) sz) := by
  refine met_start (by decide) (Nat.le_of_ble_eq_true rfl) ?_
  intro p e s m below meth c hC hr hlk hnm hK hP hD hA hS hX ls hl
  obtain ⟨hx, hb, hml, hown, ht0⟩ := hC
  have hown : s.vm.findClass RX11 = some m.cls := hown
  generalize va_A (wW_X11_interval G h0 h1 h2 h3 h4 y0_3 y0_4 y0_6 y0_18 y0_21 y0_22 y0_23 y0_24 y0_25 y0_26 y0_33 y0_34 y0_38 y0_39 y0_40 y0_41 y0_42 y0_43 y0_46 y0_47 y0_48 x0_5 x0_7 x0_8 x0_9 x0_10 x0_11 x0_12 x0_13 x0_14 x0_15 x0_16 x0_17 x0_19 x0_20 x0_27 x0_28 x0_29 x0_30 x0_31 x0_32 x0_35 x0_36 x0_37 x0_44 x0_49 x0_50 a1 a2 a3 a4) sz = A at hD hA hS hX ⊢
  have hl : lv_has ls 4 [(0, .ref h0), (1, .int b1), (2, .int b2)] := hl
  have hf : p_X11_interval F x0_5 x0_29 x0_30 x0_31 x0_32 a1 a2 a3 a4 b1 b2 = some (r0, e_x0_29, e_x0_30, e_x0_31, e_x0_32, e_a1, e_a4) := hf
  have kL18 : ∀ (c18_1 : Int32) (c18_2 : Int32) (n18 : Nat) (u18_3 : Int32) (x0_29_18 : Int32) (x0_30_18 : Int32) (x0_31_18 : Int32) (x0_32_18 : Int32) (a1_18 : Nat → Int32) (a4_18 : Nat → Int32), p_X11_interval_L18 F x0_5 a2 a3 c18_1 c18_2 n18 u18_3 x0_29_18 x0_30_18 x0_31_18 x0_32_18 a1_18 a4_18 = some (r0, e_x0_29, e_x0_30, e_x0_31, e_x0_32, e_a1, e_a4) → ∀ (H : Heap) (locs : List Loc), va_P G.1 vwCl (wW_X11_interval G h0 h1 h2 h3 h4 y0_3 y0_4 y0_6 y0_18 y0_21 y0_22 y0_23 y0_24 y0_25 y0_26 y0_33 y0_34 y0_38 y0_39 y0_40 y0_41 y0_42 y0_43 y0_46 y0_47 y0_48 x0_5 x0_7 x0_8 x0_9 x0_10 x0_11 x0_12 x0_13 x0_14 x0_15 x0_16 x0_17 x0_19 x0_20 x0_27 x0_28 x0_29_18 x0_30_18 x0_31_18 x0_32_18 x0_35 x0_36 x0_37 x0_44 x0_49 x0_50 a1_18 a2 a3 a4_18) H → va_D A (wW_X11_interval G h0 h1 h2 h3 h4 y0_3 y0_4 y0_6 y0_18 y0_21 y0_22 y0_23 y0_24 y0_25 y0_26 y0_33 y0_34 y0_38 y0_39 y0_40 y0_41 y0_42 y0_43 y0_46 y0_47 y0_48 x0_5 x0_7 x0_8 x0_9 x0_10 x0_11 x0_12 x0_13 x0_14 x0_15 x0_16 x0_17 x0_19 x0_20 x0_27 x0_28 x0_29_18 x0_30_18 x0_31_18 x0_32_18 x0_35 x0_36 x0_37 x0_44 x0_49 x0_50 a1_18 a2 a3 a4_18) → va_S A s.heap H locs → ∀ ls : Array Slot, lv_has ls 4 [(0, .ref h0), (1, .int c18_1), (2, .int c18_2), (3, .int u18_3)] → W p l e ({ frames := 11, cells := 0, slots := 0, locals := 258 } : Room) s m (List.toArray [.ref h0, .int b1, .int b2]) below meth c H locs 0 0 (MQ below (QiS G r0 A (wW_X11_interval G h0 h1 h2 h3 h4 y0_3 y0_4 y0_6 y0_18 y0_21 y0_22 y0_23 y0_24 y0_25 y0_26 y0_33 y0_34 y0_38 y0_39 y0_40 y0_41 y0_42 y0_43 y0_46 y0_47 y0_48 x0_5 x0_7 x0_8 x0_9 x0_10 x0_11 x0_12 x0_13 x0_14 x0_15 x0_16 x0_17 x0_19 x0_20 x0_27 x0_28 e_x0_29 e_x0_30 e_x0_31 e_x0_32 x0_35 x0_36 x0_37 x0_44 x0_49 x0_50 e_a1 a2 a3 e_a4)) (List.toArray [.ref h0, .int b1, .int b2]) s 0 0 A) (F0 m 18 ls []) := by
    intro c18_1 c18_2 n18
    induction n18 with
    | zero =>
      intro u18_3 x0_29_18 x0_30_18 x0_31_18 x0_32_18 a1_18 a4_18 hf
      cases hf
    | succ n18 ih18 =>
      intro u18_3 x0_29_18 x0_30_18 x0_31_18 x0_32_18 a1_18 a4_18 hf H locs hP hD hS ls hl
      have hf : p_X11_interval_L18b F x0_5 a2 a3 c18_1 c18_2 (p_X11_interval_L18 F x0_5 a2 a3 c18_1 c18_2 n18) u18_3 x0_29_18 x0_30_18 x0_31_18 x0_32_18 a1_18 a4_18 = some (r0, e_x0_29, e_x0_30, e_x0_31, e_x0_32, e_a1, e_a4) := hf
      refine lv_iload_n hx hb dX11_interval_18 rfl (lv_at hl 3 rfl) ?_
      refine lv_if_le (tgt := 40) hx hb dX11_interval_19 (by decide) (fun c1 => ?_) (fun c1 => ?_)
      · have hf := of_pos hf c1
        refine lv_iconst (v := (0 : Int32)) hx hb dX11_interval_40 (by decide) ?_
        cases hf
        exact ret_i hx hb hr hlk hK hP hD hS dX11_interval_41
      · have hf := of_neg hf c1
        refine lv_aload_n hx hb dX11_interval_22 rfl (lv_at hl 0 rfl) ?_
        refine lv_iload_n hx hb dX11_interval_23 rfl (lv_at hl 1 rfl) ?_
        refine lv_iload_n hx hb dX11_interval_24 rfl (lv_at hl 2 rfl) ?_
        refine lv_iload_n hx hb dX11_interval_25 rfl (lv_at hl 3 rfl) ?_
        obtain ⟨⟨r_26_1, r_26_1_x0_29, r_26_1_x0_30, r_26_1_x0_31, r_26_1_x0_32, r_26_1_a1, r_26_1_a4⟩, hc_r_26_1, hf⟩ := of_bnd hf
        refine cl_Vi (w2 := (wW_X11_interval G h0 h1 h2 h3 h4 y0_3 y0_4 y0_6 y0_18 y0_21 y0_22 y0_23 y0_24 y0_25 y0_26 y0_33 y0_34 y0_38 y0_39 y0_40 y0_41 y0_42 y0_43 y0_46 y0_47 y0_48 x0_5 x0_7 x0_8 x0_9 x0_10 x0_11 x0_12 x0_13 x0_14 x0_15 x0_16 x0_17 x0_19 x0_20 x0_27 x0_28 r_26_1_x0_29 r_26_1_x0_30 r_26_1_x0_31 r_26_1_x0_32 x0_35 x0_36 x0_37 x0_44 x0_49 x0_50 r_26_1_a1 a2 a3 r_26_1_a4)) (As := [.int c18_1, .int c18_2, .int u18_3]) (rest := []) ⟨hx, hb, hml, hown, ht0⟩ (c_X11_strangeBy l G h0 h1 h2 h3 h4 y0_3 y0_4 y0_6 y0_18 y0_21 y0_22 y0_23 y0_24 y0_25 y0_26 y0_33 y0_34 y0_38 y0_39 y0_40 y0_41 y0_42 y0_43 y0_46 y0_47 y0_48 _ x0_5 x0_7 x0_8 x0_9 x0_10 x0_11 x0_12 x0_13 x0_14 x0_15 x0_16 x0_17 x0_19 x0_20 x0_27 x0_28 x0_29_18 x0_30_18 x0_31_18 x0_32_18 x0_35 x0_36 x0_37 x0_44 x0_49 x0_50 a1_18 a2 a3 a4_18 F c18_1 c18_2 u18_3 _ _ _ _ _ _ _ hc_r_26_1) yk_X11_strangeBy wd_1928 ⟨rfl, rfl, by decide, by decide⟩ ⟨Nat.le_refl _, Nat.le_refl _⟩ hX hK hP hD hS hA [0, 1, 2, 3, 4] [] [0, 1, 2, 3, 4] (va_recv hK hP (ci := 11) (q0 := 0) rfl rfl) rfl rfl (by decide) rfl rfl rfl rfl rfl hl.1 rfl (Nat.le_of_ble_eq_true rfl) dX11_interval_26 (fun H locs hP hD hS => ?_)
        refine lv_if_ne (tgt := 34) hx hb dX11_interval_29 (by decide) (fun c3 => ?_) (fun c3 => ?_)
        · have hf := of_neg hf c3
          refine lv_iinc (v := u18_3 + (-1 : Int32)) (lv' := [(3, .int (u18_3 + (-1 : Int32))), (0, .ref h0), (1, .int c18_1), (2, .int c18_2)]) hx hb dX11_interval_34 hl (k := 3) rfl (by rfl) (by decide) rfl (fun ls hl => ?_)
          refine lv_goto (tgt := 18) hx hb dX11_interval_37 (by decide) ?_
          exact ih18 _ _ _ _ _ _ _ hf _ _ hP hD hS _ (lv_sub hl [1, 2, 3, 0] rfl)
        · have hf := of_pos hf c3
          refine lv_iload_n hx hb dX11_interval_32 rfl (lv_at hl 3 rfl) ?_
          cases hf
          exact ret_i hx hb hr hlk hK hP hD hS dX11_interval_33
  refine lv_iload_n hx hb dX11_interval_0 rfl (lv_at hl 1 rfl) ?_
  refine lv_iload_n hx hb dX11_interval_1 rfl (lv_at hl 2 rfl) ?_
  refine lv_iconst (v := (1 : Int32)) hx hb dX11_interval_2 (by decide) ?_
  refine lv_sipush (v := (200 : Int32)) hx hb dX11_interval_3 (by decide) ?_
  refine lv_iconst (v := (0 : Int32)) hx hb dX11_interval_6 (by decide) ?_
  obtain ⟨r_7_3, hc_r_7_3, hf⟩ := of_bnd hf
  refine cl_Si (w2 := (wW_X11_interval G h0 h1 h2 h3 h4 y0_3 y0_4 y0_6 y0_18 y0_21 y0_22 y0_23 y0_24 y0_25 y0_26 y0_33 y0_34 y0_38 y0_39 y0_40 y0_41 y0_42 y0_43 y0_46 y0_47 y0_48 x0_5 x0_7 x0_8 x0_9 x0_10 x0_11 x0_12 x0_13 x0_14 x0_15 x0_16 x0_17 x0_19 x0_20 x0_27 x0_28 x0_29 x0_30 x0_31 x0_32 x0_35 x0_36 x0_37 x0_44 x0_49 x0_50 a1 a2 a3 a4)) (As := [.int b1, .int b2, .int (1 : Int32), .int (200 : Int32), .int (0 : Int32)]) (rest := []) ⟨hx, hb, hml, hown, ht0⟩ (c_X11_isStorm l G _ F b1 b2 (1 : Int32) (200 : Int32) (0 : Int32) _ hc_r_7_3) yk_X11_isStorm wd_1711 ⟨rfl, rfl, by decide, by decide⟩ ⟨Nat.le_refl _, Nat.le_refl _⟩ hX hK hP hD hS hA [] [0, 1, 2, 3, 4] [0, 1, 2, 3, 4] rfl rfl (by decide) rfl rfl rfl rfl rfl hl.1 rfl (Nat.le_of_ble_eq_true rfl) dX11_interval_7 (fun H locs hP hD hS => ?_)
  refine lv_if_ne (tgt := 15) hx hb dX11_interval_10 (by decide) (fun c5 => ?_) (fun c5 => ?_)
  · have hf := of_neg hf c5
    refine lv_bipush (v := (50 : Int32)) hx hb dX11_interval_15 (by decide) ?_
    refine lv_istore_n (lv' := [(3, .int (50 : Int32)), (0, .ref h0), (1, .int b1), (2, .int b2)]) hx hb dX11_interval_17 rfl hl (by decide) rfl (fun ls hl => ?_)
    exact kL18 _ _ _ _ _ _ _ _ _ _ hf _ _ hP hD hS _ (lv_sub hl [1, 2, 3, 0] rfl)
  · have hf := of_pos hf c5
    refine lv_iconst (v := (-1 : Int32)) hx hb dX11_interval_13 (by decide) ?_
    cases hf
    exact ret_i hx hb hr hlk hK hP hD hS dX11_interval_14
theorem yk_X11_interval : ykV yX11_interval RX11 cX11_interval 4 (some .int) 2 := ⟨wd_1937, wd_1938, wd_142, wd_1939, rfl, by decide +kernel, by decide +kernel, by decide +kernel⟩
theorem dX11_tally_0 : decode cX11_tally 0 = .ok (.iload_n 1, 1) := by decide +kernel
theorem dX11_tally_1 : decode cX11_tally 1 = .ok (.iconst 0, 1) := by decide +kernel
theorem dX11_tally_2 : decode cX11_tally 2 = .ok (.bipush 7, 2) := by decide +kernel
theorem dX11_tally_4 : decode cX11_tally 4 = .ok (.invokestatic 163, 3) := by decide +kernel
theorem dX11_tally_7 : decode cX11_tally 7 = .ok (.ifCond .eq 15, 3) := by decide +kernel
theorem dX11_tally_10 : decode cX11_tally 10 = .ok (.aload_n 0, 1) := by decide +kernel
theorem dX11_tally_11 : decode cX11_tally 11 = .ok (.getfield 7, 3) := by decide +kernel
theorem dX11_tally_14 : decode cX11_tally 14 = .ok (.bipush 113, 2) := by decide +kernel
theorem dX11_tally_16 : decode cX11_tally 16 = .ok (.iload_n 1, 1) := by decide +kernel
theorem dX11_tally_17 : decode cX11_tally 17 = .ok (.iadd, 1) := by decide +kernel
theorem dX11_tally_18 : decode cX11_tally 18 = .ok (.iaload, 1) := by decide +kernel
theorem dX11_tally_19 : decode cX11_tally 19 = .ok (.goto 4, 3) := by decide +kernel
theorem dX11_tally_22 : decode cX11_tally 22 = .ok (.iconst (-1), 1) := by decide +kernel
theorem dX11_tally_23 : decode cX11_tally 23 = .ok (.ireturn, 1) := by decide +kernel
def wW_X11_tally (G : GG) (h0 h1 y0_1 y0_2 y0_3 y0_4 y0_6 y0_18 y0_21 y0_22 y0_23 y0_24 y0_25 y0_26 y0_33 y0_34 y0_38 y0_39 y0_40 y0_41 y0_42 y0_43 y0_45 y0_46 y0_47 y0_48 : Nat) (x0_5 : Int32) (x0_7 : Int32) (x0_8 : Int32) (x0_9 : Int32) (x0_10 : Int32) (x0_11 : Int32) (x0_12 : Int32) (x0_13 : Int32) (x0_14 : Int32) (x0_15 : Int32) (x0_16 : Int32) (x0_17 : Int32) (x0_19 : Int32) (x0_20 : Int32) (x0_27 : Int32) (x0_28 : Int32) (x0_29 : Int32) (x0_30 : Int32) (x0_31 : Int32) (x0_32 : Int32) (x0_35 : Int32) (x0_36 : Int32) (x0_37 : Int32) (x0_44 : Int32) (x0_49 : Int32) (x0_50 : Int32) (a1 : Nat → Int32) : va_W := [(h0, .inr (11, [.ref h1, .ref y0_1, .ref y0_2, .ref y0_3, .ref y0_4, .int x0_5, .ref y0_6, .int x0_7, .int x0_8, .int x0_9, .int x0_10, .int x0_11, .int x0_12, .int x0_13, .int x0_14, .int x0_15, .int x0_16, .int x0_17, .ref y0_18, .int x0_19, .int x0_20, .ref y0_21, .ref y0_22, .ref y0_23, .ref y0_24, .ref y0_25, .ref y0_26, .int x0_27, .int x0_28, .int x0_29, .int x0_30, .int x0_31, .int x0_32, .ref y0_33, .ref y0_34, .int x0_35, .int x0_36, .int x0_37, .ref y0_38, .ref y0_39, .ref y0_40, .ref y0_41, .ref y0_42, .ref y0_43, .int x0_44, .ref y0_45, .ref y0_46, .ref y0_47, .ref y0_48, .int x0_49, .int x0_50])), (h1, .inl (G.2.1, 121, .inl a1))]
set_option maxHeartbeats 4000000 in
set_option maxRecDepth 100000 in
theorem c_X11_tally (l : Launch) (G : GG) (h0 h1 y0_1 y0_2 y0_3 y0_4 y0_6 y0_18 y0_21 y0_22 y0_23 y0_24 y0_25 y0_26 y0_33 y0_34 y0_38 y0_39 y0_40 y0_41 y0_42 y0_43 y0_45 y0_46 y0_47 y0_48 : Nat) (sz : Nat) (x0_5 : Int32) (x0_7 : Int32) (x0_8 : Int32) (x0_9 : Int32) (x0_10 : Int32) (x0_11 : Int32) (x0_12 : Int32) (x0_13 : Int32) (x0_14 : Int32) (x0_15 : Int32) (x0_16 : Int32) (x0_17 : Int32) (x0_19 : Int32) (x0_20 : Int32) (x0_27 : Int32) (x0_28 : Int32) (x0_29 : Int32) (x0_30 : Int32) (x0_31 : Int32) (x0_32 : Int32) (x0_35 : Int32) (x0_36 : Int32) (x0_37 : Int32) (x0_44 : Int32) (x0_49 : Int32) (x0_50 : Int32) (a1 : Nat → Int32) (F : Nat) (b1 : Int32)  (r0 : Int32) (hf : p_X11_tally F a1 b1 = some r0) : Met l yX11_tally (.code yX11_tally cX11_tally 2 (some .int) :: gtbl) ({ frames := 1, cells := 0, slots := 0, locals := 22 } : Room) (PcS G [.ref h0, .int b1] (wW_X11_tally G h0 h1 y0_1 y0_2 y0_3 y0_4 y0_6 y0_18 y0_21 y0_22 y0_23 y0_24 y0_25 y0_26 y0_33 y0_34 y0_38 y0_39 y0_40 y0_41 y0_42 y0_43 y0_45 y0_46 y0_47 y0_48 x0_5 x0_7 x0_8 x0_9 x0_10 x0_11 x0_12 x0_13 x0_14 x0_15 x0_16 x0_17 x0_19 x0_20 x0_27 x0_28 x0_29 x0_30 x0_31 x0_32 x0_35 x0_36 x0_37 x0_44 x0_49 x0_50 a1) sz) (QiS G r0 (va_A (wW_X11_tally G h0 h1 y0_1 y0_2 y0_3 y0_4 y0_6 y0_18 y0_21 y0_22 y0_23 y0_24 y0_25 y0_26 y0_33 y0_34 y0_38 y0_39 y0_40 y0_41 y0_42 y0_43 y0_45 y0_46 y0_47 y0_48 x0_5 x0_7 x0_8 x0_9 x0_10 x0_11 x0_12 x0_13 x0_14 x0_15 x0_16 x0_17 x0_19 x0_20 x0_27 x0_28 x0_29 x0_30 x0_31 x0_32 x0_35 x0_36 x0_37 x0_44 x0_49 x0_50 a1) sz) (wW_X11_tally G h0 h1 y0_1 y0_2 y0_3 y0_4 y0_6 y0_18 y0_21 y0_22 y0_23 y0_24 y0_25 y0_26 y0_33 y0_34 y0_38 y0_39 y0_40 y0_41 y0_42 y0_43 y0_45 y0_46 y0_47 y0_48 x0_5 x0_7 x0_8 x0_9 x0_10 x0_11 x0_12 x0_13 x0_14 x0_15 x0_16 x0_17 x0_19 x0_20 x0_27 x0_28 x0_29 x0_30 x0_31 x0_32 x0_35 x0_36 x0_37 x0_44 x0_49 x0_50 a1)) 0 0 (va_A (wW_X11_tally G h0 h1 y0_1 y0_2 y0_3 y0_4 y0_6 y0_18 y0_21 y0_22 y0_23 y0_24 y0_25 y0_26 y0_33 y0_34 y0_38 y0_39 y0_40 y0_41 y0_42 y0_43 y0_45 y0_46 y0_47 y0_48 x0_5 x0_7 x0_8 x0_9 x0_10 x0_11 x0_12 x0_13 x0_14 x0_15 x0_16 x0_17 x0_19 x0_20 x0_27 x0_28 x0_29 x0_30 x0_31 x0_32 x0_35 x0_36 x0_37 x0_44 x0_49 x0_50 a1) sz) := by
  refine met_start (by decide) (Nat.le_of_ble_eq_true rfl) ?_
  intro p e s m below meth c hC hr hlk hnm hK hP hD hA hS hX ls hl
  obtain ⟨hx, hb, hml, hown, ht0⟩ := hC
  have hown : s.vm.findClass RX11 = some m.cls := hown
  generalize va_A (wW_X11_tally G h0 h1 y0_1 y0_2 y0_3 y0_4 y0_6 y0_18 y0_21 y0_22 y0_23 y0_24 y0_25 y0_26 y0_33 y0_34 y0_38 y0_39 y0_40 y0_41 y0_42 y0_43 y0_45 y0_46 y0_47 y0_48 x0_5 x0_7 x0_8 x0_9 x0_10 x0_11 x0_12 x0_13 x0_14 x0_15 x0_16 x0_17 x0_19 x0_20 x0_27 x0_28 x0_29 x0_30 x0_31 x0_32 x0_35 x0_36 x0_37 x0_44 x0_49 x0_50 a1) sz = A at hD hA hS hX ⊢
  have hl : lv_has ls 2 [(0, .ref h0), (1, .int b1)] := hl
  have hf : p_X11_tally F a1 b1 = some r0 := hf
  refine lv_iload_n hx hb dX11_tally_0 rfl (lv_at hl 1 rfl) ?_
  refine lv_iconst (v := (0 : Int32)) hx hb dX11_tally_1 (by decide) ?_
  refine lv_bipush (v := (7 : Int32)) hx hb dX11_tally_2 (by decide) ?_
  obtain ⟨r_4_0, hc_r_4_0, hf⟩ := of_bnd hf
  refine cl_Si (w2 := (wW_X11_tally G h0 h1 y0_1 y0_2 y0_3 y0_4 y0_6 y0_18 y0_21 y0_22 y0_23 y0_24 y0_25 y0_26 y0_33 y0_34 y0_38 y0_39 y0_40 y0_41 y0_42 y0_43 y0_45 y0_46 y0_47 y0_48 x0_5 x0_7 x0_8 x0_9 x0_10 x0_11 x0_12 x0_13 x0_14 x0_15 x0_16 x0_17 x0_19 x0_20 x0_27 x0_28 x0_29 x0_30 x0_31 x0_32 x0_35 x0_36 x0_37 x0_44 x0_49 x0_50 a1)) (As := [.int b1, .int (0 : Int32), .int (7 : Int32)]) (rest := []) ⟨hx, hb, hml, hown, ht0⟩ (c_X11_isIn l G _ F b1 (0 : Int32) (7 : Int32) _ hc_r_4_0) yk_X11_isIn wd_1321 ⟨rfl, rfl, by decide, by decide⟩ ⟨Nat.le_refl _, Nat.le_refl _⟩ hX hK hP hD hS hA [] [0, 1] [0, 1] rfl rfl (by decide) rfl rfl rfl rfl rfl hl.1 rfl (Nat.le_of_ble_eq_true rfl) dX11_tally_4 (fun H locs hP hD hS => ?_)
  refine lv_if_eq (tgt := 22) hx hb dX11_tally_7 (by decide) (fun c2 => ?_) (fun c2 => ?_)
  · have hf := of_pos hf c2
    refine lv_iconst (v := (-1 : Int32)) hx hb dX11_tally_22 (by decide) ?_
    cases hf
    exact ret_i hx hb hr hlk hK hP hD hS dX11_tally_23
  · have hf := of_neg hf c2
    refine lv_aload_n hx hb dX11_tally_10 rfl (lv_at hl 0 rfl) ?_
    refine va_get (ci := 11) (v := .ref h1) (C := RX11) (T := TX11) (N := 51) hx hb ht0 iX11 hown hK hP 0 rfl rfl 0 (by decide) (ht0 _ wd_1406) (fun _ h9 => h9) rfl dX11_tally_11 ?_
    refine lv_bipush (v := (113 : Int32)) hx hb dX11_tally_14 (by decide) ?_
    refine lv_iload_n hx hb dX11_tally_16 rfl (lv_at hl 1 rfl) ?_
    refine lv_iadd hx hb dX11_tally_17 ?_
    obtain ⟨g3, hf⟩ := of_grd hf
    refine va_iald hx hb hK hP 1 0 rfl rfl g3 dX11_tally_18 ?_
    refine lv_goto (tgt := 23) hx hb dX11_tally_19 (by decide) ?_
    cases hf
    exact ret_i hx hb hr hlk hK hP hD hS dX11_tally_23
theorem yk_X11_tally : ykV yX11_tally RX11 cX11_tally 2 (some .int) 1 := ⟨wd_1941, wd_1942, wd_142, wd_1943, rfl, by decide +kernel, by decide +kernel, by decide +kernel⟩
theorem dX11_swapAll_0 : decode cX11_swapAll 0 = .ok (.iconst 0, 1) := by decide +kernel
theorem dX11_swapAll_1 : decode cX11_swapAll 1 = .ok (.istore_n 1, 1) := by decide +kernel
theorem dX11_swapAll_2 : decode cX11_swapAll 2 = .ok (.iload_n 1, 1) := by decide +kernel
theorem dX11_swapAll_3 : decode cX11_swapAll 3 = .ok (.bipush 121, 2) := by decide +kernel
theorem dX11_swapAll_5 : decode cX11_swapAll 5 = .ok (.if_icmp .ge 51, 3) := by decide +kernel
theorem dX11_swapAll_8 : decode cX11_swapAll 8 = .ok (.aload_n 0, 1) := by decide +kernel
theorem dX11_swapAll_9 : decode cX11_swapAll 9 = .ok (.getfield 82, 3) := by decide +kernel
theorem dX11_swapAll_12 : decode cX11_swapAll 12 = .ok (.bipush 121, 2) := by decide +kernel
theorem dX11_swapAll_14 : decode cX11_swapAll 14 = .ok (.aload_n 0, 1) := by decide +kernel
theorem dX11_swapAll_15 : decode cX11_swapAll 15 = .ok (.getfield 230, 3) := by decide +kernel
theorem dX11_swapAll_18 : decode cX11_swapAll 18 = .ok (.imul, 1) := by decide +kernel
theorem dX11_swapAll_19 : decode cX11_swapAll 19 = .ok (.iload_n 1, 1) := by decide +kernel
theorem dX11_swapAll_20 : decode cX11_swapAll 20 = .ok (.iadd, 1) := by decide +kernel
theorem dX11_swapAll_21 : decode cX11_swapAll 21 = .ok (.iaload, 1) := by decide +kernel
theorem dX11_swapAll_22 : decode cX11_swapAll 22 = .ok (.istore_n 2, 1) := by decide +kernel
theorem dX11_swapAll_23 : decode cX11_swapAll 23 = .ok (.aload_n 0, 1) := by decide +kernel
theorem dX11_swapAll_24 : decode cX11_swapAll 24 = .ok (.getfield 82, 3) := by decide +kernel
theorem dX11_swapAll_27 : decode cX11_swapAll 27 = .ok (.bipush 121, 2) := by decide +kernel
theorem dX11_swapAll_29 : decode cX11_swapAll 29 = .ok (.aload_n 0, 1) := by decide +kernel
theorem dX11_swapAll_30 : decode cX11_swapAll 30 = .ok (.getfield 230, 3) := by decide +kernel
theorem dX11_swapAll_33 : decode cX11_swapAll 33 = .ok (.imul, 1) := by decide +kernel
theorem dX11_swapAll_34 : decode cX11_swapAll 34 = .ok (.iload_n 1, 1) := by decide +kernel
theorem dX11_swapAll_35 : decode cX11_swapAll 35 = .ok (.iadd, 1) := by decide +kernel
theorem dX11_swapAll_36 : decode cX11_swapAll 36 = .ok (.aload_n 0, 1) := by decide +kernel
theorem dX11_swapAll_37 : decode cX11_swapAll 37 = .ok (.getfield 7, 3) := by decide +kernel
theorem dX11_swapAll_40 : decode cX11_swapAll 40 = .ok (.iload_n 1, 1) := by decide +kernel
theorem dX11_swapAll_41 : decode cX11_swapAll 41 = .ok (.iaload, 1) := by decide +kernel
theorem dX11_swapAll_42 : decode cX11_swapAll 42 = .ok (.iastore, 1) := by decide +kernel
theorem dX11_swapAll_43 : decode cX11_swapAll 43 = .ok (.aload_n 0, 1) := by decide +kernel
theorem dX11_swapAll_44 : decode cX11_swapAll 44 = .ok (.getfield 7, 3) := by decide +kernel
theorem dX11_swapAll_47 : decode cX11_swapAll 47 = .ok (.iload_n 1, 1) := by decide +kernel
theorem dX11_swapAll_48 : decode cX11_swapAll 48 = .ok (.iload_n 2, 1) := by decide +kernel
theorem dX11_swapAll_49 : decode cX11_swapAll 49 = .ok (.iastore, 1) := by decide +kernel
theorem dX11_swapAll_50 : decode cX11_swapAll 50 = .ok (.iinc 1 1, 3) := by decide +kernel
theorem dX11_swapAll_53 : decode cX11_swapAll 53 = .ok (.goto (-51), 3) := by decide +kernel
theorem dX11_swapAll_56 : decode cX11_swapAll 56 = .ok (.return_, 1) := by decide +kernel
def wW_X11_swapAll (G : GG) (h0 h1 h2 y0_1 y0_2 y0_3 y0_4 y0_6 y0_18 y0_21 y0_22 y0_23 y0_24 y0_25 y0_26 y0_33 y0_34 y0_38 y0_39 y0_40 y0_41 y0_42 y0_43 y0_45 y0_47 y0_48 : Nat) (x0_5 : Int32) (x0_7 : Int32) (x0_8 : Int32) (x0_9 : Int32) (x0_10 : Int32) (x0_11 : Int32) (x0_12 : Int32) (x0_13 : Int32) (x0_14 : Int32) (x0_15 : Int32) (x0_16 : Int32) (x0_17 : Int32) (x0_19 : Int32) (x0_20 : Int32) (x0_27 : Int32) (x0_28 : Int32) (x0_29 : Int32) (x0_30 : Int32) (x0_31 : Int32) (x0_32 : Int32) (x0_35 : Int32) (x0_36 : Int32) (x0_37 : Int32) (x0_44 : Int32) (x0_49 : Int32) (x0_50 : Int32) (a1 : Nat → Int32) (a2 : Nat → Int32) : va_W := [(h0, .inr (11, [.ref h1, .ref y0_1, .ref y0_2, .ref y0_3, .ref y0_4, .int x0_5, .ref y0_6, .int x0_7, .int x0_8, .int x0_9, .int x0_10, .int x0_11, .int x0_12, .int x0_13, .int x0_14, .int x0_15, .int x0_16, .int x0_17, .ref y0_18, .int x0_19, .int x0_20, .ref y0_21, .ref y0_22, .ref y0_23, .ref y0_24, .ref y0_25, .ref y0_26, .int x0_27, .int x0_28, .int x0_29, .int x0_30, .int x0_31, .int x0_32, .ref y0_33, .ref y0_34, .int x0_35, .int x0_36, .int x0_37, .ref y0_38, .ref y0_39, .ref y0_40, .ref y0_41, .ref y0_42, .ref y0_43, .int x0_44, .ref y0_45, .ref h2, .ref y0_47, .ref y0_48, .int x0_49, .int x0_50])), (h1, .inl (G.2.1, 121, .inl a1)), (h2, .inl (G.2.1, 1573, .inl a2))]
set_option maxHeartbeats 4000000 in
set_option maxRecDepth 100000 in
theorem c_X11_swapAll (l : Launch) (G : GG) (h0 h1 h2 y0_1 y0_2 y0_3 y0_4 y0_6 y0_18 y0_21 y0_22 y0_23 y0_24 y0_25 y0_26 y0_33 y0_34 y0_38 y0_39 y0_40 y0_41 y0_42 y0_43 y0_45 y0_47 y0_48 : Nat) (sz : Nat) (x0_5 : Int32) (x0_7 : Int32) (x0_8 : Int32) (x0_9 : Int32) (x0_10 : Int32) (x0_11 : Int32) (x0_12 : Int32) (x0_13 : Int32) (x0_14 : Int32) (x0_15 : Int32) (x0_16 : Int32) (x0_17 : Int32) (x0_19 : Int32) (x0_20 : Int32) (x0_27 : Int32) (x0_28 : Int32) (x0_29 : Int32) (x0_30 : Int32) (x0_31 : Int32) (x0_32 : Int32) (x0_35 : Int32) (x0_36 : Int32) (x0_37 : Int32) (x0_44 : Int32) (x0_49 : Int32) (x0_50 : Int32) (a1 : Nat → Int32) (a2 : Nat → Int32) (F : Nat)   (e_a1 : Nat → Int32) (e_a2 : Nat → Int32) (hf : p_X11_swapAll F x0_49 a1 a2  = some (e_a1, e_a2)) : Met l yX11_swapAll (.code yX11_swapAll cX11_swapAll 3 none :: gtbl) ({ frames := 0, cells := 0, slots := 0, locals := 0 } : Room) (PcS G [.ref h0] (wW_X11_swapAll G h0 h1 h2 y0_1 y0_2 y0_3 y0_4 y0_6 y0_18 y0_21 y0_22 y0_23 y0_24 y0_25 y0_26 y0_33 y0_34 y0_38 y0_39 y0_40 y0_41 y0_42 y0_43 y0_45 y0_47 y0_48 x0_5 x0_7 x0_8 x0_9 x0_10 x0_11 x0_12 x0_13 x0_14 x0_15 x0_16 x0_17 x0_19 x0_20 x0_27 x0_28 x0_29 x0_30 x0_31 x0_32 x0_35 x0_36 x0_37 x0_44 x0_49 x0_50 a1 a2) sz) (QvS G (va_A (wW_X11_swapAll G h0 h1 h2 y0_1 y0_2 y0_3 y0_4 y0_6 y0_18 y0_21 y0_22 y0_23 y0_24 y0_25 y0_26 y0_33 y0_34 y0_38 y0_39 y0_40 y0_41 y0_42 y0_43 y0_45 y0_47 y0_48 x0_5 x0_7 x0_8 x0_9 x0_10 x0_11 x0_12 x0_13 x0_14 x0_15 x0_16 x0_17 x0_19 x0_20 x0_27 x0_28 x0_29 x0_30 x0_31 x0_32 x0_35 x0_36 x0_37 x0_44 x0_49 x0_50 a1 a2) sz) (wW_X11_swapAll G h0 h1 h2 y0_1 y0_2 y0_3 y0_4 y0_6 y0_18 y0_21 y0_22 y0_23 y0_24 y0_25 y0_26 y0_33 y0_34 y0_38 y0_39 y0_40 y0_41 y0_42 y0_43 y0_45 y0_47 y0_48 x0_5 x0_7 x0_8 x0_9 x0_10 x0_11 x0_12 x0_13 x0_14 x0_15 x0_16 x0_17 x0_19 x0_20 x0_27 x0_28 x0_29 x0_30 x0_31 x0_32 x0_35 x0_36 x0_37 x0_44 x0_49 x0_50 e_a1 e_a2)) 0 0 (va_A (wW_X11_swapAll G h0 h1 h2 y0_1 y0_2 y0_3 y0_4 y0_6 y0_18 y0_21 y0_22 y0_23 y0_24 y0_25 y0_26 y0_33 y0_34 y0_38 y0_39 y0_40 y0_41 y0_42 y0_43 y0_45 y0_47 y0_48 x0_5 x0_7 x0_8 x0_9 x0_10 x0_11 x0_12 x0_13 x0_14 x0_15 x0_16 x0_17 x0_19 x0_20 x0_27 x0_28 x0_29 x0_30 x0_31 x0_32 x0_35 x0_36 x0_37 x0_44 x0_49 x0_50 a1 a2) sz) := by
  refine met_start (by decide) (Nat.le_of_ble_eq_true rfl) ?_
  intro p e s m below meth c hC hr hlk hnm hK hP hD hA hS hX ls hl
  obtain ⟨hx, hb, hml, hown, ht0⟩ := hC
  have hown : s.vm.findClass RX11 = some m.cls := hown
  generalize va_A (wW_X11_swapAll G h0 h1 h2 y0_1 y0_2 y0_3 y0_4 y0_6 y0_18 y0_21 y0_22 y0_23 y0_24 y0_25 y0_26 y0_33 y0_34 y0_38 y0_39 y0_40 y0_41 y0_42 y0_43 y0_45 y0_47 y0_48 x0_5 x0_7 x0_8 x0_9 x0_10 x0_11 x0_12 x0_13 x0_14 x0_15 x0_16 x0_17 x0_19 x0_20 x0_27 x0_28 x0_29 x0_30 x0_31 x0_32 x0_35 x0_36 x0_37 x0_44 x0_49 x0_50 a1 a2) sz = A at hD hA hS hX ⊢
  have hl : lv_has ls 3 [(0, .ref h0)] := hl
  have hf : p_X11_swapAll F x0_49 a1 a2  = some (e_a1, e_a2) := hf
  have kL2 : ∀ (n2 : Nat) (u2_1 : Int32) (a1_2 : Nat → Int32) (a2_2 : Nat → Int32), p_X11_swapAll_L2 F x0_49 n2 u2_1 a1_2 a2_2 = some (e_a1, e_a2) → ∀ (H : Heap) (locs : List Loc), va_P G.1 vwCl (wW_X11_swapAll G h0 h1 h2 y0_1 y0_2 y0_3 y0_4 y0_6 y0_18 y0_21 y0_22 y0_23 y0_24 y0_25 y0_26 y0_33 y0_34 y0_38 y0_39 y0_40 y0_41 y0_42 y0_43 y0_45 y0_47 y0_48 x0_5 x0_7 x0_8 x0_9 x0_10 x0_11 x0_12 x0_13 x0_14 x0_15 x0_16 x0_17 x0_19 x0_20 x0_27 x0_28 x0_29 x0_30 x0_31 x0_32 x0_35 x0_36 x0_37 x0_44 x0_49 x0_50 a1_2 a2_2) H → va_D A (wW_X11_swapAll G h0 h1 h2 y0_1 y0_2 y0_3 y0_4 y0_6 y0_18 y0_21 y0_22 y0_23 y0_24 y0_25 y0_26 y0_33 y0_34 y0_38 y0_39 y0_40 y0_41 y0_42 y0_43 y0_45 y0_47 y0_48 x0_5 x0_7 x0_8 x0_9 x0_10 x0_11 x0_12 x0_13 x0_14 x0_15 x0_16 x0_17 x0_19 x0_20 x0_27 x0_28 x0_29 x0_30 x0_31 x0_32 x0_35 x0_36 x0_37 x0_44 x0_49 x0_50 a1_2 a2_2) → va_S A s.heap H locs → ∀ ls : Array Slot, lv_has ls 3 [(0, .ref h0), (1, .int u2_1)] → W p l e ({ frames := 0, cells := 0, slots := 0, locals := 0 } : Room) s m (List.toArray [.ref h0]) below meth c H locs 0 0 (MQ below (QvS G A (wW_X11_swapAll G h0 h1 h2 y0_1 y0_2 y0_3 y0_4 y0_6 y0_18 y0_21 y0_22 y0_23 y0_24 y0_25 y0_26 y0_33 y0_34 y0_38 y0_39 y0_40 y0_41 y0_42 y0_43 y0_45 y0_47 y0_48 x0_5 x0_7 x0_8 x0_9 x0_10 x0_11 x0_12 x0_13 x0_14 x0_15 x0_16 x0_17 x0_19 x0_20 x0_27 x0_28 x0_29 x0_30 x0_31 x0_32 x0_35 x0_36 x0_37 x0_44 x0_49 x0_50 e_a1 e_a2)) (List.toArray [.ref h0]) s 0 0 A) (F0 m 2 ls []) := by
    intro n2
    induction n2 with
    | zero =>
      intro u2_1 a1_2 a2_2 hf
      cases hf
    | succ n2 ih2 =>
      intro u2_1 a1_2 a2_2 hf H locs hP hD hS ls hl
      have hf : p_X11_swapAll_L2b F x0_49 (p_X11_swapAll_L2 F x0_49 n2) u2_1 a1_2 a2_2 = some (e_a1, e_a2) := hf
      refine lv_iload_n hx hb dX11_swapAll_2 rfl (lv_at hl 1 rfl) ?_
      refine lv_bipush (v := (121 : Int32)) hx hb dX11_swapAll_3 (by decide) ?_
      refine lv_icmp_ge (tgt := 56) hx hb dX11_swapAll_5 (by decide) (fun c1 => ?_) (fun c1 => ?_)
      · have hf := of_pos hf c1
        cases hf
        exact ret_v hx hb hr hlk hK hP hD hS dX11_swapAll_56
      · have hf := of_neg hf c1
        refine lv_aload_n hx hb dX11_swapAll_8 rfl (lv_at hl 0 rfl) ?_
        refine va_get (ci := 11) (v := .ref h2) (C := RX11) (T := TX11) (N := 51) hx hb ht0 iX11 hown hK hP 0 rfl rfl 46 (by decide) (ht0 _ wd_1452) (fun _ h9 => h9) rfl dX11_swapAll_9 ?_
        refine lv_bipush (v := (121 : Int32)) hx hb dX11_swapAll_12 (by decide) ?_
        refine lv_aload_n hx hb dX11_swapAll_14 rfl (lv_at hl 0 rfl) ?_
        refine va_get (ci := 11) (v := .int x0_49) (C := RX11) (T := TX11) (N := 51) hx hb ht0 iX11 hown hK hP 0 rfl rfl 49 (by decide) (ht0 _ wd_1455) (fun _ h9 => h9) rfl dX11_swapAll_15 ?_
        refine lv_imul hx hb dX11_swapAll_18 ?_
        refine lv_iload_n hx hb dX11_swapAll_19 rfl (lv_at hl 1 rfl) ?_
        refine lv_iadd hx hb dX11_swapAll_20 ?_
        obtain ⟨g2, hf⟩ := of_grd hf
        refine va_iald hx hb hK hP 2 0 rfl rfl g2 dX11_swapAll_21 ?_
        refine lv_topi (fun z3 ez3 => ?_)
        have hf := of_jlet hf ez3
        refine lv_istore_n (lv' := [(2, .int z3), (0, .ref h0), (1, .int u2_1)]) hx hb dX11_swapAll_22 rfl hl (by decide) rfl (fun ls hl => ?_)
        refine lv_aload_n hx hb dX11_swapAll_23 rfl (lv_at hl 1 rfl) ?_
        refine va_get (ci := 11) (v := .ref h2) (C := RX11) (T := TX11) (N := 51) hx hb ht0 iX11 hown hK hP 0 rfl rfl 46 (by decide) (ht0 _ wd_1452) (fun _ h9 => h9) rfl dX11_swapAll_24 ?_
        refine lv_bipush (v := (121 : Int32)) hx hb dX11_swapAll_27 (by decide) ?_
        refine lv_aload_n hx hb dX11_swapAll_29 rfl (lv_at hl 1 rfl) ?_
        refine va_get (ci := 11) (v := .int x0_49) (C := RX11) (T := TX11) (N := 51) hx hb ht0 iX11 hown hK hP 0 rfl rfl 49 (by decide) (ht0 _ wd_1455) (fun _ h9 => h9) rfl dX11_swapAll_30 ?_
        refine lv_imul hx hb dX11_swapAll_33 ?_
        refine lv_iload_n hx hb dX11_swapAll_34 rfl (lv_at hl 2 rfl) ?_
        refine lv_iadd hx hb dX11_swapAll_35 ?_
        refine lv_aload_n hx hb dX11_swapAll_36 rfl (lv_at hl 1 rfl) ?_
        refine va_get (ci := 11) (v := .ref h1) (C := RX11) (T := TX11) (N := 51) hx hb ht0 iX11 hown hK hP 0 rfl rfl 0 (by decide) (ht0 _ wd_1406) (fun _ h9 => h9) rfl dX11_swapAll_37 ?_
        refine lv_iload_n hx hb dX11_swapAll_40 rfl (lv_at hl 2 rfl) ?_
        obtain ⟨g4, hf⟩ := of_grd hf
        refine va_iald hx hb hK hP 1 0 rfl rfl g4 dX11_swapAll_41 ?_
        obtain ⟨g5, hf⟩ := of_grd hf
        refine va_iast hx hb hK hP hD hS 2 0 rfl rfl g5 dX11_swapAll_42 (fun H locs hP hD hS => ?_)
        have hP : va_P G.1 vwCl (wW_X11_swapAll G h0 h1 h2 y0_1 y0_2 y0_3 y0_4 y0_6 y0_18 y0_21 y0_22 y0_23 y0_24 y0_25 y0_26 y0_33 y0_34 y0_38 y0_39 y0_40 y0_41 y0_42 y0_43 y0_45 y0_47 y0_48 x0_5 x0_7 x0_8 x0_9 x0_10 x0_11 x0_12 x0_13 x0_14 x0_15 x0_16 x0_17 x0_19 x0_20 x0_27 x0_28 x0_29 x0_30 x0_31 x0_32 x0_35 x0_36 x0_37 x0_44 x0_49 x0_50 a1_2 (upd a2_2 (((121 : Int32) * x0_49) + u2_1).toNatClampNeg (a1_2 u2_1.toNatClampNeg))) H := hP
        have hD : va_D A (wW_X11_swapAll G h0 h1 h2 y0_1 y0_2 y0_3 y0_4 y0_6 y0_18 y0_21 y0_22 y0_23 y0_24 y0_25 y0_26 y0_33 y0_34 y0_38 y0_39 y0_40 y0_41 y0_42 y0_43 y0_45 y0_47 y0_48 x0_5 x0_7 x0_8 x0_9 x0_10 x0_11 x0_12 x0_13 x0_14 x0_15 x0_16 x0_17 x0_19 x0_20 x0_27 x0_28 x0_29 x0_30 x0_31 x0_32 x0_35 x0_36 x0_37 x0_44 x0_49 x0_50 a1_2 (upd a2_2 (((121 : Int32) * x0_49) + u2_1).toNatClampNeg (a1_2 u2_1.toNatClampNeg))) := hD
        refine lv_aload_n hx hb dX11_swapAll_43 rfl (lv_at hl 1 rfl) ?_
        refine va_get (ci := 11) (v := .ref h1) (C := RX11) (T := TX11) (N := 51) hx hb ht0 iX11 hown hK hP 0 rfl rfl 0 (by decide) (ht0 _ wd_1406) (fun _ h9 => h9) rfl dX11_swapAll_44 ?_
        refine lv_iload_n hx hb dX11_swapAll_47 rfl (lv_at hl 2 rfl) ?_
        refine lv_iload_n hx hb dX11_swapAll_48 rfl (lv_at hl 0 rfl) ?_
        obtain ⟨g6, hf⟩ := of_grd hf
        refine va_iast hx hb hK hP hD hS 1 0 rfl rfl g6 dX11_swapAll_49 (fun H locs hP hD hS => ?_)
        have hP : va_P G.1 vwCl (wW_X11_swapAll G h0 h1 h2 y0_1 y0_2 y0_3 y0_4 y0_6 y0_18 y0_21 y0_22 y0_23 y0_24 y0_25 y0_26 y0_33 y0_34 y0_38 y0_39 y0_40 y0_41 y0_42 y0_43 y0_45 y0_47 y0_48 x0_5 x0_7 x0_8 x0_9 x0_10 x0_11 x0_12 x0_13 x0_14 x0_15 x0_16 x0_17 x0_19 x0_20 x0_27 x0_28 x0_29 x0_30 x0_31 x0_32 x0_35 x0_36 x0_37 x0_44 x0_49 x0_50 (upd a1_2 u2_1.toNatClampNeg z3) (upd a2_2 (((121 : Int32) * x0_49) + u2_1).toNatClampNeg (a1_2 u2_1.toNatClampNeg))) H := hP
        have hD : va_D A (wW_X11_swapAll G h0 h1 h2 y0_1 y0_2 y0_3 y0_4 y0_6 y0_18 y0_21 y0_22 y0_23 y0_24 y0_25 y0_26 y0_33 y0_34 y0_38 y0_39 y0_40 y0_41 y0_42 y0_43 y0_45 y0_47 y0_48 x0_5 x0_7 x0_8 x0_9 x0_10 x0_11 x0_12 x0_13 x0_14 x0_15 x0_16 x0_17 x0_19 x0_20 x0_27 x0_28 x0_29 x0_30 x0_31 x0_32 x0_35 x0_36 x0_37 x0_44 x0_49 x0_50 (upd a1_2 u2_1.toNatClampNeg z3) (upd a2_2 (((121 : Int32) * x0_49) + u2_1).toNatClampNeg (a1_2 u2_1.toNatClampNeg))) := hD
        refine lv_iinc (v := u2_1 + (1 : Int32)) (lv' := [(1, .int (u2_1 + (1 : Int32))), (2, .int z3), (0, .ref h0)]) hx hb dX11_swapAll_50 hl (k := 2) rfl (by rfl) (by decide) rfl (fun ls hl => ?_)
        refine lv_goto (tgt := 2) hx hb dX11_swapAll_53 (by decide) ?_
        exact ih2 _ _ _ hf _ _ hP hD hS _ (lv_sub hl [2, 0] rfl)
  refine lv_iconst (v := (0 : Int32)) hx hb dX11_swapAll_0 (by decide) ?_
  refine lv_istore_n (lv' := [(1, .int (0 : Int32)), (0, .ref h0)]) hx hb dX11_swapAll_1 rfl hl (by decide) rfl (fun ls hl => ?_)
  exact kL2 _ _ _ _ hf _ _ hP hD hS _ (lv_sub hl [1, 0] rfl)
theorem yk_X11_swapAll : ykV yX11_swapAll RX11 cX11_swapAll 3 none 0 := ⟨wd_1950, wd_123, wd_142, wd_1951, rfl, by decide +kernel, by decide +kernel, by decide +kernel⟩
theorem dX11_undo_0 : decode cX11_undo 0 = .ok (.aload_n 0, 1) := by decide +kernel
theorem dX11_undo_1 : decode cX11_undo 1 = .ok (.getfield 230, 3) := by decide +kernel
theorem dX11_undo_4 : decode cX11_undo 4 = .ok (.ifCond .ne 5, 3) := by decide +kernel
theorem dX11_undo_7 : decode cX11_undo 7 = .ok (.iconst 0, 1) := by decide +kernel
theorem dX11_undo_8 : decode cX11_undo 8 = .ok (.ireturn, 1) := by decide +kernel
theorem dX11_undo_9 : decode cX11_undo 9 = .ok (.aload_n 0, 1) := by decide +kernel
theorem dX11_undo_10 : decode cX11_undo 10 = .ok (.dup, 1) := by decide +kernel
theorem dX11_undo_11 : decode cX11_undo 11 = .ok (.getfield 230, 3) := by decide +kernel
theorem dX11_undo_14 : decode cX11_undo 14 = .ok (.iconst 1, 1) := by decide +kernel
theorem dX11_undo_15 : decode cX11_undo 15 = .ok (.isub, 1) := by decide +kernel
theorem dX11_undo_16 : decode cX11_undo 16 = .ok (.putfield 230, 3) := by decide +kernel
theorem dX11_undo_19 : decode cX11_undo 19 = .ok (.aload_n 0, 1) := by decide +kernel
theorem dX11_undo_20 : decode cX11_undo 20 = .ok (.dup, 1) := by decide +kernel
theorem dX11_undo_21 : decode cX11_undo 21 = .ok (.getfield 233, 3) := by decide +kernel
theorem dX11_undo_24 : decode cX11_undo 24 = .ok (.iconst 1, 1) := by decide +kernel
theorem dX11_undo_25 : decode cX11_undo 25 = .ok (.iadd, 1) := by decide +kernel
theorem dX11_undo_26 : decode cX11_undo 26 = .ok (.putfield 233, 3) := by decide +kernel
theorem dX11_undo_29 : decode cX11_undo 29 = .ok (.aload_n 0, 1) := by decide +kernel
theorem dX11_undo_30 : decode cX11_undo 30 = .ok (.invokevirtual 463, 3) := by decide +kernel
theorem dX11_undo_33 : decode cX11_undo 33 = .ok (.iconst 1, 1) := by decide +kernel
theorem dX11_undo_34 : decode cX11_undo 34 = .ok (.ireturn, 1) := by decide +kernel
def wW_X11_undo (G : GG) (h0 h1 h2 y0_1 y0_2 y0_3 y0_4 y0_6 y0_18 y0_21 y0_22 y0_23 y0_24 y0_25 y0_26 y0_33 y0_34 y0_38 y0_39 y0_40 y0_41 y0_42 y0_43 y0_45 y0_47 y0_48 : Nat) (x0_5 : Int32) (x0_7 : Int32) (x0_8 : Int32) (x0_9 : Int32) (x0_10 : Int32) (x0_11 : Int32) (x0_12 : Int32) (x0_13 : Int32) (x0_14 : Int32) (x0_15 : Int32) (x0_16 : Int32) (x0_17 : Int32) (x0_19 : Int32) (x0_20 : Int32) (x0_27 : Int32) (x0_28 : Int32) (x0_29 : Int32) (x0_30 : Int32) (x0_31 : Int32) (x0_32 : Int32) (x0_35 : Int32) (x0_36 : Int32) (x0_37 : Int32) (x0_44 : Int32) (x0_49 : Int32) (x0_50 : Int32) (a1 : Nat → Int32) (a2 : Nat → Int32) : va_W := [(h0, .inr (11, [.ref h1, .ref y0_1, .ref y0_2, .ref y0_3, .ref y0_4, .int x0_5, .ref y0_6, .int x0_7, .int x0_8, .int x0_9, .int x0_10, .int x0_11, .int x0_12, .int x0_13, .int x0_14, .int x0_15, .int x0_16, .int x0_17, .ref y0_18, .int x0_19, .int x0_20, .ref y0_21, .ref y0_22, .ref y0_23, .ref y0_24, .ref y0_25, .ref y0_26, .int x0_27, .int x0_28, .int x0_29, .int x0_30, .int x0_31, .int x0_32, .ref y0_33, .ref y0_34, .int x0_35, .int x0_36, .int x0_37, .ref y0_38, .ref y0_39, .ref y0_40, .ref y0_41, .ref y0_42, .ref y0_43, .int x0_44, .ref y0_45, .ref h2, .ref y0_47, .ref y0_48, .int x0_49, .int x0_50])), (h1, .inl (G.2.1, 121, .inl a1)), (h2, .inl (G.2.1, 1573, .inl a2))]
set_option maxHeartbeats 4000000 in
set_option maxRecDepth 100000 in
theorem c_X11_undo (l : Launch) (G : GG) (h0 h1 h2 y0_1 y0_2 y0_3 y0_4 y0_6 y0_18 y0_21 y0_22 y0_23 y0_24 y0_25 y0_26 y0_33 y0_34 y0_38 y0_39 y0_40 y0_41 y0_42 y0_43 y0_45 y0_47 y0_48 : Nat) (sz : Nat) (x0_5 : Int32) (x0_7 : Int32) (x0_8 : Int32) (x0_9 : Int32) (x0_10 : Int32) (x0_11 : Int32) (x0_12 : Int32) (x0_13 : Int32) (x0_14 : Int32) (x0_15 : Int32) (x0_16 : Int32) (x0_17 : Int32) (x0_19 : Int32) (x0_20 : Int32) (x0_27 : Int32) (x0_28 : Int32) (x0_29 : Int32) (x0_30 : Int32) (x0_31 : Int32) (x0_32 : Int32) (x0_35 : Int32) (x0_36 : Int32) (x0_37 : Int32) (x0_44 : Int32) (x0_49 : Int32) (x0_50 : Int32) (a1 : Nat → Int32) (a2 : Nat → Int32) (F : Nat)   (r0 : Int32) (e_x0_49 : Int32) (e_x0_50 : Int32) (e_a1 : Nat → Int32) (e_a2 : Nat → Int32) (hf : p_X11_undo F x0_49 x0_50 a1 a2  = some (r0, e_x0_49, e_x0_50, e_a1, e_a2)) : Met l yX11_undo (.code yX11_undo cX11_undo 1 (some .boolean) :: gtbl) ({ frames := 1, cells := 0, slots := 0, locals := 22 } : Room) (PcS G [.ref h0] (wW_X11_undo G h0 h1 h2 y0_1 y0_2 y0_3 y0_4 y0_6 y0_18 y0_21 y0_22 y0_23 y0_24 y0_25 y0_26 y0_33 y0_34 y0_38 y0_39 y0_40 y0_41 y0_42 y0_43 y0_45 y0_47 y0_48 x0_5 x0_7 x0_8 x0_9 x0_10 x0_11 x0_12 x0_13 x0_14 x0_15 x0_16 x0_17 x0_19 x0_20 x0_27 x0_28 x0_29 x0_30 x0_31 x0_32 x0_35 x0_36 x0_37 x0_44 x0_49 x0_50 a1 a2) sz) (QiS G r0 (va_A (wW_X11_undo G h0 h1 h2 y0_1 y0_2 y0_3 y0_4 y0_6 y0_18 y0_21 y0_22 y0_23 y0_24 y0_25 y0_26 y0_33 y0_34 y0_38 y0_39 y0_40 y0_41 y0_42 y0_43 y0_45 y0_47 y0_48 x0_5 x0_7 x0_8 x0_9 x0_10 x0_11 x0_12 x0_13 x0_14 x0_15 x0_16 x0_17 x0_19 x0_20 x0_27 x0_28 x0_29 x0_30 x0_31 x0_32 x0_35 x0_36 x0_37 x0_44 x0_49 x0_50 a1 a2) sz) (wW_X11_undo G h0 h1 h2 y0_1 y0_2 y0_3 y0_4 y0_6 y0_18 y0_21 y0_22 y0_23 y0_24 y0_25 y0_26 y0_33 y0_34 y0_38 y0_39 y0_40 y0_41 y0_42 y0_43 y0_45 y0_47 y0_48 x0_5 x0_7 x0_8 x0_9 x0_10 x0_11 x0_12 x0_13 x0_14 x0_15 x0_16 x0_17 x0_19 x0_20 x0_27 x0_28 x0_29 x0_30 x0_31 x0_32 x0_35 x0_36 x0_37 x0_44 e_x0_49 e_x0_50 e_a1 e_a2)) 0 0 (va_A (wW_X11_undo G h0 h1 h2 y0_1 y0_2 y0_3 y0_4 y0_6 y0_18 y0_21 y0_22 y0_23 y0_24 y0_25 y0_26 y0_33 y0_34 y0_38 y0_39 y0_40 y0_41 y0_42 y0_43 y0_45 y0_47 y0_48 x0_5 x0_7 x0_8 x0_9 x0_10 x0_11 x0_12 x0_13 x0_14 x0_15 x0_16 x0_17 x0_19 x0_20 x0_27 x0_28 x0_29 x0_30 x0_31 x0_32 x0_35 x0_36 x0_37 x0_44 x0_49 x0_50 a1 a2) sz) := by
  refine met_start (by decide) (Nat.le_of_ble_eq_true rfl) ?_
  intro p e s m below meth c hC hr hlk hnm hK hP hD hA hS hX ls hl
  obtain ⟨hx, hb, hml, hown, ht0⟩ := hC
  have hown : s.vm.findClass RX11 = some m.cls := hown
  generalize va_A (wW_X11_undo G h0 h1 h2 y0_1 y0_2 y0_3 y0_4 y0_6 y0_18 y0_21 y0_22 y0_23 y0_24 y0_25 y0_26 y0_33 y0_34 y0_38 y0_39 y0_40 y0_41 y0_42 y0_43 y0_45 y0_47 y0_48 x0_5 x0_7 x0_8 x0_9 x0_10 x0_11 x0_12 x0_13 x0_14 x0_15 x0_16 x0_17 x0_19 x0_20 x0_27 x0_28 x0_29 x0_30 x0_31 x0_32 x0_35 x0_36 x0_37 x0_44 x0_49 x0_50 a1 a2) sz = A at hD hA hS hX ⊢
  have hl : lv_has ls 1 [(0, .ref h0)] := hl
  have hf : p_X11_undo F x0_49 x0_50 a1 a2  = some (r0, e_x0_49, e_x0_50, e_a1, e_a2) := hf
  refine lv_aload_n hx hb dX11_undo_0 rfl (lv_at hl 0 rfl) ?_
  refine va_get (ci := 11) (v := .int x0_49) (C := RX11) (T := TX11) (N := 51) hx hb ht0 iX11 hown hK hP 0 rfl rfl 49 (by decide) (ht0 _ wd_1455) (fun _ h9 => h9) rfl dX11_undo_1 ?_
  refine lv_if_ne (tgt := 9) hx hb dX11_undo_4 (by decide) (fun c1 => ?_) (fun c1 => ?_)
  · have hf := of_neg hf c1
    refine lv_aload_n hx hb dX11_undo_9 rfl (lv_at hl 0 rfl) ?_
    refine lv_dup hx hb dX11_undo_10 rfl ?_
    refine va_get (ci := 11) (v := .int x0_49) (C := RX11) (T := TX11) (N := 51) hx hb ht0 iX11 hown hK hP 0 rfl rfl 49 (by decide) (ht0 _ wd_1455) (fun _ h9 => h9) rfl dX11_undo_11 ?_
    refine lv_iconst (v := (1 : Int32)) hx hb dX11_undo_14 (by decide) ?_
    refine lv_isub hx hb dX11_undo_15 ?_
    refine va_put (ci := 11) (v := .int (x0_49 - (1 : Int32))) (ty := .int) (C := RX11) (T := TX11) (N := 51) hx hb ht0 iX11 tyX11 tyX11_ok nmX11 hown hK hP hD hS 0 rfl rfl 49 (by decide) (ht0 _ wd_1455) (fun _ h9 => h9) rfl rfl rfl rfl (Nat.le_of_ble_eq_true rfl) dX11_undo_16 (fun H locs hP hD hS => ?_)
    have hP : va_P G.1 vwCl (wW_X11_undo G h0 h1 h2 y0_1 y0_2 y0_3 y0_4 y0_6 y0_18 y0_21 y0_22 y0_23 y0_24 y0_25 y0_26 y0_33 y0_34 y0_38 y0_39 y0_40 y0_41 y0_42 y0_43 y0_45 y0_47 y0_48 x0_5 x0_7 x0_8 x0_9 x0_10 x0_11 x0_12 x0_13 x0_14 x0_15 x0_16 x0_17 x0_19 x0_20 x0_27 x0_28 x0_29 x0_30 x0_31 x0_32 x0_35 x0_36 x0_37 x0_44 (x0_49 - (1 : Int32)) x0_50 a1 a2) H := hP
    have hD : va_D A (wW_X11_undo G h0 h1 h2 y0_1 y0_2 y0_3 y0_4 y0_6 y0_18 y0_21 y0_22 y0_23 y0_24 y0_25 y0_26 y0_33 y0_34 y0_38 y0_39 y0_40 y0_41 y0_42 y0_43 y0_45 y0_47 y0_48 x0_5 x0_7 x0_8 x0_9 x0_10 x0_11 x0_12 x0_13 x0_14 x0_15 x0_16 x0_17 x0_19 x0_20 x0_27 x0_28 x0_29 x0_30 x0_31 x0_32 x0_35 x0_36 x0_37 x0_44 (x0_49 - (1 : Int32)) x0_50 a1 a2) := hD
    refine lv_aload_n hx hb dX11_undo_19 rfl (lv_at hl 0 rfl) ?_
    refine lv_dup hx hb dX11_undo_20 rfl ?_
    refine va_get (ci := 11) (v := .int x0_50) (C := RX11) (T := TX11) (N := 51) hx hb ht0 iX11 hown hK hP 0 rfl rfl 50 (by decide) (ht0 _ wd_1456) (fun _ h9 => h9) rfl dX11_undo_21 ?_
    refine lv_iconst (v := (1 : Int32)) hx hb dX11_undo_24 (by decide) ?_
    refine lv_iadd hx hb dX11_undo_25 ?_
    refine va_put (ci := 11) (v := .int (x0_50 + (1 : Int32))) (ty := .int) (C := RX11) (T := TX11) (N := 51) hx hb ht0 iX11 tyX11 tyX11_ok nmX11 hown hK hP hD hS 0 rfl rfl 50 (by decide) (ht0 _ wd_1456) (fun _ h9 => h9) rfl rfl rfl rfl (Nat.le_of_ble_eq_true rfl) dX11_undo_26 (fun H locs hP hD hS => ?_)
    have hP : va_P G.1 vwCl (wW_X11_undo G h0 h1 h2 y0_1 y0_2 y0_3 y0_4 y0_6 y0_18 y0_21 y0_22 y0_23 y0_24 y0_25 y0_26 y0_33 y0_34 y0_38 y0_39 y0_40 y0_41 y0_42 y0_43 y0_45 y0_47 y0_48 x0_5 x0_7 x0_8 x0_9 x0_10 x0_11 x0_12 x0_13 x0_14 x0_15 x0_16 x0_17 x0_19 x0_20 x0_27 x0_28 x0_29 x0_30 x0_31 x0_32 x0_35 x0_36 x0_37 x0_44 (x0_49 - (1 : Int32)) (x0_50 + (1 : Int32)) a1 a2) H := hP
    have hD : va_D A (wW_X11_undo G h0 h1 h2 y0_1 y0_2 y0_3 y0_4 y0_6 y0_18 y0_21 y0_22 y0_23 y0_24 y0_25 y0_26 y0_33 y0_34 y0_38 y0_39 y0_40 y0_41 y0_42 y0_43 y0_45 y0_47 y0_48 x0_5 x0_7 x0_8 x0_9 x0_10 x0_11 x0_12 x0_13 x0_14 x0_15 x0_16 x0_17 x0_19 x0_20 x0_27 x0_28 x0_29 x0_30 x0_31 x0_32 x0_35 x0_36 x0_37 x0_44 (x0_49 - (1 : Int32)) (x0_50 + (1 : Int32)) a1 a2) := hD
    refine lv_aload_n hx hb dX11_undo_29 rfl (lv_at hl 0 rfl) ?_
    obtain ⟨⟨r_30_1_a1, r_30_1_a2⟩, hc_r_30_1, hf⟩ := of_bnd hf
    refine cl_Vv (w2 := (wW_X11_undo G h0 h1 h2 y0_1 y0_2 y0_3 y0_4 y0_6 y0_18 y0_21 y0_22 y0_23 y0_24 y0_25 y0_26 y0_33 y0_34 y0_38 y0_39 y0_40 y0_41 y0_42 y0_43 y0_45 y0_47 y0_48 x0_5 x0_7 x0_8 x0_9 x0_10 x0_11 x0_12 x0_13 x0_14 x0_15 x0_16 x0_17 x0_19 x0_20 x0_27 x0_28 x0_29 x0_30 x0_31 x0_32 x0_35 x0_36 x0_37 x0_44 (x0_49 - (1 : Int32)) (x0_50 + (1 : Int32)) r_30_1_a1 r_30_1_a2)) (As := []) (rest := []) ⟨hx, hb, hml, hown, ht0⟩ (c_X11_swapAll l G h0 h1 h2 y0_1 y0_2 y0_3 y0_4 y0_6 y0_18 y0_21 y0_22 y0_23 y0_24 y0_25 y0_26 y0_33 y0_34 y0_38 y0_39 y0_40 y0_41 y0_42 y0_43 y0_45 y0_47 y0_48 _ x0_5 x0_7 x0_8 x0_9 x0_10 x0_11 x0_12 x0_13 x0_14 x0_15 x0_16 x0_17 x0_19 x0_20 x0_27 x0_28 x0_29 x0_30 x0_31 x0_32 x0_35 x0_36 x0_37 x0_44 (x0_49 - (1 : Int32)) (x0_50 + (1 : Int32)) a1 a2 F _ _ hc_r_30_1) yk_X11_swapAll wd_1948 ⟨rfl, rfl, by decide, by decide⟩ ⟨Nat.le_refl _, Nat.le_refl _⟩ hX hK hP hD hS hA [0, 1, 2] [] [0, 1, 2] (va_recv hK hP (ci := 11) (q0 := 0) rfl rfl) rfl rfl (by decide) rfl rfl rfl rfl rfl hl.1 rfl (Nat.le_of_ble_eq_true rfl) dX11_undo_30 (fun H locs hP hD hS => ?_)
    refine lv_iconst (v := (1 : Int32)) hx hb dX11_undo_33 (by decide) ?_
    cases hf
    exact ret_z hx hb hr hlk hK hP hD hS (by decide) dX11_undo_34
  · have hf := of_pos hf c1
    refine lv_iconst (v := (0 : Int32)) hx hb dX11_undo_7 (by decide) ?_
    cases hf
    exact ret_z hx hb hr hlk hK hP hD hS (by decide) dX11_undo_8
theorem yk_X11_undo : ykV yX11_undo RX11 cX11_undo 1 (some .boolean) 0 := ⟨wd_1945, wd_1946, wd_142, wd_1947, rfl, by decide +kernel, by decide +kernel, by decide +kernel⟩
theorem dX11_redo_0 : decode cX11_redo 0 = .ok (.aload_n 0, 1) := by decide +kernel
theorem dX11_redo_1 : decode cX11_redo 1 = .ok (.getfield 233, 3) := by decide +kernel
theorem dX11_redo_4 : decode cX11_redo 4 = .ok (.ifCond .ne 5, 3) := by decide +kernel
theorem dX11_redo_7 : decode cX11_redo 7 = .ok (.iconst 0, 1) := by decide +kernel
theorem dX11_redo_8 : decode cX11_redo 8 = .ok (.ireturn, 1) := by decide +kernel
theorem dX11_redo_9 : decode cX11_redo 9 = .ok (.aload_n 0, 1) := by decide +kernel
theorem dX11_redo_10 : decode cX11_redo 10 = .ok (.invokevirtual 463, 3) := by decide +kernel
theorem dX11_redo_13 : decode cX11_redo 13 = .ok (.aload_n 0, 1) := by decide +kernel
theorem dX11_redo_14 : decode cX11_redo 14 = .ok (.dup, 1) := by decide +kernel
theorem dX11_redo_15 : decode cX11_redo 15 = .ok (.getfield 230, 3) := by decide +kernel
theorem dX11_redo_18 : decode cX11_redo 18 = .ok (.iconst 1, 1) := by decide +kernel
theorem dX11_redo_19 : decode cX11_redo 19 = .ok (.iadd, 1) := by decide +kernel
theorem dX11_redo_20 : decode cX11_redo 20 = .ok (.putfield 230, 3) := by decide +kernel
theorem dX11_redo_23 : decode cX11_redo 23 = .ok (.aload_n 0, 1) := by decide +kernel
theorem dX11_redo_24 : decode cX11_redo 24 = .ok (.dup, 1) := by decide +kernel
theorem dX11_redo_25 : decode cX11_redo 25 = .ok (.getfield 233, 3) := by decide +kernel
theorem dX11_redo_28 : decode cX11_redo 28 = .ok (.iconst 1, 1) := by decide +kernel
theorem dX11_redo_29 : decode cX11_redo 29 = .ok (.isub, 1) := by decide +kernel
theorem dX11_redo_30 : decode cX11_redo 30 = .ok (.putfield 233, 3) := by decide +kernel
theorem dX11_redo_33 : decode cX11_redo 33 = .ok (.iconst 1, 1) := by decide +kernel
theorem dX11_redo_34 : decode cX11_redo 34 = .ok (.ireturn, 1) := by decide +kernel
def wW_X11_redo (G : GG) (h0 h1 h2 y0_1 y0_2 y0_3 y0_4 y0_6 y0_18 y0_21 y0_22 y0_23 y0_24 y0_25 y0_26 y0_33 y0_34 y0_38 y0_39 y0_40 y0_41 y0_42 y0_43 y0_45 y0_47 y0_48 : Nat) (x0_5 : Int32) (x0_7 : Int32) (x0_8 : Int32) (x0_9 : Int32) (x0_10 : Int32) (x0_11 : Int32) (x0_12 : Int32) (x0_13 : Int32) (x0_14 : Int32) (x0_15 : Int32) (x0_16 : Int32) (x0_17 : Int32) (x0_19 : Int32) (x0_20 : Int32) (x0_27 : Int32) (x0_28 : Int32) (x0_29 : Int32) (x0_30 : Int32) (x0_31 : Int32) (x0_32 : Int32) (x0_35 : Int32) (x0_36 : Int32) (x0_37 : Int32) (x0_44 : Int32) (x0_49 : Int32) (x0_50 : Int32) (a1 : Nat → Int32) (a2 : Nat → Int32) : va_W := [(h0, .inr (11, [.ref h1, .ref y0_1, .ref y0_2, .ref y0_3, .ref y0_4, .int x0_5, .ref y0_6, .int x0_7, .int x0_8, .int x0_9, .int x0_10, .int x0_11, .int x0_12, .int x0_13, .int x0_14, .int x0_15, .int x0_16, .int x0_17, .ref y0_18, .int x0_19, .int x0_20, .ref y0_21, .ref y0_22, .ref y0_23, .ref y0_24, .ref y0_25, .ref y0_26, .int x0_27, .int x0_28, .int x0_29, .int x0_30, .int x0_31, .int x0_32, .ref y0_33, .ref y0_34, .int x0_35, .int x0_36, .int x0_37, .ref y0_38, .ref y0_39, .ref y0_40, .ref y0_41, .ref y0_42, .ref y0_43, .int x0_44, .ref y0_45, .ref h2, .ref y0_47, .ref y0_48, .int x0_49, .int x0_50])), (h1, .inl (G.2.1, 121, .inl a1)), (h2, .inl (G.2.1, 1573, .inl a2))]
set_option maxHeartbeats 4000000 in
set_option maxRecDepth 100000 in
theorem c_X11_redo (l : Launch) (G : GG) (h0 h1 h2 y0_1 y0_2 y0_3 y0_4 y0_6 y0_18 y0_21 y0_22 y0_23 y0_24 y0_25 y0_26 y0_33 y0_34 y0_38 y0_39 y0_40 y0_41 y0_42 y0_43 y0_45 y0_47 y0_48 : Nat) (sz : Nat) (x0_5 : Int32) (x0_7 : Int32) (x0_8 : Int32) (x0_9 : Int32) (x0_10 : Int32) (x0_11 : Int32) (x0_12 : Int32) (x0_13 : Int32) (x0_14 : Int32) (x0_15 : Int32) (x0_16 : Int32) (x0_17 : Int32) (x0_19 : Int32) (x0_20 : Int32) (x0_27 : Int32) (x0_28 : Int32) (x0_29 : Int32) (x0_30 : Int32) (x0_31 : Int32) (x0_32 : Int32) (x0_35 : Int32) (x0_36 : Int32) (x0_37 : Int32) (x0_44 : Int32) (x0_49 : Int32) (x0_50 : Int32) (a1 : Nat → Int32) (a2 : Nat → Int32) (F : Nat)   (r0 : Int32) (e_x0_49 : Int32) (e_x0_50 : Int32) (e_a1 : Nat → Int32) (e_a2 : Nat → Int32) (hf : p_X11_redo F x0_49 x0_50 a1 a2  = some (r0, e_x0_49, e_x0_50, e_a1, e_a2)) : Met l yX11_redo (.code yX11_redo cX11_redo 1 (some .boolean) :: gtbl) ({ frames := 1, cells := 0, slots := 0, locals := 22 } : Room) (PcS G [.ref h0] (wW_X11_redo G h0 h1 h2 y0_1 y0_2 y0_3 y0_4 y0_6 y0_18 y0_21 y0_22 y0_23 y0_24 y0_25 y0_26 y0_33 y0_34 y0_38 y0_39 y0_40 y0_41 y0_42 y0_43 y0_45 y0_47 y0_48 x0_5 x0_7 x0_8 x0_9 x0_10 x0_11 x0_12 x0_13 x0_14 x0_15 x0_16 x0_17 x0_19 x0_20 x0_27 x0_28 x0_29 x0_30 x0_31 x0_32 x0_35 x0_36 x0_37 x0_44 x0_49 x0_50 a1 a2) sz) (QiS G r0 (va_A (wW_X11_redo G h0 h1 h2 y0_1 y0_2 y0_3 y0_4 y0_6 y0_18 y0_21 y0_22 y0_23 y0_24 y0_25 y0_26 y0_33 y0_34 y0_38 y0_39 y0_40 y0_41 y0_42 y0_43 y0_45 y0_47 y0_48 x0_5 x0_7 x0_8 x0_9 x0_10 x0_11 x0_12 x0_13 x0_14 x0_15 x0_16 x0_17 x0_19 x0_20 x0_27 x0_28 x0_29 x0_30 x0_31 x0_32 x0_35 x0_36 x0_37 x0_44 x0_49 x0_50 a1 a2) sz) (wW_X11_redo G h0 h1 h2 y0_1 y0_2 y0_3 y0_4 y0_6 y0_18 y0_21 y0_22 y0_23 y0_24 y0_25 y0_26 y0_33 y0_34 y0_38 y0_39 y0_40 y0_41 y0_42 y0_43 y0_45 y0_47 y0_48 x0_5 x0_7 x0_8 x0_9 x0_10 x0_11 x0_12 x0_13 x0_14 x0_15 x0_16 x0_17 x0_19 x0_20 x0_27 x0_28 x0_29 x0_30 x0_31 x0_32 x0_35 x0_36 x0_37 x0_44 e_x0_49 e_x0_50 e_a1 e_a2)) 0 0 (va_A (wW_X11_redo G h0 h1 h2 y0_1 y0_2 y0_3 y0_4 y0_6 y0_18 y0_21 y0_22 y0_23 y0_24 y0_25 y0_26 y0_33 y0_34 y0_38 y0_39 y0_40 y0_41 y0_42 y0_43 y0_45 y0_47 y0_48 x0_5 x0_7 x0_8 x0_9 x0_10 x0_11 x0_12 x0_13 x0_14 x0_15 x0_16 x0_17 x0_19 x0_20 x0_27 x0_28 x0_29 x0_30 x0_31 x0_32 x0_35 x0_36 x0_37 x0_44 x0_49 x0_50 a1 a2) sz) := by
  refine met_start (by decide) (Nat.le_of_ble_eq_true rfl) ?_
  intro p e s m below meth c hC hr hlk hnm hK hP hD hA hS hX ls hl
  obtain ⟨hx, hb, hml, hown, ht0⟩ := hC
  have hown : s.vm.findClass RX11 = some m.cls := hown
  generalize va_A (wW_X11_redo G h0 h1 h2 y0_1 y0_2 y0_3 y0_4 y0_6 y0_18 y0_21 y0_22 y0_23 y0_24 y0_25 y0_26 y0_33 y0_34 y0_38 y0_39 y0_40 y0_41 y0_42 y0_43 y0_45 y0_47 y0_48 x0_5 x0_7 x0_8 x0_9 x0_10 x0_11 x0_12 x0_13 x0_14 x0_15 x0_16 x0_17 x0_19 x0_20 x0_27 x0_28 x0_29 x0_30 x0_31 x0_32 x0_35 x0_36 x0_37 x0_44 x0_49 x0_50 a1 a2) sz = A at hD hA hS hX ⊢
  have hl : lv_has ls 1 [(0, .ref h0)] := hl
  have hf : p_X11_redo F x0_49 x0_50 a1 a2  = some (r0, e_x0_49, e_x0_50, e_a1, e_a2) := hf
  refine lv_aload_n hx hb dX11_redo_0 rfl (lv_at hl 0 rfl) ?_
  refine va_get (ci := 11) (v := .int x0_50) (C := RX11) (T := TX11) (N := 51) hx hb ht0 iX11 hown hK hP 0 rfl rfl 50 (by decide) (ht0 _ wd_1456) (fun _ h9 => h9) rfl dX11_redo_1 ?_
  refine lv_if_ne (tgt := 9) hx hb dX11_redo_4 (by decide) (fun c1 => ?_) (fun c1 => ?_)
  · have hf := of_neg hf c1
    refine lv_aload_n hx hb dX11_redo_9 rfl (lv_at hl 0 rfl) ?_
    obtain ⟨⟨r_10_1_a1, r_10_1_a2⟩, hc_r_10_1, hf⟩ := of_bnd hf
    refine cl_Vv (w2 := (wW_X11_redo G h0 h1 h2 y0_1 y0_2 y0_3 y0_4 y0_6 y0_18 y0_21 y0_22 y0_23 y0_24 y0_25 y0_26 y0_33 y0_34 y0_38 y0_39 y0_40 y0_41 y0_42 y0_43 y0_45 y0_47 y0_48 x0_5 x0_7 x0_8 x0_9 x0_10 x0_11 x0_12 x0_13 x0_14 x0_15 x0_16 x0_17 x0_19 x0_20 x0_27 x0_28 x0_29 x0_30 x0_31 x0_32 x0_35 x0_36 x0_37 x0_44 x0_49 x0_50 r_10_1_a1 r_10_1_a2)) (As := []) (rest := []) ⟨hx, hb, hml, hown, ht0⟩ (c_X11_swapAll l G h0 h1 h2 y0_1 y0_2 y0_3 y0_4 y0_6 y0_18 y0_21 y0_22 y0_23 y0_24 y0_25 y0_26 y0_33 y0_34 y0_38 y0_39 y0_40 y0_41 y0_42 y0_43 y0_45 y0_47 y0_48 _ x0_5 x0_7 x0_8 x0_9 x0_10 x0_11 x0_12 x0_13 x0_14 x0_15 x0_16 x0_17 x0_19 x0_20 x0_27 x0_28 x0_29 x0_30 x0_31 x0_32 x0_35 x0_36 x0_37 x0_44 x0_49 x0_50 a1 a2 F _ _ hc_r_10_1) yk_X11_swapAll wd_1948 ⟨rfl, rfl, by decide, by decide⟩ ⟨Nat.le_refl _, Nat.le_refl _⟩ hX hK hP hD hS hA [0, 1, 2] [] [0, 1, 2] (va_recv hK hP (ci := 11) (q0 := 0) rfl rfl) rfl rfl (by decide) rfl rfl rfl rfl rfl hl.1 rfl (Nat.le_of_ble_eq_true rfl) dX11_redo_10 (fun H locs hP hD hS => ?_)
    refine lv_aload_n hx hb dX11_redo_13 rfl (lv_at hl 0 rfl) ?_
    refine lv_dup hx hb dX11_redo_14 rfl ?_
    refine va_get (ci := 11) (v := .int x0_49) (C := RX11) (T := TX11) (N := 51) hx hb ht0 iX11 hown hK hP 0 rfl rfl 49 (by decide) (ht0 _ wd_1455) (fun _ h9 => h9) rfl dX11_redo_15 ?_
    refine lv_iconst (v := (1 : Int32)) hx hb dX11_redo_18 (by decide) ?_
    refine lv_iadd hx hb dX11_redo_19 ?_
    refine va_put (ci := 11) (v := .int (x0_49 + (1 : Int32))) (ty := .int) (C := RX11) (T := TX11) (N := 51) hx hb ht0 iX11 tyX11 tyX11_ok nmX11 hown hK hP hD hS 0 rfl rfl 49 (by decide) (ht0 _ wd_1455) (fun _ h9 => h9) rfl rfl rfl rfl (Nat.le_of_ble_eq_true rfl) dX11_redo_20 (fun H locs hP hD hS => ?_)
    have hP : va_P G.1 vwCl (wW_X11_redo G h0 h1 h2 y0_1 y0_2 y0_3 y0_4 y0_6 y0_18 y0_21 y0_22 y0_23 y0_24 y0_25 y0_26 y0_33 y0_34 y0_38 y0_39 y0_40 y0_41 y0_42 y0_43 y0_45 y0_47 y0_48 x0_5 x0_7 x0_8 x0_9 x0_10 x0_11 x0_12 x0_13 x0_14 x0_15 x0_16 x0_17 x0_19 x0_20 x0_27 x0_28 x0_29 x0_30 x0_31 x0_32 x0_35 x0_36 x0_37 x0_44 (x0_49 + (1 : Int32)) x0_50 r_10_1_a1 r_10_1_a2) H := hP
    have hD : va_D A (wW_X11_redo G h0 h1 h2 y0_1 y0_2 y0_3 y0_4 y0_6 y0_18 y0_21 y0_22 y0_23 y0_24 y0_25 y0_26 y0_33 y0_34 y0_38 y0_39 y0_40 y0_41 y0_42 y0_43 y0_45 y0_47 y0_48 x0_5 x0_7 x0_8 x0_9 x0_10 x0_11 x0_12 x0_13 x0_14 x0_15 x0_16 x0_17 x0_19 x0_20 x0_27 x0_28 x0_29 x0_30 x0_31 x0_32 x0_35 x0_36 x0_37 x0_44 (x0_49 + (1 : Int32)) x0_50 r_10_1_a1 r_10_1_a2) := hD
    refine lv_aload_n hx hb dX11_redo_23 rfl (lv_at hl 0 rfl) ?_
    refine lv_dup hx hb dX11_redo_24 rfl ?_
    refine va_get (ci := 11) (v := .int x0_50) (C := RX11) (T := TX11) (N := 51) hx hb ht0 iX11 hown hK hP 0 rfl rfl 50 (by decide) (ht0 _ wd_1456) (fun _ h9 => h9) rfl dX11_redo_25 ?_
    refine lv_iconst (v := (1 : Int32)) hx hb dX11_redo_28 (by decide) ?_
    refine lv_isub hx hb dX11_redo_29 ?_
    refine va_put (ci := 11) (v := .int (x0_50 - (1 : Int32))) (ty := .int) (C := RX11) (T := TX11) (N := 51) hx hb ht0 iX11 tyX11 tyX11_ok nmX11 hown hK hP hD hS 0 rfl rfl 50 (by decide) (ht0 _ wd_1456) (fun _ h9 => h9) rfl rfl rfl rfl (Nat.le_of_ble_eq_true rfl) dX11_redo_30 (fun H locs hP hD hS => ?_)
    have hP : va_P G.1 vwCl (wW_X11_redo G h0 h1 h2 y0_1 y0_2 y0_3 y0_4 y0_6 y0_18 y0_21 y0_22 y0_23 y0_24 y0_25 y0_26 y0_33 y0_34 y0_38 y0_39 y0_40 y0_41 y0_42 y0_43 y0_45 y0_47 y0_48 x0_5 x0_7 x0_8 x0_9 x0_10 x0_11 x0_12 x0_13 x0_14 x0_15 x0_16 x0_17 x0_19 x0_20 x0_27 x0_28 x0_29 x0_30 x0_31 x0_32 x0_35 x0_36 x0_37 x0_44 (x0_49 + (1 : Int32)) (x0_50 - (1 : Int32)) r_10_1_a1 r_10_1_a2) H := hP
    have hD : va_D A (wW_X11_redo G h0 h1 h2 y0_1 y0_2 y0_3 y0_4 y0_6 y0_18 y0_21 y0_22 y0_23 y0_24 y0_25 y0_26 y0_33 y0_34 y0_38 y0_39 y0_40 y0_41 y0_42 y0_43 y0_45 y0_47 y0_48 x0_5 x0_7 x0_8 x0_9 x0_10 x0_11 x0_12 x0_13 x0_14 x0_15 x0_16 x0_17 x0_19 x0_20 x0_27 x0_28 x0_29 x0_30 x0_31 x0_32 x0_35 x0_36 x0_37 x0_44 (x0_49 + (1 : Int32)) (x0_50 - (1 : Int32)) r_10_1_a1 r_10_1_a2) := hD
    refine lv_iconst (v := (1 : Int32)) hx hb dX11_redo_33 (by decide) ?_
    cases hf
    exact ret_z hx hb hr hlk hK hP hD hS (by decide) dX11_redo_34
  · have hf := of_pos hf c1
    refine lv_iconst (v := (0 : Int32)) hx hb dX11_redo_7 (by decide) ?_
    cases hf
    exact ret_z hx hb hr hlk hK hP hD hS (by decide) dX11_redo_8
theorem yk_X11_redo : ykV yX11_redo RX11 cX11_redo 1 (some .boolean) 0 := ⟨wd_1953, wd_1954, wd_142, wd_1955, rfl, by decide +kernel, by decide +kernel, by decide +kernel⟩
theorem dX11_image_0 : decode cX11_image 0 = .ok (.iload_n 1, 1) := by decide +kernel
theorem dX11_image_1 : decode cX11_image 1 = .ok (.iconst 0, 1) := by decide +kernel
theorem dX11_image_2 : decode cX11_image 2 = .ok (.iconst 1, 1) := by decide +kernel
theorem dX11_image_3 : decode cX11_image 3 = .ok (.invokestatic 163, 3) := by decide +kernel
theorem dX11_image_6 : decode cX11_image 6 = .ok (.ifCond .ne 5, 3) := by decide +kernel
theorem dX11_image_9 : decode cX11_image 9 = .ok (.iconst (-1), 1) := by decide +kernel
theorem dX11_image_10 : decode cX11_image 10 = .ok (.ireturn, 1) := by decide +kernel
theorem dX11_image_11 : decode cX11_image 11 = .ok (.iconst 0, 1) := by decide +kernel
theorem dX11_image_12 : decode cX11_image 12 = .ok (.istore_n 2, 1) := by decide +kernel
theorem dX11_image_13 : decode cX11_image 13 = .ok (.iload_n 2, 1) := by decide +kernel
theorem dX11_image_14 : decode cX11_image 14 = .ok (.bipush 121, 2) := by decide +kernel
theorem dX11_image_16 : decode cX11_image 16 = .ok (.if_icmp .ge 26, 3) := by decide +kernel
theorem dX11_image_19 : decode cX11_image 19 = .ok (.aload_n 0, 1) := by decide +kernel
theorem dX11_image_20 : decode cX11_image 20 = .ok (.getfield 85, 3) := by decide +kernel
theorem dX11_image_23 : decode cX11_image 23 = .ok (.bipush 121, 2) := by decide +kernel
theorem dX11_image_25 : decode cX11_image 25 = .ok (.iload_n 1, 1) := by decide +kernel
theorem dX11_image_26 : decode cX11_image 26 = .ok (.imul, 1) := by decide +kernel
theorem dX11_image_27 : decode cX11_image 27 = .ok (.iload_n 2, 1) := by decide +kernel
theorem dX11_image_28 : decode cX11_image 28 = .ok (.iadd, 1) := by decide +kernel
theorem dX11_image_29 : decode cX11_image 29 = .ok (.aload_n 0, 1) := by decide +kernel
theorem dX11_image_30 : decode cX11_image 30 = .ok (.getfield 7, 3) := by decide +kernel
theorem dX11_image_33 : decode cX11_image 33 = .ok (.iload_n 2, 1) := by decide +kernel
theorem dX11_image_34 : decode cX11_image 34 = .ok (.iaload, 1) := by decide +kernel
theorem dX11_image_35 : decode cX11_image 35 = .ok (.iastore, 1) := by decide +kernel
theorem dX11_image_36 : decode cX11_image 36 = .ok (.iinc 2 1, 3) := by decide +kernel
theorem dX11_image_39 : decode cX11_image 39 = .ok (.goto (-26), 3) := by decide +kernel
theorem dX11_image_42 : decode cX11_image 42 = .ok (.aload_n 0, 1) := by decide +kernel
theorem dX11_image_43 : decode cX11_image 43 = .ok (.getfield 88, 3) := by decide +kernel
theorem dX11_image_46 : decode cX11_image 46 = .ok (.iload_n 1, 1) := by decide +kernel
theorem dX11_image_47 : decode cX11_image 47 = .ok (.iconst 1, 1) := by decide +kernel
theorem dX11_image_48 : decode cX11_image 48 = .ok (.bastore, 1) := by decide +kernel
theorem dX11_image_49 : decode cX11_image 49 = .ok (.bipush 16, 2) := by decide +kernel
theorem dX11_image_51 : decode cX11_image 51 = .ok (.aload_n 0, 1) := by decide +kernel
theorem dX11_image_52 : decode cX11_image 52 = .ok (.invokevirtual 369, 3) := by decide +kernel
theorem dX11_image_55 : decode cX11_image 55 = .ok (.isub, 1) := by decide +kernel
theorem dX11_image_56 : decode cX11_image 56 = .ok (.ireturn, 1) := by decide +kernel
def wW_X11_image (G : GG) (h0 h1 h2 h3 h4 y0_2 y0_3 y0_4 y0_6 y0_18 y0_21 y0_22 y0_23 y0_24 y0_25 y0_26 y0_33 y0_34 y0_38 y0_39 y0_40 y0_41 y0_42 y0_43 y0_45 y0_46 : Nat) (x0_5 : Int32) (x0_7 : Int32) (x0_8 : Int32) (x0_9 : Int32) (x0_10 : Int32) (x0_11 : Int32) (x0_12 : Int32) (x0_13 : Int32) (x0_14 : Int32) (x0_15 : Int32) (x0_16 : Int32) (x0_17 : Int32) (x0_19 : Int32) (x0_20 : Int32) (x0_27 : Int32) (x0_28 : Int32) (x0_29 : Int32) (x0_30 : Int32) (x0_31 : Int32) (x0_32 : Int32) (x0_35 : Int32) (x0_36 : Int32) (x0_37 : Int32) (x0_44 : Int32) (x0_49 : Int32) (x0_50 : Int32) (a1 : Nat → Int32) (a2 : Nat → Int32) (a3 : Nat → Int32) (a4 : Nat → Int32) : va_W := [(h0, .inr (11, [.ref h1, .ref h2, .ref y0_2, .ref y0_3, .ref y0_4, .int x0_5, .ref y0_6, .int x0_7, .int x0_8, .int x0_9, .int x0_10, .int x0_11, .int x0_12, .int x0_13, .int x0_14, .int x0_15, .int x0_16, .int x0_17, .ref y0_18, .int x0_19, .int x0_20, .ref y0_21, .ref y0_22, .ref y0_23, .ref y0_24, .ref y0_25, .ref y0_26, .int x0_27, .int x0_28, .int x0_29, .int x0_30, .int x0_31, .int x0_32, .ref y0_33, .ref y0_34, .int x0_35, .int x0_36, .int x0_37, .ref y0_38, .ref y0_39, .ref y0_40, .ref y0_41, .ref y0_42, .ref y0_43, .int x0_44, .ref y0_45, .ref y0_46, .ref h3, .ref h4, .int x0_49, .int x0_50])), (h1, .inl (G.2.1, 121, .inl a1)), (h2, .inl (G.2.1, 2, .inl a2)), (h3, .inl (G.2.1, 242, .inl a3)), (h4, .inl (G.2.2.1, 2, .inl a4))]
set_option maxHeartbeats 4000000 in
set_option maxRecDepth 100000 in
theorem c_X11_image (l : Launch) (G : GG) (h0 h1 h2 h3 h4 y0_2 y0_3 y0_4 y0_6 y0_18 y0_21 y0_22 y0_23 y0_24 y0_25 y0_26 y0_33 y0_34 y0_38 y0_39 y0_40 y0_41 y0_42 y0_43 y0_45 y0_46 : Nat) (sz : Nat) (x0_5 : Int32) (x0_7 : Int32) (x0_8 : Int32) (x0_9 : Int32) (x0_10 : Int32) (x0_11 : Int32) (x0_12 : Int32) (x0_13 : Int32) (x0_14 : Int32) (x0_15 : Int32) (x0_16 : Int32) (x0_17 : Int32) (x0_19 : Int32) (x0_20 : Int32) (x0_27 : Int32) (x0_28 : Int32) (x0_29 : Int32) (x0_30 : Int32) (x0_31 : Int32) (x0_32 : Int32) (x0_35 : Int32) (x0_36 : Int32) (x0_37 : Int32) (x0_44 : Int32) (x0_49 : Int32) (x0_50 : Int32) (a1 : Nat → Int32) (a2 : Nat → Int32) (a3 : Nat → Int32) (a4 : Nat → Int32) (F : Nat) (b1 : Int32)  (r0 : Int32) (e_a3 : Nat → Int32) (e_a4 : Nat → Int32) (hf : p_X11_image F x0_5 a1 a2 a3 a4 b1 = some (r0, e_a3, e_a4)) : Met l yX11_image (.code yX11_image cX11_image 3 (some .int) :: gtbl) ({ frames := 4, cells := 0, slots := 0, locals := 87 } : Room) (PcS G [.ref h0, .int b1] (wW_X11_image G h0 h1 h2 h3 h4 y0_2 y0_3 y0_4 y0_6 y0_18 y0_21 y0_22 y0_23 y0_24 y0_25 y0_26 y0_33 y0_34 y0_38 y0_39 y0_40 y0_41 y0_42 y0_43 y0_45 y0_46 x0_5 x0_7 x0_8 x0_9 x0_10 x0_11 x0_12 x0_13 x0_14 x0_15 x0_16 x0_17 x0_19 x0_20 x0_27 x0_28 x0_29 x0_30 x0_31 x0_32 x0_35 x0_36 x0_37 x0_44 x0_49 x0_50 a1 a2 a3 a4) sz) (QiS G r0 (va_A (wW_X11_image G h0 h1 h2 h3 h4 y0_2 y0_3 y0_4 y0_6 y0_18 y0_21 y0_22 y0_23 y0_24 y0_25 y0_26 y0_33 y0_34 y0_38 y0_39 y0_40 y0_41 y0_42 y0_43 y0_45 y0_46 x0_5 x0_7 x0_8 x0_9 x0_10 x0_11 x0_12 x0_13 x0_14 x0_15 x0_16 x0_17 x0_19 x0_20 x0_27 x0_28 x0_29 x0_30 x0_31 x0_32 x0_35 x0_36 x0_37 x0_44 x0_49 x0_50 a1 a2 a3 a4) sz) (wW_X11_image G h0 h1 h2 h3 h4 y0_2 y0_3 y0_4 y0_6 y0_18 y0_21 y0_22 y0_23 y0_24 y0_25 y0_26 y0_33 y0_34 y0_38 y0_39 y0_40 y0_41 y0_42 y0_43 y0_45 y0_46 x0_5 x0_7 x0_8 x0_9 x0_10 x0_11 x0_12 x0_13 x0_14 x0_15 x0_16 x0_17 x0_19 x0_20 x0_27 x0_28 x0_29 x0_30 x0_31 x0_32 x0_35 x0_36 x0_37 x0_44 x0_49 x0_50 a1 a2 e_a3 e_a4)) 0 0 (va_A (wW_X11_image G h0 h1 h2 h3 h4 y0_2 y0_3 y0_4 y0_6 y0_18 y0_21 y0_22 y0_23 y0_24 y0_25 y0_26 y0_33 y0_34 y0_38 y0_39 y0_40 y0_41 y0_42 y0_43 y0_45 y0_46 x0_5 x0_7 x0_8 x0_9 x0_10 x0_11 x0_12 x0_13 x0_14 x0_15 x0_16 x0_17 x0_19 x0_20 x0_27 x0_28 x0_29 x0_30 x0_31 x0_32 x0_35 x0_36 x0_37 x0_44 x0_49 x0_50 a1 a2 a3 a4) sz) := by
  refine met_start (by decide) (Nat.le_of_ble_eq_true rfl) ?_
  intro p e s m below meth c hC hr hlk hnm hK hP hD hA hS hX ls hl
  obtain ⟨hx, hb, hml, hown, ht0⟩ := hC
  have hown : s.vm.findClass RX11 = some m.cls := hown
  generalize va_A (wW_X11_image G h0 h1 h2 h3 h4 y0_2 y0_3 y0_4 y0_6 y0_18 y0_21 y0_22 y0_23 y0_24 y0_25 y0_26 y0_33 y0_34 y0_38 y0_39 y0_40 y0_41 y0_42 y0_43 y0_45 y0_46 x0_5 x0_7 x0_8 x0_9 x0_10 x0_11 x0_12 x0_13 x0_14 x0_15 x0_16 x0_17 x0_19 x0_20 x0_27 x0_28 x0_29 x0_30 x0_31 x0_32 x0_35 x0_36 x0_37 x0_44 x0_49 x0_50 a1 a2 a3 a4) sz = A at hD hA hS hX ⊢
  have hl : lv_has ls 3 [(0, .ref h0), (1, .int b1)] := hl
  have hf : p_X11_image F x0_5 a1 a2 a3 a4 b1 = some (r0, e_a3, e_a4) := hf
  have kL13 : ∀ (c13_1 : Int32) (n13 : Nat) (u13_2 : Int32) (a3_13 : Nat → Int32) (a4_13 : Nat → Int32), p_X11_image_L13 F x0_5 a1 a2 c13_1 n13 u13_2 a3_13 a4_13 = some (r0, e_a3, e_a4) → ∀ (H : Heap) (locs : List Loc), va_P G.1 vwCl (wW_X11_image G h0 h1 h2 h3 h4 y0_2 y0_3 y0_4 y0_6 y0_18 y0_21 y0_22 y0_23 y0_24 y0_25 y0_26 y0_33 y0_34 y0_38 y0_39 y0_40 y0_41 y0_42 y0_43 y0_45 y0_46 x0_5 x0_7 x0_8 x0_9 x0_10 x0_11 x0_12 x0_13 x0_14 x0_15 x0_16 x0_17 x0_19 x0_20 x0_27 x0_28 x0_29 x0_30 x0_31 x0_32 x0_35 x0_36 x0_37 x0_44 x0_49 x0_50 a1 a2 a3_13 a4_13) H → va_D A (wW_X11_image G h0 h1 h2 h3 h4 y0_2 y0_3 y0_4 y0_6 y0_18 y0_21 y0_22 y0_23 y0_24 y0_25 y0_26 y0_33 y0_34 y0_38 y0_39 y0_40 y0_41 y0_42 y0_43 y0_45 y0_46 x0_5 x0_7 x0_8 x0_9 x0_10 x0_11 x0_12 x0_13 x0_14 x0_15 x0_16 x0_17 x0_19 x0_20 x0_27 x0_28 x0_29 x0_30 x0_31 x0_32 x0_35 x0_36 x0_37 x0_44 x0_49 x0_50 a1 a2 a3_13 a4_13) → va_S A s.heap H locs → ∀ ls : Array Slot, lv_has ls 3 [(0, .ref h0), (1, .int c13_1), (2, .int u13_2)] → W p l e ({ frames := 4, cells := 0, slots := 0, locals := 87 } : Room) s m (List.toArray [.ref h0, .int b1]) below meth c H locs 0 0 (MQ below (QiS G r0 A (wW_X11_image G h0 h1 h2 h3 h4 y0_2 y0_3 y0_4 y0_6 y0_18 y0_21 y0_22 y0_23 y0_24 y0_25 y0_26 y0_33 y0_34 y0_38 y0_39 y0_40 y0_41 y0_42 y0_43 y0_45 y0_46 x0_5 x0_7 x0_8 x0_9 x0_10 x0_11 x0_12 x0_13 x0_14 x0_15 x0_16 x0_17 x0_19 x0_20 x0_27 x0_28 x0_29 x0_30 x0_31 x0_32 x0_35 x0_36 x0_37 x0_44 x0_49 x0_50 a1 a2 e_a3 e_a4)) (List.toArray [.ref h0, .int b1]) s 0 0 A) (F0 m 13 ls []) := by
    intro c13_1 n13
    induction n13 with
    | zero =>
      intro u13_2 a3_13 a4_13 hf
      cases hf
    | succ n13 ih13 =>
      intro u13_2 a3_13 a4_13 hf H locs hP hD hS ls hl
      have hf : p_X11_image_L13b F x0_5 a1 a2 c13_1 (p_X11_image_L13 F x0_5 a1 a2 c13_1 n13) u13_2 a3_13 a4_13 = some (r0, e_a3, e_a4) := hf
      refine lv_iload_n hx hb dX11_image_13 rfl (lv_at hl 2 rfl) ?_
      refine lv_bipush (v := (121 : Int32)) hx hb dX11_image_14 (by decide) ?_
      refine lv_icmp_ge (tgt := 42) hx hb dX11_image_16 (by decide) (fun c1 => ?_) (fun c1 => ?_)
      · have hf := of_pos hf c1
        refine lv_aload_n hx hb dX11_image_42 rfl (lv_at hl 0 rfl) ?_
        refine va_get (ci := 11) (v := .ref h4) (C := RX11) (T := TX11) (N := 51) hx hb ht0 iX11 hown hK hP 0 rfl rfl 48 (by decide) (ht0 _ wd_1454) (fun _ h9 => h9) rfl dX11_image_43 ?_
        refine lv_iload_n hx hb dX11_image_46 rfl (lv_at hl 1 rfl) ?_
        refine lv_iconst (v := (1 : Int32)) hx hb dX11_image_47 (by decide) ?_
        obtain ⟨g2, hf⟩ := of_grd hf
        refine va_zast hx hb hK hP hD hS 4 1 rfl rfl g2 dX11_image_48 (fun H locs hP hD hS => ?_)
        have hP : va_P G.1 vwCl (wW_X11_image G h0 h1 h2 h3 h4 y0_2 y0_3 y0_4 y0_6 y0_18 y0_21 y0_22 y0_23 y0_24 y0_25 y0_26 y0_33 y0_34 y0_38 y0_39 y0_40 y0_41 y0_42 y0_43 y0_45 y0_46 x0_5 x0_7 x0_8 x0_9 x0_10 x0_11 x0_12 x0_13 x0_14 x0_15 x0_16 x0_17 x0_19 x0_20 x0_27 x0_28 x0_29 x0_30 x0_31 x0_32 x0_35 x0_36 x0_37 x0_44 x0_49 x0_50 a1 a2 a3_13 (upd a4_13 c13_1.toNatClampNeg (vp_nar .boolean (1 : Int32)))) H := hP
        have hD : va_D A (wW_X11_image G h0 h1 h2 h3 h4 y0_2 y0_3 y0_4 y0_6 y0_18 y0_21 y0_22 y0_23 y0_24 y0_25 y0_26 y0_33 y0_34 y0_38 y0_39 y0_40 y0_41 y0_42 y0_43 y0_45 y0_46 x0_5 x0_7 x0_8 x0_9 x0_10 x0_11 x0_12 x0_13 x0_14 x0_15 x0_16 x0_17 x0_19 x0_20 x0_27 x0_28 x0_29 x0_30 x0_31 x0_32 x0_35 x0_36 x0_37 x0_44 x0_49 x0_50 a1 a2 a3_13 (upd a4_13 c13_1.toNatClampNeg (vp_nar .boolean (1 : Int32)))) := hD
        refine lv_bipush (v := (16 : Int32)) hx hb dX11_image_49 (by decide) ?_
        refine lv_aload_n hx hb dX11_image_51 rfl (lv_at hl 0 rfl) ?_
        obtain ⟨r_52_2, hc_r_52_2, hf⟩ := of_bnd hf
        refine cl_Vi (w2 := (wW_X11_image G h0 h1 h2 h3 h4 y0_2 y0_3 y0_4 y0_6 y0_18 y0_21 y0_22 y0_23 y0_24 y0_25 y0_26 y0_33 y0_34 y0_38 y0_39 y0_40 y0_41 y0_42 y0_43 y0_45 y0_46 x0_5 x0_7 x0_8 x0_9 x0_10 x0_11 x0_12 x0_13 x0_14 x0_15 x0_16 x0_17 x0_19 x0_20 x0_27 x0_28 x0_29 x0_30 x0_31 x0_32 x0_35 x0_36 x0_37 x0_44 x0_49 x0_50 a1 a2 a3_13 (upd a4_13 c13_1.toNatClampNeg (vp_nar .boolean (1 : Int32))))) (As := []) (rest := [.int (16 : Int32)]) ⟨hx, hb, hml, hown, ht0⟩ (c_X11_strangeMany l G h0 h1 h2 y0_2 y0_3 y0_4 y0_6 y0_18 y0_21 y0_22 y0_23 y0_24 y0_25 y0_26 y0_33 y0_34 y0_38 y0_39 y0_40 y0_41 y0_42 y0_43 y0_45 y0_46 h3 h4 _ x0_5 x0_7 x0_8 x0_9 x0_10 x0_11 x0_12 x0_13 x0_14 x0_15 x0_16 x0_17 x0_19 x0_20 x0_27 x0_28 x0_29 x0_30 x0_31 x0_32 x0_35 x0_36 x0_37 x0_44 x0_49 x0_50 a1 a2 F _ hc_r_52_2) yk_X11_strangeMany wd_1718 ⟨rfl, rfl, by decide, by decide⟩ ⟨Nat.le_refl _, Nat.le_refl _⟩ hX hK hP hD hS hA [0, 1, 2] [3, 4] [2, 3, 4, 0, 1] (va_recv hK hP (ci := 11) (q0 := 0) rfl rfl) rfl rfl (by decide) rfl rfl rfl rfl rfl hl.1 rfl (Nat.le_of_ble_eq_true rfl) dX11_image_52 (fun H locs hP hD hS => ?_)
        refine lv_isub hx hb dX11_image_55 ?_
        cases hf
        exact ret_i hx hb hr hlk hK hP hD hS dX11_image_56
      · have hf := of_neg hf c1
        refine lv_aload_n hx hb dX11_image_19 rfl (lv_at hl 0 rfl) ?_
        refine va_get (ci := 11) (v := .ref h3) (C := RX11) (T := TX11) (N := 51) hx hb ht0 iX11 hown hK hP 0 rfl rfl 47 (by decide) (ht0 _ wd_1453) (fun _ h9 => h9) rfl dX11_image_20 ?_
        refine lv_bipush (v := (121 : Int32)) hx hb dX11_image_23 (by decide) ?_
        refine lv_iload_n hx hb dX11_image_25 rfl (lv_at hl 1 rfl) ?_
        refine lv_imul hx hb dX11_image_26 ?_
        refine lv_iload_n hx hb dX11_image_27 rfl (lv_at hl 2 rfl) ?_
        refine lv_iadd hx hb dX11_image_28 ?_
        refine lv_aload_n hx hb dX11_image_29 rfl (lv_at hl 0 rfl) ?_
        refine va_get (ci := 11) (v := .ref h1) (C := RX11) (T := TX11) (N := 51) hx hb ht0 iX11 hown hK hP 0 rfl rfl 0 (by decide) (ht0 _ wd_1406) (fun _ h9 => h9) rfl dX11_image_30 ?_
        refine lv_iload_n hx hb dX11_image_33 rfl (lv_at hl 2 rfl) ?_
        obtain ⟨g4, hf⟩ := of_grd hf
        refine va_iald hx hb hK hP 1 0 rfl rfl g4 dX11_image_34 ?_
        obtain ⟨g5, hf⟩ := of_grd hf
        refine va_iast hx hb hK hP hD hS 3 0 rfl rfl g5 dX11_image_35 (fun H locs hP hD hS => ?_)
        have hP : va_P G.1 vwCl (wW_X11_image G h0 h1 h2 h3 h4 y0_2 y0_3 y0_4 y0_6 y0_18 y0_21 y0_22 y0_23 y0_24 y0_25 y0_26 y0_33 y0_34 y0_38 y0_39 y0_40 y0_41 y0_42 y0_43 y0_45 y0_46 x0_5 x0_7 x0_8 x0_9 x0_10 x0_11 x0_12 x0_13 x0_14 x0_15 x0_16 x0_17 x0_19 x0_20 x0_27 x0_28 x0_29 x0_30 x0_31 x0_32 x0_35 x0_36 x0_37 x0_44 x0_49 x0_50 a1 a2 (upd a3_13 (((121 : Int32) * c13_1) + u13_2).toNatClampNeg (a1 u13_2.toNatClampNeg)) a4_13) H := hP
        have hD : va_D A (wW_X11_image G h0 h1 h2 h3 h4 y0_2 y0_3 y0_4 y0_6 y0_18 y0_21 y0_22 y0_23 y0_24 y0_25 y0_26 y0_33 y0_34 y0_38 y0_39 y0_40 y0_41 y0_42 y0_43 y0_45 y0_46 x0_5 x0_7 x0_8 x0_9 x0_10 x0_11 x0_12 x0_13 x0_14 x0_15 x0_16 x0_17 x0_19 x0_20 x0_27 x0_28 x0_29 x0_30 x0_31 x0_32 x0_35 x0_36 x0_37 x0_44 x0_49 x0_50 a1 a2 (upd a3_13 (((121 : Int32) * c13_1) + u13_2).toNatClampNeg (a1 u13_2.toNatClampNeg)) a4_13) := hD
        refine lv_iinc (v := u13_2 + (1 : Int32)) (lv' := [(2, .int (u13_2 + (1 : Int32))), (0, .ref h0), (1, .int c13_1)]) hx hb dX11_image_36 hl (k := 2) rfl (by rfl) (by decide) rfl (fun ls hl => ?_)
        refine lv_goto (tgt := 13) hx hb dX11_image_39 (by decide) ?_
        exact ih13 _ _ _ hf _ _ hP hD hS _ (lv_sub hl [1, 2, 0] rfl)
  refine lv_iload_n hx hb dX11_image_0 rfl (lv_at hl 1 rfl) ?_
  refine lv_iconst (v := (0 : Int32)) hx hb dX11_image_1 (by decide) ?_
  refine lv_iconst (v := (1 : Int32)) hx hb dX11_image_2 (by decide) ?_
  obtain ⟨r_3_5, hc_r_3_5, hf⟩ := of_bnd hf
  refine cl_Si (w2 := (wW_X11_image G h0 h1 h2 h3 h4 y0_2 y0_3 y0_4 y0_6 y0_18 y0_21 y0_22 y0_23 y0_24 y0_25 y0_26 y0_33 y0_34 y0_38 y0_39 y0_40 y0_41 y0_42 y0_43 y0_45 y0_46 x0_5 x0_7 x0_8 x0_9 x0_10 x0_11 x0_12 x0_13 x0_14 x0_15 x0_16 x0_17 x0_19 x0_20 x0_27 x0_28 x0_29 x0_30 x0_31 x0_32 x0_35 x0_36 x0_37 x0_44 x0_49 x0_50 a1 a2 a3 a4)) (As := [.int b1, .int (0 : Int32), .int (1 : Int32)]) (rest := []) ⟨hx, hb, hml, hown, ht0⟩ (c_X11_isIn l G _ F b1 (0 : Int32) (1 : Int32) _ hc_r_3_5) yk_X11_isIn wd_1321 ⟨rfl, rfl, by decide, by decide⟩ ⟨Nat.le_refl _, Nat.le_refl _⟩ hX hK hP hD hS hA [] [0, 1, 2, 3, 4] [0, 1, 2, 3, 4] rfl rfl (by decide) rfl rfl rfl rfl rfl hl.1 rfl (Nat.le_of_ble_eq_true rfl) dX11_image_3 (fun H locs hP hD hS => ?_)
  refine lv_if_ne (tgt := 11) hx hb dX11_image_6 (by decide) (fun c7 => ?_) (fun c7 => ?_)
  · have hf := of_neg hf c7
    refine lv_iconst (v := (0 : Int32)) hx hb dX11_image_11 (by decide) ?_
    refine lv_istore_n (lv' := [(2, .int (0 : Int32)), (0, .ref h0), (1, .int b1)]) hx hb dX11_image_12 rfl hl (by decide) rfl (fun ls hl => ?_)
    exact kL13 _ _ _ _ _ hf _ _ hP hD hS _ (lv_sub hl [1, 2, 0] rfl)
  · have hf := of_pos hf c7
    refine lv_iconst (v := (-1 : Int32)) hx hb dX11_image_9 (by decide) ?_
    cases hf
    exact ret_i hx hb hr hlk hK hP hD hS dX11_image_10
theorem yk_X11_image : ykV yX11_image RX11 cX11_image 3 (some .int) 1 := ⟨wd_1957, wd_1958, wd_142, wd_1959, rfl, by decide +kernel, by decide +kernel, by decide +kernel⟩
theorem dX11_back_0 : decode cX11_back 0 = .ok (.iload_n 1, 1) := by decide +kernel
theorem dX11_back_1 : decode cX11_back 1 = .ok (.iconst 0, 1) := by decide +kernel
theorem dX11_back_2 : decode cX11_back 2 = .ok (.iconst 1, 1) := by decide +kernel
theorem dX11_back_3 : decode cX11_back 3 = .ok (.invokestatic 163, 3) := by decide +kernel
theorem dX11_back_6 : decode cX11_back 6 = .ok (.ifCond .eq 12, 3) := by decide +kernel
theorem dX11_back_9 : decode cX11_back 9 = .ok (.aload_n 0, 1) := by decide +kernel
theorem dX11_back_10 : decode cX11_back 10 = .ok (.getfield 88, 3) := by decide +kernel
theorem dX11_back_13 : decode cX11_back 13 = .ok (.iload_n 1, 1) := by decide +kernel
theorem dX11_back_14 : decode cX11_back 14 = .ok (.baload, 1) := by decide +kernel
theorem dX11_back_15 : decode cX11_back 15 = .ok (.ifCond .ne 5, 3) := by decide +kernel
theorem dX11_back_18 : decode cX11_back 18 = .ok (.iconst (-1), 1) := by decide +kernel
theorem dX11_back_19 : decode cX11_back 19 = .ok (.ireturn, 1) := by decide +kernel
theorem dX11_back_20 : decode cX11_back 20 = .ok (.iconst 0, 1) := by decide +kernel
theorem dX11_back_21 : decode cX11_back 21 = .ok (.istore_n 2, 1) := by decide +kernel
theorem dX11_back_22 : decode cX11_back 22 = .ok (.iload_n 2, 1) := by decide +kernel
theorem dX11_back_23 : decode cX11_back 23 = .ok (.bipush 121, 2) := by decide +kernel
theorem dX11_back_25 : decode cX11_back 25 = .ok (.if_icmp .ge 26, 3) := by decide +kernel
theorem dX11_back_28 : decode cX11_back 28 = .ok (.aload_n 0, 1) := by decide +kernel
theorem dX11_back_29 : decode cX11_back 29 = .ok (.getfield 7, 3) := by decide +kernel
theorem dX11_back_32 : decode cX11_back 32 = .ok (.iload_n 2, 1) := by decide +kernel
theorem dX11_back_33 : decode cX11_back 33 = .ok (.aload_n 0, 1) := by decide +kernel
theorem dX11_back_34 : decode cX11_back 34 = .ok (.getfield 85, 3) := by decide +kernel
theorem dX11_back_37 : decode cX11_back 37 = .ok (.bipush 121, 2) := by decide +kernel
theorem dX11_back_39 : decode cX11_back 39 = .ok (.iload_n 1, 1) := by decide +kernel
theorem dX11_back_40 : decode cX11_back 40 = .ok (.imul, 1) := by decide +kernel
theorem dX11_back_41 : decode cX11_back 41 = .ok (.iload_n 2, 1) := by decide +kernel
theorem dX11_back_42 : decode cX11_back 42 = .ok (.iadd, 1) := by decide +kernel
theorem dX11_back_43 : decode cX11_back 43 = .ok (.iaload, 1) := by decide +kernel
theorem dX11_back_44 : decode cX11_back 44 = .ok (.iastore, 1) := by decide +kernel
theorem dX11_back_45 : decode cX11_back 45 = .ok (.iinc 2 1, 3) := by decide +kernel
theorem dX11_back_48 : decode cX11_back 48 = .ok (.goto (-26), 3) := by decide +kernel
theorem dX11_back_51 : decode cX11_back 51 = .ok (.aload_n 0, 1) := by decide +kernel
theorem dX11_back_52 : decode cX11_back 52 = .ok (.iconst 0, 1) := by decide +kernel
theorem dX11_back_53 : decode cX11_back 53 = .ok (.putfield 230, 3) := by decide +kernel
theorem dX11_back_56 : decode cX11_back 56 = .ok (.aload_n 0, 1) := by decide +kernel
theorem dX11_back_57 : decode cX11_back 57 = .ok (.iconst 0, 1) := by decide +kernel
theorem dX11_back_58 : decode cX11_back 58 = .ok (.putfield 233, 3) := by decide +kernel
theorem dX11_back_61 : decode cX11_back 61 = .ok (.bipush 16, 2) := by decide +kernel
theorem dX11_back_63 : decode cX11_back 63 = .ok (.aload_n 0, 1) := by decide +kernel
theorem dX11_back_64 : decode cX11_back 64 = .ok (.invokevirtual 369, 3) := by decide +kernel
theorem dX11_back_67 : decode cX11_back 67 = .ok (.isub, 1) := by decide +kernel
theorem dX11_back_68 : decode cX11_back 68 = .ok (.ireturn, 1) := by decide +kernel
def wW_X11_back (G : GG) (h0 h1 h2 h3 h4 y0_2 y0_3 y0_4 y0_6 y0_18 y0_21 y0_22 y0_23 y0_24 y0_25 y0_26 y0_33 y0_34 y0_38 y0_39 y0_40 y0_41 y0_42 y0_43 y0_45 y0_46 : Nat) (x0_5 : Int32) (x0_7 : Int32) (x0_8 : Int32) (x0_9 : Int32) (x0_10 : Int32) (x0_11 : Int32) (x0_12 : Int32) (x0_13 : Int32) (x0_14 : Int32) (x0_15 : Int32) (x0_16 : Int32) (x0_17 : Int32) (x0_19 : Int32) (x0_20 : Int32) (x0_27 : Int32) (x0_28 : Int32) (x0_29 : Int32) (x0_30 : Int32) (x0_31 : Int32) (x0_32 : Int32) (x0_35 : Int32) (x0_36 : Int32) (x0_37 : Int32) (x0_44 : Int32) (x0_49 : Int32) (x0_50 : Int32) (a1 : Nat → Int32) (a2 : Nat → Int32) (a3 : Nat → Int32) (a4 : Nat → Int32) : va_W := [(h0, .inr (11, [.ref h1, .ref h2, .ref y0_2, .ref y0_3, .ref y0_4, .int x0_5, .ref y0_6, .int x0_7, .int x0_8, .int x0_9, .int x0_10, .int x0_11, .int x0_12, .int x0_13, .int x0_14, .int x0_15, .int x0_16, .int x0_17, .ref y0_18, .int x0_19, .int x0_20, .ref y0_21, .ref y0_22, .ref y0_23, .ref y0_24, .ref y0_25, .ref y0_26, .int x0_27, .int x0_28, .int x0_29, .int x0_30, .int x0_31, .int x0_32, .ref y0_33, .ref y0_34, .int x0_35, .int x0_36, .int x0_37, .ref y0_38, .ref y0_39, .ref y0_40, .ref y0_41, .ref y0_42, .ref y0_43, .int x0_44, .ref y0_45, .ref y0_46, .ref h3, .ref h4, .int x0_49, .int x0_50])), (h1, .inl (G.2.1, 121, .inl a1)), (h2, .inl (G.2.1, 2, .inl a2)), (h3, .inl (G.2.1, 242, .inl a3)), (h4, .inl (G.2.2.1, 2, .inl a4))]
set_option maxHeartbeats 4000000 in
set_option maxRecDepth 100000 in
theorem c_X11_back (l : Launch) (G : GG) (h0 h1 h2 h3 h4 y0_2 y0_3 y0_4 y0_6 y0_18 y0_21 y0_22 y0_23 y0_24 y0_25 y0_26 y0_33 y0_34 y0_38 y0_39 y0_40 y0_41 y0_42 y0_43 y0_45 y0_46 : Nat) (sz : Nat) (x0_5 : Int32) (x0_7 : Int32) (x0_8 : Int32) (x0_9 : Int32) (x0_10 : Int32) (x0_11 : Int32) (x0_12 : Int32) (x0_13 : Int32) (x0_14 : Int32) (x0_15 : Int32) (x0_16 : Int32) (x0_17 : Int32) (x0_19 : Int32) (x0_20 : Int32) (x0_27 : Int32) (x0_28 : Int32) (x0_29 : Int32) (x0_30 : Int32) (x0_31 : Int32) (x0_32 : Int32) (x0_35 : Int32) (x0_36 : Int32) (x0_37 : Int32) (x0_44 : Int32) (x0_49 : Int32) (x0_50 : Int32) (a1 : Nat → Int32) (a2 : Nat → Int32) (a3 : Nat → Int32) (a4 : Nat → Int32) (F : Nat) (b1 : Int32)  (r0 : Int32) (e_x0_49 : Int32) (e_x0_50 : Int32) (e_a1 : Nat → Int32) (hf : p_X11_back F x0_5 x0_49 x0_50 a1 a2 a3 a4 b1 = some (r0, e_x0_49, e_x0_50, e_a1)) : Met l yX11_back (.code yX11_back cX11_back 3 (some .int) :: gtbl) ({ frames := 4, cells := 0, slots := 0, locals := 87 } : Room) (PcS G [.ref h0, .int b1] (wW_X11_back G h0 h1 h2 h3 h4 y0_2 y0_3 y0_4 y0_6 y0_18 y0_21 y0_22 y0_23 y0_24 y0_25 y0_26 y0_33 y0_34 y0_38 y0_39 y0_40 y0_41 y0_42 y0_43 y0_45 y0_46 x0_5 x0_7 x0_8 x0_9 x0_10 x0_11 x0_12 x0_13 x0_14 x0_15 x0_16 x0_17 x0_19 x0_20 x0_27 x0_28 x0_29 x0_30 x0_31 x0_32 x0_35 x0_36 x0_37 x0_44 x0_49 x0_50 a1 a2 a3 a4) sz) (QiS G r0 (va_A (wW_X11_back G h0 h1 h2 h3 h4 y0_2 y0_3 y0_4 y0_6 y0_18 y0_21 y0_22 y0_23 y0_24 y0_25 y0_26 y0_33 y0_34 y0_38 y0_39 y0_40 y0_41 y0_42 y0_43 y0_45 y0_46 x0_5 x0_7 x0_8 x0_9 x0_10 x0_11 x0_12 x0_13 x0_14 x0_15 x0_16 x0_17 x0_19 x0_20 x0_27 x0_28 x0_29 x0_30 x0_31 x0_32 x0_35 x0_36 x0_37 x0_44 x0_49 x0_50 a1 a2 a3 a4) sz) (wW_X11_back G h0 h1 h2 h3 h4 y0_2 y0_3 y0_4 y0_6 y0_18 y0_21 y0_22 y0_23 y0_24 y0_25 y0_26 y0_33 y0_34 y0_38 y0_39 y0_40 y0_41 y0_42 y0_43 y0_45 y0_46 x0_5 x0_7 x0_8 x0_9 x0_10 x0_11 x0_12 x0_13 x0_14 x0_15 x0_16 x0_17 x0_19 x0_20 x0_27 x0_28 x0_29 x0_30 x0_31 x0_32 x0_35 x0_36 x0_37 x0_44 e_x0_49 e_x0_50 e_a1 a2 a3 a4)) 0 0 (va_A (wW_X11_back G h0 h1 h2 h3 h4 y0_2 y0_3 y0_4 y0_6 y0_18 y0_21 y0_22 y0_23 y0_24 y0_25 y0_26 y0_33 y0_34 y0_38 y0_39 y0_40 y0_41 y0_42 y0_43 y0_45 y0_46 x0_5 x0_7 x0_8 x0_9 x0_10 x0_11 x0_12 x0_13 x0_14 x0_15 x0_16 x0_17 x0_19 x0_20 x0_27 x0_28 x0_29 x0_30 x0_31 x0_32 x0_35 x0_36 x0_37 x0_44 x0_49 x0_50 a1 a2 a3 a4) sz) := by
  refine met_start (by decide) (Nat.le_of_ble_eq_true rfl) ?_
  intro p e s m below meth c hC hr hlk hnm hK hP hD hA hS hX ls hl
  obtain ⟨hx, hb, hml, hown, ht0⟩ := hC
  have hown : s.vm.findClass RX11 = some m.cls := hown
  generalize va_A (wW_X11_back G h0 h1 h2 h3 h4 y0_2 y0_3 y0_4 y0_6 y0_18 y0_21 y0_22 y0_23 y0_24 y0_25 y0_26 y0_33 y0_34 y0_38 y0_39 y0_40 y0_41 y0_42 y0_43 y0_45 y0_46 x0_5 x0_7 x0_8 x0_9 x0_10 x0_11 x0_12 x0_13 x0_14 x0_15 x0_16 x0_17 x0_19 x0_20 x0_27 x0_28 x0_29 x0_30 x0_31 x0_32 x0_35 x0_36 x0_37 x0_44 x0_49 x0_50 a1 a2 a3 a4) sz = A at hD hA hS hX ⊢
  have hl : lv_has ls 3 [(0, .ref h0), (1, .int b1)] := hl
  have hf : p_X11_back F x0_5 x0_49 x0_50 a1 a2 a3 a4 b1 = some (r0, e_x0_49, e_x0_50, e_a1) := hf
  have kL22 : ∀ (c22_1 : Int32) (n22 : Nat) (u22_2 : Int32) (x0_49_22 : Int32) (x0_50_22 : Int32) (a1_22 : Nat → Int32), p_X11_back_L22 F x0_5 a2 a3 a4 c22_1 n22 u22_2 x0_49_22 x0_50_22 a1_22 = some (r0, e_x0_49, e_x0_50, e_a1) → ∀ (H : Heap) (locs : List Loc), va_P G.1 vwCl (wW_X11_back G h0 h1 h2 h3 h4 y0_2 y0_3 y0_4 y0_6 y0_18 y0_21 y0_22 y0_23 y0_24 y0_25 y0_26 y0_33 y0_34 y0_38 y0_39 y0_40 y0_41 y0_42 y0_43 y0_45 y0_46 x0_5 x0_7 x0_8 x0_9 x0_10 x0_11 x0_12 x0_13 x0_14 x0_15 x0_16 x0_17 x0_19 x0_20 x0_27 x0_28 x0_29 x0_30 x0_31 x0_32 x0_35 x0_36 x0_37 x0_44 x0_49_22 x0_50_22 a1_22 a2 a3 a4) H → va_D A (wW_X11_back G h0 h1 h2 h3 h4 y0_2 y0_3 y0_4 y0_6 y0_18 y0_21 y0_22 y0_23 y0_24 y0_25 y0_26 y0_33 y0_34 y0_38 y0_39 y0_40 y0_41 y0_42 y0_43 y0_45 y0_46 x0_5 x0_7 x0_8 x0_9 x0_10 x0_11 x0_12 x0_13 x0_14 x0_15 x0_16 x0_17 x0_19 x0_20 x0_27 x0_28 x0_29 x0_30 x0_31 x0_32 x0_35 x0_36 x0_37 x0_44 x0_49_22 x0_50_22 a1_22 a2 a3 a4) → va_S A s.heap H locs → ∀ ls : Array Slot, lv_has ls 3 [(0, .ref h0), (1, .int c22_1), (2, .int u22_2)] → W p l e ({ frames := 4, cells := 0, slots := 0, locals := 87 } : Room) s m (List.toArray [.ref h0, .int b1]) below meth c H locs 0 0 (MQ below (QiS G r0 A (wW_X11_back G h0 h1 h2 h3 h4 y0_2 y0_3 y0_4 y0_6 y0_18 y0_21 y0_22 y0_23 y0_24 y0_25 y0_26 y0_33 y0_34 y0_38 y0_39 y0_40 y0_41 y0_42 y0_43 y0_45 y0_46 x0_5 x0_7 x0_8 x0_9 x0_10 x0_11 x0_12 x0_13 x0_14 x0_15 x0_16 x0_17 x0_19 x0_20 x0_27 x0_28 x0_29 x0_30 x0_31 x0_32 x0_35 x0_36 x0_37 x0_44 e_x0_49 e_x0_50 e_a1 a2 a3 a4)) (List.toArray [.ref h0, .int b1]) s 0 0 A) (F0 m 22 ls []) := by
    intro c22_1 n22
    induction n22 with
    | zero =>
      intro u22_2 x0_49_22 x0_50_22 a1_22 hf
      cases hf
    | succ n22 ih22 =>
      intro u22_2 x0_49_22 x0_50_22 a1_22 hf H locs hP hD hS ls hl
      have hf : p_X11_back_L22b F x0_5 a2 a3 a4 c22_1 (p_X11_back_L22 F x0_5 a2 a3 a4 c22_1 n22) u22_2 x0_49_22 x0_50_22 a1_22 = some (r0, e_x0_49, e_x0_50, e_a1) := hf
      refine lv_iload_n hx hb dX11_back_22 rfl (lv_at hl 2 rfl) ?_
      refine lv_bipush (v := (121 : Int32)) hx hb dX11_back_23 (by decide) ?_
      refine lv_icmp_ge (tgt := 51) hx hb dX11_back_25 (by decide) (fun c1 => ?_) (fun c1 => ?_)
      · have hf := of_pos hf c1
        refine lv_aload_n hx hb dX11_back_51 rfl (lv_at hl 0 rfl) ?_
        refine lv_iconst (v := (0 : Int32)) hx hb dX11_back_52 (by decide) ?_
        refine va_put (ci := 11) (v := .int (0 : Int32)) (ty := .int) (C := RX11) (T := TX11) (N := 51) hx hb ht0 iX11 tyX11 tyX11_ok nmX11 hown hK hP hD hS 0 rfl rfl 49 (by decide) (ht0 _ wd_1455) (fun _ h9 => h9) rfl rfl rfl rfl (Nat.le_of_ble_eq_true rfl) dX11_back_53 (fun H locs hP hD hS => ?_)
        have hP : va_P G.1 vwCl (wW_X11_back G h0 h1 h2 h3 h4 y0_2 y0_3 y0_4 y0_6 y0_18 y0_21 y0_22 y0_23 y0_24 y0_25 y0_26 y0_33 y0_34 y0_38 y0_39 y0_40 y0_41 y0_42 y0_43 y0_45 y0_46 x0_5 x0_7 x0_8 x0_9 x0_10 x0_11 x0_12 x0_13 x0_14 x0_15 x0_16 x0_17 x0_19 x0_20 x0_27 x0_28 x0_29 x0_30 x0_31 x0_32 x0_35 x0_36 x0_37 x0_44 (0 : Int32) x0_50_22 a1_22 a2 a3 a4) H := hP
        have hD : va_D A (wW_X11_back G h0 h1 h2 h3 h4 y0_2 y0_3 y0_4 y0_6 y0_18 y0_21 y0_22 y0_23 y0_24 y0_25 y0_26 y0_33 y0_34 y0_38 y0_39 y0_40 y0_41 y0_42 y0_43 y0_45 y0_46 x0_5 x0_7 x0_8 x0_9 x0_10 x0_11 x0_12 x0_13 x0_14 x0_15 x0_16 x0_17 x0_19 x0_20 x0_27 x0_28 x0_29 x0_30 x0_31 x0_32 x0_35 x0_36 x0_37 x0_44 (0 : Int32) x0_50_22 a1_22 a2 a3 a4) := hD
        refine lv_aload_n hx hb dX11_back_56 rfl (lv_at hl 0 rfl) ?_
        refine lv_iconst (v := (0 : Int32)) hx hb dX11_back_57 (by decide) ?_
        refine va_put (ci := 11) (v := .int (0 : Int32)) (ty := .int) (C := RX11) (T := TX11) (N := 51) hx hb ht0 iX11 tyX11 tyX11_ok nmX11 hown hK hP hD hS 0 rfl rfl 50 (by decide) (ht0 _ wd_1456) (fun _ h9 => h9) rfl rfl rfl rfl (Nat.le_of_ble_eq_true rfl) dX11_back_58 (fun H locs hP hD hS => ?_)
        have hP : va_P G.1 vwCl (wW_X11_back G h0 h1 h2 h3 h4 y0_2 y0_3 y0_4 y0_6 y0_18 y0_21 y0_22 y0_23 y0_24 y0_25 y0_26 y0_33 y0_34 y0_38 y0_39 y0_40 y0_41 y0_42 y0_43 y0_45 y0_46 x0_5 x0_7 x0_8 x0_9 x0_10 x0_11 x0_12 x0_13 x0_14 x0_15 x0_16 x0_17 x0_19 x0_20 x0_27 x0_28 x0_29 x0_30 x0_31 x0_32 x0_35 x0_36 x0_37 x0_44 (0 : Int32) (0 : Int32) a1_22 a2 a3 a4) H := hP
        have hD : va_D A (wW_X11_back G h0 h1 h2 h3 h4 y0_2 y0_3 y0_4 y0_6 y0_18 y0_21 y0_22 y0_23 y0_24 y0_25 y0_26 y0_33 y0_34 y0_38 y0_39 y0_40 y0_41 y0_42 y0_43 y0_45 y0_46 x0_5 x0_7 x0_8 x0_9 x0_10 x0_11 x0_12 x0_13 x0_14 x0_15 x0_16 x0_17 x0_19 x0_20 x0_27 x0_28 x0_29 x0_30 x0_31 x0_32 x0_35 x0_36 x0_37 x0_44 (0 : Int32) (0 : Int32) a1_22 a2 a3 a4) := hD
        refine lv_bipush (v := (16 : Int32)) hx hb dX11_back_61 (by decide) ?_
        refine lv_aload_n hx hb dX11_back_63 rfl (lv_at hl 0 rfl) ?_
        obtain ⟨r_64_1, hc_r_64_1, hf⟩ := of_bnd hf
        refine cl_Vi (w2 := (wW_X11_back G h0 h1 h2 h3 h4 y0_2 y0_3 y0_4 y0_6 y0_18 y0_21 y0_22 y0_23 y0_24 y0_25 y0_26 y0_33 y0_34 y0_38 y0_39 y0_40 y0_41 y0_42 y0_43 y0_45 y0_46 x0_5 x0_7 x0_8 x0_9 x0_10 x0_11 x0_12 x0_13 x0_14 x0_15 x0_16 x0_17 x0_19 x0_20 x0_27 x0_28 x0_29 x0_30 x0_31 x0_32 x0_35 x0_36 x0_37 x0_44 (0 : Int32) (0 : Int32) a1_22 a2 a3 a4)) (As := []) (rest := [.int (16 : Int32)]) ⟨hx, hb, hml, hown, ht0⟩ (c_X11_strangeMany l G h0 h1 h2 y0_2 y0_3 y0_4 y0_6 y0_18 y0_21 y0_22 y0_23 y0_24 y0_25 y0_26 y0_33 y0_34 y0_38 y0_39 y0_40 y0_41 y0_42 y0_43 y0_45 y0_46 h3 h4 _ x0_5 x0_7 x0_8 x0_9 x0_10 x0_11 x0_12 x0_13 x0_14 x0_15 x0_16 x0_17 x0_19 x0_20 x0_27 x0_28 x0_29 x0_30 x0_31 x0_32 x0_35 x0_36 x0_37 x0_44 (0 : Int32) (0 : Int32) a1_22 a2 F _ hc_r_64_1) yk_X11_strangeMany wd_1718 ⟨rfl, rfl, by decide, by decide⟩ ⟨Nat.le_refl _, Nat.le_refl _⟩ hX hK hP hD hS hA [0, 1, 2] [3, 4] [2, 3, 4, 0, 1] (va_recv hK hP (ci := 11) (q0 := 0) rfl rfl) rfl rfl (by decide) rfl rfl rfl rfl rfl hl.1 rfl (Nat.le_of_ble_eq_true rfl) dX11_back_64 (fun H locs hP hD hS => ?_)
        refine lv_isub hx hb dX11_back_67 ?_
        cases hf
        exact ret_i hx hb hr hlk hK hP hD hS dX11_back_68
      · have hf := of_neg hf c1
        refine lv_aload_n hx hb dX11_back_28 rfl (lv_at hl 0 rfl) ?_
        refine va_get (ci := 11) (v := .ref h1) (C := RX11) (T := TX11) (N := 51) hx hb ht0 iX11 hown hK hP 0 rfl rfl 0 (by decide) (ht0 _ wd_1406) (fun _ h9 => h9) rfl dX11_back_29 ?_
        refine lv_iload_n hx hb dX11_back_32 rfl (lv_at hl 2 rfl) ?_
        refine lv_aload_n hx hb dX11_back_33 rfl (lv_at hl 0 rfl) ?_
        refine va_get (ci := 11) (v := .ref h3) (C := RX11) (T := TX11) (N := 51) hx hb ht0 iX11 hown hK hP 0 rfl rfl 47 (by decide) (ht0 _ wd_1453) (fun _ h9 => h9) rfl dX11_back_34 ?_
        refine lv_bipush (v := (121 : Int32)) hx hb dX11_back_37 (by decide) ?_
        refine lv_iload_n hx hb dX11_back_39 rfl (lv_at hl 1 rfl) ?_
        refine lv_imul hx hb dX11_back_40 ?_
        refine lv_iload_n hx hb dX11_back_41 rfl (lv_at hl 2 rfl) ?_
        refine lv_iadd hx hb dX11_back_42 ?_
        obtain ⟨g3, hf⟩ := of_grd hf
        refine va_iald hx hb hK hP 3 0 rfl rfl g3 dX11_back_43 ?_
        obtain ⟨g4, hf⟩ := of_grd hf
        refine va_iast hx hb hK hP hD hS 1 0 rfl rfl g4 dX11_back_44 (fun H locs hP hD hS => ?_)
        have hP : va_P G.1 vwCl (wW_X11_back G h0 h1 h2 h3 h4 y0_2 y0_3 y0_4 y0_6 y0_18 y0_21 y0_22 y0_23 y0_24 y0_25 y0_26 y0_33 y0_34 y0_38 y0_39 y0_40 y0_41 y0_42 y0_43 y0_45 y0_46 x0_5 x0_7 x0_8 x0_9 x0_10 x0_11 x0_12 x0_13 x0_14 x0_15 x0_16 x0_17 x0_19 x0_20 x0_27 x0_28 x0_29 x0_30 x0_31 x0_32 x0_35 x0_36 x0_37 x0_44 x0_49_22 x0_50_22 (upd a1_22 u22_2.toNatClampNeg (a3 (((121 : Int32) * c22_1) + u22_2).toNatClampNeg)) a2 a3 a4) H := hP
        have hD : va_D A (wW_X11_back G h0 h1 h2 h3 h4 y0_2 y0_3 y0_4 y0_6 y0_18 y0_21 y0_22 y0_23 y0_24 y0_25 y0_26 y0_33 y0_34 y0_38 y0_39 y0_40 y0_41 y0_42 y0_43 y0_45 y0_46 x0_5 x0_7 x0_8 x0_9 x0_10 x0_11 x0_12 x0_13 x0_14 x0_15 x0_16 x0_17 x0_19 x0_20 x0_27 x0_28 x0_29 x0_30 x0_31 x0_32 x0_35 x0_36 x0_37 x0_44 x0_49_22 x0_50_22 (upd a1_22 u22_2.toNatClampNeg (a3 (((121 : Int32) * c22_1) + u22_2).toNatClampNeg)) a2 a3 a4) := hD
        refine lv_iinc (v := u22_2 + (1 : Int32)) (lv' := [(2, .int (u22_2 + (1 : Int32))), (0, .ref h0), (1, .int c22_1)]) hx hb dX11_back_45 hl (k := 2) rfl (by rfl) (by decide) rfl (fun ls hl => ?_)
        refine lv_goto (tgt := 22) hx hb dX11_back_48 (by decide) ?_
        exact ih22 _ _ _ _ hf _ _ hP hD hS _ (lv_sub hl [1, 2, 0] rfl)
  refine lv_iload_n hx hb dX11_back_0 rfl (lv_at hl 1 rfl) ?_
  refine lv_iconst (v := (0 : Int32)) hx hb dX11_back_1 (by decide) ?_
  refine lv_iconst (v := (1 : Int32)) hx hb dX11_back_2 (by decide) ?_
  obtain ⟨r_3_4, hc_r_3_4, hf⟩ := of_bnd hf
  refine cl_Si (w2 := (wW_X11_back G h0 h1 h2 h3 h4 y0_2 y0_3 y0_4 y0_6 y0_18 y0_21 y0_22 y0_23 y0_24 y0_25 y0_26 y0_33 y0_34 y0_38 y0_39 y0_40 y0_41 y0_42 y0_43 y0_45 y0_46 x0_5 x0_7 x0_8 x0_9 x0_10 x0_11 x0_12 x0_13 x0_14 x0_15 x0_16 x0_17 x0_19 x0_20 x0_27 x0_28 x0_29 x0_30 x0_31 x0_32 x0_35 x0_36 x0_37 x0_44 x0_49 x0_50 a1 a2 a3 a4)) (As := [.int b1, .int (0 : Int32), .int (1 : Int32)]) (rest := []) ⟨hx, hb, hml, hown, ht0⟩ (c_X11_isIn l G _ F b1 (0 : Int32) (1 : Int32) _ hc_r_3_4) yk_X11_isIn wd_1321 ⟨rfl, rfl, by decide, by decide⟩ ⟨Nat.le_refl _, Nat.le_refl _⟩ hX hK hP hD hS hA [] [0, 1, 2, 3, 4] [0, 1, 2, 3, 4] rfl rfl (by decide) rfl rfl rfl rfl rfl hl.1 rfl (Nat.le_of_ble_eq_true rfl) dX11_back_3 (fun H locs hP hD hS => ?_)
  refine lv_if_eq (tgt := 18) hx hb dX11_back_6 (by decide) (fun c6 => ?_) (fun c6 => ?_)
  · have hf := of_pos hf c6
    refine lv_iconst (v := (-1 : Int32)) hx hb dX11_back_18 (by decide) ?_
    cases hf
    exact ret_i hx hb hr hlk hK hP hD hS dX11_back_19
  · have hf := of_neg hf c6
    refine lv_aload_n hx hb dX11_back_9 rfl (lv_at hl 0 rfl) ?_
    refine va_get (ci := 11) (v := .ref h4) (C := RX11) (T := TX11) (N := 51) hx hb ht0 iX11 hown hK hP 0 rfl rfl 48 (by decide) (ht0 _ wd_1454) (fun _ h9 => h9) rfl dX11_back_10 ?_
    refine lv_iload_n hx hb dX11_back_13 rfl (lv_at hl 1 rfl) ?_
    obtain ⟨g7, hf⟩ := of_grd hf
    refine va_zald hx hb hK hP 4 1 rfl rfl g7 dX11_back_14 ?_
    refine lv_if_ne (tgt := 20) hx hb dX11_back_15 (by decide) (fun c8 => ?_) (fun c8 => ?_)
    · have hf := of_neg hf c8
      refine lv_iconst (v := (0 : Int32)) hx hb dX11_back_20 (by decide) ?_
      refine lv_istore_n (lv' := [(2, .int (0 : Int32)), (0, .ref h0), (1, .int b1)]) hx hb dX11_back_21 rfl hl (by decide) rfl (fun ls hl => ?_)
      exact kL22 _ _ _ _ _ _ hf _ _ hP hD hS _ (lv_sub hl [1, 2, 0] rfl)
    · have hf := of_pos hf c8
      refine lv_iconst (v := (-1 : Int32)) hx hb dX11_back_18 (by decide) ?_
      cases hf
      exact ret_i hx hb hr hlk hK hP hD hS dX11_back_19
theorem yk_X11_back : ykV yX11_back RX11 cX11_back 3 (some .int) 1 := ⟨wd_1961, wd_1962, wd_142, wd_1963, rfl, by decide +kernel, by decide +kernel, by decide +kernel⟩
theorem dX11_slipped_0 : decode cX11_slipped 0 = .ok (.iconst 0, 1) := by decide +kernel
theorem dX11_slipped_1 : decode cX11_slipped 1 = .ok (.istore_n 1, 1) := by decide +kernel
theorem dX11_slipped_2 : decode cX11_slipped 2 = .ok (.iconst 0, 1) := by decide +kernel
theorem dX11_slipped_3 : decode cX11_slipped 3 = .ok (.istore_n 2, 1) := by decide +kernel
theorem dX11_slipped_4 : decode cX11_slipped 4 = .ok (.iload_n 2, 1) := by decide +kernel
theorem dX11_slipped_5 : decode cX11_slipped 5 = .ok (.bipush 16, 2) := by decide +kernel
theorem dX11_slipped_7 : decode cX11_slipped 7 = .ok (.if_icmp .ge 42, 3) := by decide +kernel
theorem dX11_slipped_10 : decode cX11_slipped 10 = .ok (.iload_n 1, 1) := by decide +kernel
theorem dX11_slipped_11 : decode cX11_slipped 11 = .ok (.aload_n 0, 1) := by decide +kernel
theorem dX11_slipped_12 : decode cX11_slipped 12 = .ok (.aload_n 0, 1) := by decide +kernel
theorem dX11_slipped_13 : decode cX11_slipped 13 = .ok (.getfield 7, 3) := by decide +kernel
theorem dX11_slipped_16 : decode cX11_slipped 16 = .ok (.bipush 33, 2) := by decide +kernel
theorem dX11_slipped_18 : decode cX11_slipped 18 = .ok (.iload_n 2, 1) := by decide +kernel
theorem dX11_slipped_19 : decode cX11_slipped 19 = .ok (.iadd, 1) := by decide +kernel
theorem dX11_slipped_20 : decode cX11_slipped 20 = .ok (.iaload, 1) := by decide +kernel
theorem dX11_slipped_21 : decode cX11_slipped 21 = .ok (.aload_n 0, 1) := by decide +kernel
theorem dX11_slipped_22 : decode cX11_slipped 22 = .ok (.getfield 7, 3) := by decide +kernel
theorem dX11_slipped_25 : decode cX11_slipped 25 = .ok (.bipush 49, 2) := by decide +kernel
theorem dX11_slipped_27 : decode cX11_slipped 27 = .ok (.iload_n 2, 1) := by decide +kernel
theorem dX11_slipped_28 : decode cX11_slipped 28 = .ok (.iadd, 1) := by decide +kernel
theorem dX11_slipped_29 : decode cX11_slipped 29 = .ok (.iaload, 1) := by decide +kernel
theorem dX11_slipped_30 : decode cX11_slipped 30 = .ok (.invokevirtual 305, 3) := by decide +kernel
theorem dX11_slipped_33 : decode cX11_slipped 33 = .ok (.ifCond .ne 7, 3) := by decide +kernel
theorem dX11_slipped_36 : decode cX11_slipped 36 = .ok (.iconst 0, 1) := by decide +kernel
theorem dX11_slipped_37 : decode cX11_slipped 37 = .ok (.goto 4, 3) := by decide +kernel
theorem dX11_slipped_40 : decode cX11_slipped 40 = .ok (.iconst 1, 1) := by decide +kernel
theorem dX11_slipped_41 : decode cX11_slipped 41 = .ok (.iadd, 1) := by decide +kernel
theorem dX11_slipped_42 : decode cX11_slipped 42 = .ok (.istore_n 1, 1) := by decide +kernel
theorem dX11_slipped_43 : decode cX11_slipped 43 = .ok (.iinc 2 1, 3) := by decide +kernel
theorem dX11_slipped_46 : decode cX11_slipped 46 = .ok (.goto (-42), 3) := by decide +kernel
theorem dX11_slipped_49 : decode cX11_slipped 49 = .ok (.iload_n 1, 1) := by decide +kernel
theorem dX11_slipped_50 : decode cX11_slipped 50 = .ok (.ireturn, 1) := by decide +kernel
def wW_X11_slipped (G : GG) (h0 h1 h2 y0_2 y0_3 y0_4 y0_6 y0_18 y0_21 y0_22 y0_23 y0_24 y0_25 y0_26 y0_33 y0_34 y0_38 y0_39 y0_40 y0_41 y0_42 y0_43 y0_45 y0_46 y0_47 y0_48 : Nat) (x0_5 : Int32) (x0_7 : Int32) (x0_8 : Int32) (x0_9 : Int32) (x0_10 : Int32) (x0_11 : Int32) (x0_12 : Int32) (x0_13 : Int32) (x0_14 : Int32) (x0_15 : Int32) (x0_16 : Int32) (x0_17 : Int32) (x0_19 : Int32) (x0_20 : Int32) (x0_27 : Int32) (x0_28 : Int32) (x0_29 : Int32) (x0_30 : Int32) (x0_31 : Int32) (x0_32 : Int32) (x0_35 : Int32) (x0_36 : Int32) (x0_37 : Int32) (x0_44 : Int32) (x0_49 : Int32) (x0_50 : Int32) (a1 : Nat → Int32) (a2 : Nat → Int32) : va_W := [(h0, .inr (11, [.ref h1, .ref h2, .ref y0_2, .ref y0_3, .ref y0_4, .int x0_5, .ref y0_6, .int x0_7, .int x0_8, .int x0_9, .int x0_10, .int x0_11, .int x0_12, .int x0_13, .int x0_14, .int x0_15, .int x0_16, .int x0_17, .ref y0_18, .int x0_19, .int x0_20, .ref y0_21, .ref y0_22, .ref y0_23, .ref y0_24, .ref y0_25, .ref y0_26, .int x0_27, .int x0_28, .int x0_29, .int x0_30, .int x0_31, .int x0_32, .ref y0_33, .ref y0_34, .int x0_35, .int x0_36, .int x0_37, .ref y0_38, .ref y0_39, .ref y0_40, .ref y0_41, .ref y0_42, .ref y0_43, .int x0_44, .ref y0_45, .ref y0_46, .ref y0_47, .ref y0_48, .int x0_49, .int x0_50])), (h1, .inl (G.2.1, 121, .inl a1)), (h2, .inl (G.2.1, 2, .inl a2))]
set_option maxHeartbeats 4000000 in
set_option maxRecDepth 100000 in
theorem c_X11_slipped (l : Launch) (G : GG) (h0 h1 h2 y0_2 y0_3 y0_4 y0_6 y0_18 y0_21 y0_22 y0_23 y0_24 y0_25 y0_26 y0_33 y0_34 y0_38 y0_39 y0_40 y0_41 y0_42 y0_43 y0_45 y0_46 y0_47 y0_48 : Nat) (sz : Nat) (x0_5 : Int32) (x0_7 : Int32) (x0_8 : Int32) (x0_9 : Int32) (x0_10 : Int32) (x0_11 : Int32) (x0_12 : Int32) (x0_13 : Int32) (x0_14 : Int32) (x0_15 : Int32) (x0_16 : Int32) (x0_17 : Int32) (x0_19 : Int32) (x0_20 : Int32) (x0_27 : Int32) (x0_28 : Int32) (x0_29 : Int32) (x0_30 : Int32) (x0_31 : Int32) (x0_32 : Int32) (x0_35 : Int32) (x0_36 : Int32) (x0_37 : Int32) (x0_44 : Int32) (x0_49 : Int32) (x0_50 : Int32) (a1 : Nat → Int32) (a2 : Nat → Int32) (F : Nat)   (r0 : Int32) (hf : p_X11_slipped F x0_5 a1 a2  = some r0) : Met l yX11_slipped (.code yX11_slipped cX11_slipped 3 (some .int) :: gtbl) ({ frames := 3, cells := 0, slots := 0, locals := 66 } : Room) (PcS G [.ref h0] (wW_X11_slipped G h0 h1 h2 y0_2 y0_3 y0_4 y0_6 y0_18 y0_21 y0_22 y0_23 y0_24 y0_25 y0_26 y0_33 y0_34 y0_38 y0_39 y0_40 y0_41 y0_42 y0_43 y0_45 y0_46 y0_47 y0_48 x0_5 x0_7 x0_8 x0_9 x0_10 x0_11 x0_12 x0_13 x0_14 x0_15 x0_16 x0_17 x0_19 x0_20 x0_27 x0_28 x0_29 x0_30 x0_31 x0_32 x0_35 x0_36 x0_37 x0_44 x0_49 x0_50 a1 a2) sz) (QiS G r0 (va_A (wW_X11_slipped G h0 h1 h2 y0_2 y0_3 y0_4 y0_6 y0_18 y0_21 y0_22 y0_23 y0_24 y0_25 y0_26 y0_33 y0_34 y0_38 y0_39 y0_40 y0_41 y0_42 y0_43 y0_45 y0_46 y0_47 y0_48 x0_5 x0_7 x0_8 x0_9 x0_10 x0_11 x0_12 x0_13 x0_14 x0_15 x0_16 x0_17 x0_19 x0_20 x0_27 x0_28 x0_29 x0_30 x0_31 x0_32 x0_35 x0_36 x0_37 x0_44 x0_49 x0_50 a1 a2) sz) (wW_X11_slipped G h0 h1 h2 y0_2 y0_3 y0_4 y0_6 y0_18 y0_21 y0_22 y0_23 y0_24 y0_25 y0_26 y0_33 y0_34 y0_38 y0_39 y0_40 y0_41 y0_42 y0_43 y0_45 y0_46 y0_47 y0_48 x0_5 x0_7 x0_8 x0_9 x0_10 x0_11 x0_12 x0_13 x0_14 x0_15 x0_16 x0_17 x0_19 x0_20 x0_27 x0_28 x0_29 x0_30 x0_31 x0_32 x0_35 x0_36 x0_37 x0_44 x0_49 x0_50 a1 a2)) 0 0 (va_A (wW_X11_slipped G h0 h1 h2 y0_2 y0_3 y0_4 y0_6 y0_18 y0_21 y0_22 y0_23 y0_24 y0_25 y0_26 y0_33 y0_34 y0_38 y0_39 y0_40 y0_41 y0_42 y0_43 y0_45 y0_46 y0_47 y0_48 x0_5 x0_7 x0_8 x0_9 x0_10 x0_11 x0_12 x0_13 x0_14 x0_15 x0_16 x0_17 x0_19 x0_20 x0_27 x0_28 x0_29 x0_30 x0_31 x0_32 x0_35 x0_36 x0_37 x0_44 x0_49 x0_50 a1 a2) sz) := by
  refine met_start (by decide) (Nat.le_of_ble_eq_true rfl) ?_
  intro p e s m below meth c hC hr hlk hnm hK hP hD hA hS hX ls hl
  obtain ⟨hx, hb, hml, hown, ht0⟩ := hC
  have hown : s.vm.findClass RX11 = some m.cls := hown
  generalize va_A (wW_X11_slipped G h0 h1 h2 y0_2 y0_3 y0_4 y0_6 y0_18 y0_21 y0_22 y0_23 y0_24 y0_25 y0_26 y0_33 y0_34 y0_38 y0_39 y0_40 y0_41 y0_42 y0_43 y0_45 y0_46 y0_47 y0_48 x0_5 x0_7 x0_8 x0_9 x0_10 x0_11 x0_12 x0_13 x0_14 x0_15 x0_16 x0_17 x0_19 x0_20 x0_27 x0_28 x0_29 x0_30 x0_31 x0_32 x0_35 x0_36 x0_37 x0_44 x0_49 x0_50 a1 a2) sz = A at hD hA hS hX ⊢
  have hl : lv_has ls 3 [(0, .ref h0)] := hl
  have hf : p_X11_slipped F x0_5 a1 a2  = some r0 := hf
  have kL4 : ∀ (n4 : Nat) (u4_1 : Int32) (u4_2 : Int32), p_X11_slipped_L4 F x0_5 a1 a2 n4 u4_1 u4_2 = some r0 → ∀ (H : Heap) (locs : List Loc), va_P G.1 vwCl (wW_X11_slipped G h0 h1 h2 y0_2 y0_3 y0_4 y0_6 y0_18 y0_21 y0_22 y0_23 y0_24 y0_25 y0_26 y0_33 y0_34 y0_38 y0_39 y0_40 y0_41 y0_42 y0_43 y0_45 y0_46 y0_47 y0_48 x0_5 x0_7 x0_8 x0_9 x0_10 x0_11 x0_12 x0_13 x0_14 x0_15 x0_16 x0_17 x0_19 x0_20 x0_27 x0_28 x0_29 x0_30 x0_31 x0_32 x0_35 x0_36 x0_37 x0_44 x0_49 x0_50 a1 a2) H → va_D A (wW_X11_slipped G h0 h1 h2 y0_2 y0_3 y0_4 y0_6 y0_18 y0_21 y0_22 y0_23 y0_24 y0_25 y0_26 y0_33 y0_34 y0_38 y0_39 y0_40 y0_41 y0_42 y0_43 y0_45 y0_46 y0_47 y0_48 x0_5 x0_7 x0_8 x0_9 x0_10 x0_11 x0_12 x0_13 x0_14 x0_15 x0_16 x0_17 x0_19 x0_20 x0_27 x0_28 x0_29 x0_30 x0_31 x0_32 x0_35 x0_36 x0_37 x0_44 x0_49 x0_50 a1 a2) → va_S A s.heap H locs → ∀ ls : Array Slot, lv_has ls 3 [(0, .ref h0), (1, .int u4_1), (2, .int u4_2)] → W p l e ({ frames := 3, cells := 0, slots := 0, locals := 66 } : Room) s m (List.toArray [.ref h0]) below meth c H locs 0 0 (MQ below (QiS G r0 A (wW_X11_slipped G h0 h1 h2 y0_2 y0_3 y0_4 y0_6 y0_18 y0_21 y0_22 y0_23 y0_24 y0_25 y0_26 y0_33 y0_34 y0_38 y0_39 y0_40 y0_41 y0_42 y0_43 y0_45 y0_46 y0_47 y0_48 x0_5 x0_7 x0_8 x0_9 x0_10 x0_11 x0_12 x0_13 x0_14 x0_15 x0_16 x0_17 x0_19 x0_20 x0_27 x0_28 x0_29 x0_30 x0_31 x0_32 x0_35 x0_36 x0_37 x0_44 x0_49 x0_50 a1 a2)) (List.toArray [.ref h0]) s 0 0 A) (F0 m 4 ls []) := by
    intro n4
    induction n4 with
    | zero =>
      intro u4_1 u4_2 hf
      cases hf
    | succ n4 ih4 =>
      have kJ41 : ∀ (u41_2 : Int32) (s41_0 : Int32) (s41_1 : Int32), p_X11_slipped_J41 F x0_5 a1 a2 (p_X11_slipped_L4 F x0_5 a1 a2 n4) u41_2 s41_0 s41_1 = some r0 → ∀ (H : Heap) (locs : List Loc), va_P G.1 vwCl (wW_X11_slipped G h0 h1 h2 y0_2 y0_3 y0_4 y0_6 y0_18 y0_21 y0_22 y0_23 y0_24 y0_25 y0_26 y0_33 y0_34 y0_38 y0_39 y0_40 y0_41 y0_42 y0_43 y0_45 y0_46 y0_47 y0_48 x0_5 x0_7 x0_8 x0_9 x0_10 x0_11 x0_12 x0_13 x0_14 x0_15 x0_16 x0_17 x0_19 x0_20 x0_27 x0_28 x0_29 x0_30 x0_31 x0_32 x0_35 x0_36 x0_37 x0_44 x0_49 x0_50 a1 a2) H → va_D A (wW_X11_slipped G h0 h1 h2 y0_2 y0_3 y0_4 y0_6 y0_18 y0_21 y0_22 y0_23 y0_24 y0_25 y0_26 y0_33 y0_34 y0_38 y0_39 y0_40 y0_41 y0_42 y0_43 y0_45 y0_46 y0_47 y0_48 x0_5 x0_7 x0_8 x0_9 x0_10 x0_11 x0_12 x0_13 x0_14 x0_15 x0_16 x0_17 x0_19 x0_20 x0_27 x0_28 x0_29 x0_30 x0_31 x0_32 x0_35 x0_36 x0_37 x0_44 x0_49 x0_50 a1 a2) → va_S A s.heap H locs → ∀ ls : Array Slot, lv_has ls 3 [(0, .ref h0), (2, .int u41_2)] → W p l e ({ frames := 3, cells := 0, slots := 0, locals := 66 } : Room) s m (List.toArray [.ref h0]) below meth c H locs 0 0 (MQ below (QiS G r0 A (wW_X11_slipped G h0 h1 h2 y0_2 y0_3 y0_4 y0_6 y0_18 y0_21 y0_22 y0_23 y0_24 y0_25 y0_26 y0_33 y0_34 y0_38 y0_39 y0_40 y0_41 y0_42 y0_43 y0_45 y0_46 y0_47 y0_48 x0_5 x0_7 x0_8 x0_9 x0_10 x0_11 x0_12 x0_13 x0_14 x0_15 x0_16 x0_17 x0_19 x0_20 x0_27 x0_28 x0_29 x0_30 x0_31 x0_32 x0_35 x0_36 x0_37 x0_44 x0_49 x0_50 a1 a2)) (List.toArray [.ref h0]) s 0 0 A) (F0 m 41 ls [.int s41_1, .int s41_0]) := by
        intro u41_2 s41_0 s41_1 hf H locs hP hD hS ls hl
        refine lv_iadd hx hb dX11_slipped_41 ?_
        refine lv_istore_n (lv' := [(1, .int (s41_0 + s41_1)), (0, .ref h0), (2, .int u41_2)]) hx hb dX11_slipped_42 rfl hl (by decide) rfl (fun ls hl => ?_)
        refine lv_iinc (v := u41_2 + (1 : Int32)) (lv' := [(2, .int (u41_2 + (1 : Int32))), (1, .int (s41_0 + s41_1)), (0, .ref h0)]) hx hb dX11_slipped_43 hl (k := 2) rfl (by rfl) (by decide) rfl (fun ls hl => ?_)
        refine lv_goto (tgt := 4) hx hb dX11_slipped_46 (by decide) ?_
        exact ih4 _ _ hf _ _ hP hD hS _ (lv_sub hl [2, 1, 0] rfl)
      intro u4_1 u4_2 hf H locs hP hD hS ls hl
      have hf : p_X11_slipped_L4b F x0_5 a1 a2 (p_X11_slipped_L4 F x0_5 a1 a2 n4) u4_1 u4_2 = some r0 := hf
      refine lv_iload_n hx hb dX11_slipped_4 rfl (lv_at hl 2 rfl) ?_
      refine lv_bipush (v := (16 : Int32)) hx hb dX11_slipped_5 (by decide) ?_
      refine lv_icmp_ge (tgt := 49) hx hb dX11_slipped_7 (by decide) (fun c1 => ?_) (fun c1 => ?_)
      · have hf := of_pos hf c1
        refine lv_iload_n hx hb dX11_slipped_49 rfl (lv_at hl 1 rfl) ?_
        cases hf
        exact ret_i hx hb hr hlk hK hP hD hS dX11_slipped_50
      · have hf := of_neg hf c1
        refine lv_iload_n hx hb dX11_slipped_10 rfl (lv_at hl 1 rfl) ?_
        refine lv_aload_n hx hb dX11_slipped_11 rfl (lv_at hl 0 rfl) ?_
        refine lv_aload_n hx hb dX11_slipped_12 rfl (lv_at hl 0 rfl) ?_
        refine va_get (ci := 11) (v := .ref h1) (C := RX11) (T := TX11) (N := 51) hx hb ht0 iX11 hown hK hP 0 rfl rfl 0 (by decide) (ht0 _ wd_1406) (fun _ h9 => h9) rfl dX11_slipped_13 ?_
        refine lv_bipush (v := (33 : Int32)) hx hb dX11_slipped_16 (by decide) ?_
        refine lv_iload_n hx hb dX11_slipped_18 rfl (lv_at hl 2 rfl) ?_
        refine lv_iadd hx hb dX11_slipped_19 ?_
        obtain ⟨g2, hf⟩ := of_grd hf
        refine va_iald hx hb hK hP 1 0 rfl rfl g2 dX11_slipped_20 ?_
        refine lv_aload_n hx hb dX11_slipped_21 rfl (lv_at hl 0 rfl) ?_
        refine va_get (ci := 11) (v := .ref h1) (C := RX11) (T := TX11) (N := 51) hx hb ht0 iX11 hown hK hP 0 rfl rfl 0 (by decide) (ht0 _ wd_1406) (fun _ h9 => h9) rfl dX11_slipped_22 ?_
        refine lv_bipush (v := (49 : Int32)) hx hb dX11_slipped_25 (by decide) ?_
        refine lv_iload_n hx hb dX11_slipped_27 rfl (lv_at hl 2 rfl) ?_
        refine lv_iadd hx hb dX11_slipped_28 ?_
        obtain ⟨g3, hf⟩ := of_grd hf
        refine va_iald hx hb hK hP 1 0 rfl rfl g3 dX11_slipped_29 ?_
        obtain ⟨r_30_3, hc_r_30_3, hf⟩ := of_bnd hf
        refine cl_Vi (w2 := (wW_X11_slipped G h0 h1 h2 y0_2 y0_3 y0_4 y0_6 y0_18 y0_21 y0_22 y0_23 y0_24 y0_25 y0_26 y0_33 y0_34 y0_38 y0_39 y0_40 y0_41 y0_42 y0_43 y0_45 y0_46 y0_47 y0_48 x0_5 x0_7 x0_8 x0_9 x0_10 x0_11 x0_12 x0_13 x0_14 x0_15 x0_16 x0_17 x0_19 x0_20 x0_27 x0_28 x0_29 x0_30 x0_31 x0_32 x0_35 x0_36 x0_37 x0_44 x0_49 x0_50 a1 a2)) (As := [.int (a1 ((33 : Int32) + u4_2).toNatClampNeg), .int (a1 ((49 : Int32) + u4_2).toNatClampNeg)]) (rest := [.int u4_1]) ⟨hx, hb, hml, hown, ht0⟩ (c_X11_syndromeOf l G h0 h1 h2 y0_2 y0_3 y0_4 y0_6 y0_18 y0_21 y0_22 y0_23 y0_24 y0_25 y0_26 y0_33 y0_34 y0_38 y0_39 y0_40 y0_41 y0_42 y0_43 y0_45 y0_46 y0_47 y0_48 _ x0_5 x0_7 x0_8 x0_9 x0_10 x0_11 x0_12 x0_13 x0_14 x0_15 x0_16 x0_17 x0_19 x0_20 x0_27 x0_28 x0_29 x0_30 x0_31 x0_32 x0_35 x0_36 x0_37 x0_44 x0_49 x0_50 a1 a2 F (a1 ((33 : Int32) + u4_2).toNatClampNeg) (a1 ((49 : Int32) + u4_2).toNatClampNeg) _ hc_r_30_3) yk_X11_syndromeOf wd_1635 ⟨rfl, rfl, by decide, by decide⟩ ⟨Nat.le_refl _, Nat.le_refl _⟩ hX hK hP hD hS hA [0, 1, 2] [] [0, 1, 2] (va_recv hK hP (ci := 11) (q0 := 0) rfl rfl) rfl rfl (by decide) rfl rfl rfl rfl rfl hl.1 rfl (Nat.le_of_ble_eq_true rfl) dX11_slipped_30 (fun H locs hP hD hS => ?_)
        refine lv_if_ne (tgt := 40) hx hb dX11_slipped_33 (by decide) (fun c5 => ?_) (fun c5 => ?_)
        · have hf := of_neg hf c5
          refine lv_iconst (v := (1 : Int32)) hx hb dX11_slipped_40 (by decide) ?_
          exact kJ41 _ _ _ hf _ _ hP hD hS _ (lv_sub hl [0, 2] rfl)
        · have hf := of_pos hf c5
          refine lv_iconst (v := (0 : Int32)) hx hb dX11_slipped_36 (by decide) ?_
          refine lv_goto (tgt := 41) hx hb dX11_slipped_37 (by decide) ?_
          exact kJ41 _ _ _ hf _ _ hP hD hS _ (lv_sub hl [0, 2] rfl)
  refine lv_iconst (v := (0 : Int32)) hx hb dX11_slipped_0 (by decide) ?_
  refine lv_istore_n (lv' := [(1, .int (0 : Int32)), (0, .ref h0)]) hx hb dX11_slipped_1 rfl hl (by decide) rfl (fun ls hl => ?_)
  refine lv_iconst (v := (0 : Int32)) hx hb dX11_slipped_2 (by decide) ?_
  refine lv_istore_n (lv' := [(2, .int (0 : Int32)), (1, .int (0 : Int32)), (0, .ref h0)]) hx hb dX11_slipped_3 rfl hl (by decide) rfl (fun ls hl => ?_)
  exact kL4 _ _ _ hf _ _ hP hD hS _ (lv_sub hl [2, 1, 0] rfl)
theorem yk_X11_slipped : ykV yX11_slipped RX11 cX11_slipped 3 (some .int) 0 := ⟨wd_1970, wd_124, wd_142, wd_1971, rfl, by decide +kernel, by decide +kernel, by decide +kernel⟩
theorem dX11_strangeSet_0 : decode cX11_strangeSet 0 = .ok (.iconst 0, 1) := by decide +kernel
theorem dX11_strangeSet_1 : decode cX11_strangeSet 1 = .ok (.istore_n 1, 1) := by decide +kernel
theorem dX11_strangeSet_2 : decode cX11_strangeSet 2 = .ok (.iconst 0, 1) := by decide +kernel
theorem dX11_strangeSet_3 : decode cX11_strangeSet 3 = .ok (.istore_n 2, 1) := by decide +kernel
theorem dX11_strangeSet_4 : decode cX11_strangeSet 4 = .ok (.iload_n 2, 1) := by decide +kernel
theorem dX11_strangeSet_5 : decode cX11_strangeSet 5 = .ok (.bipush 16, 2) := by decide +kernel
theorem dX11_strangeSet_7 : decode cX11_strangeSet 7 = .ok (.if_icmp .ge 27, 3) := by decide +kernel
theorem dX11_strangeSet_10 : decode cX11_strangeSet 10 = .ok (.iload_n 1, 1) := by decide +kernel
theorem dX11_strangeSet_11 : decode cX11_strangeSet 11 = .ok (.aload_n 0, 1) := by decide +kernel
theorem dX11_strangeSet_12 : decode cX11_strangeSet 12 = .ok (.iload_n 2, 1) := by decide +kernel
theorem dX11_strangeSet_13 : decode cX11_strangeSet 13 = .ok (.invokevirtual 347, 3) := by decide +kernel
theorem dX11_strangeSet_16 : decode cX11_strangeSet 16 = .ok (.ifCond .eq 7, 3) := by decide +kernel
theorem dX11_strangeSet_19 : decode cX11_strangeSet 19 = .ok (.iconst 0, 1) := by decide +kernel
theorem dX11_strangeSet_20 : decode cX11_strangeSet 20 = .ok (.goto 6, 3) := by decide +kernel
theorem dX11_strangeSet_23 : decode cX11_strangeSet 23 = .ok (.iconst 1, 1) := by decide +kernel
theorem dX11_strangeSet_24 : decode cX11_strangeSet 24 = .ok (.iload_n 2, 1) := by decide +kernel
theorem dX11_strangeSet_25 : decode cX11_strangeSet 25 = .ok (.ishl, 1) := by decide +kernel
theorem dX11_strangeSet_26 : decode cX11_strangeSet 26 = .ok (.ior, 1) := by decide +kernel
theorem dX11_strangeSet_27 : decode cX11_strangeSet 27 = .ok (.istore_n 1, 1) := by decide +kernel
theorem dX11_strangeSet_28 : decode cX11_strangeSet 28 = .ok (.iinc 2 1, 3) := by decide +kernel
theorem dX11_strangeSet_31 : decode cX11_strangeSet 31 = .ok (.goto (-27), 3) := by decide +kernel
theorem dX11_strangeSet_34 : decode cX11_strangeSet 34 = .ok (.iload_n 1, 1) := by decide +kernel
theorem dX11_strangeSet_35 : decode cX11_strangeSet 35 = .ok (.ireturn, 1) := by decide +kernel
def wW_X11_strangeSet (G : GG) (h0 h1 h2 y0_2 y0_3 y0_4 y0_6 y0_18 y0_21 y0_22 y0_23 y0_24 y0_25 y0_26 y0_33 y0_34 y0_38 y0_39 y0_40 y0_41 y0_42 y0_43 y0_45 y0_46 y0_47 y0_48 : Nat) (x0_5 : Int32) (x0_7 : Int32) (x0_8 : Int32) (x0_9 : Int32) (x0_10 : Int32) (x0_11 : Int32) (x0_12 : Int32) (x0_13 : Int32) (x0_14 : Int32) (x0_15 : Int32) (x0_16 : Int32) (x0_17 : Int32) (x0_19 : Int32) (x0_20 : Int32) (x0_27 : Int32) (x0_28 : Int32) (x0_29 : Int32) (x0_30 : Int32) (x0_31 : Int32) (x0_32 : Int32) (x0_35 : Int32) (x0_36 : Int32) (x0_37 : Int32) (x0_44 : Int32) (x0_49 : Int32) (x0_50 : Int32) (a1 : Nat → Int32) (a2 : Nat → Int32) : va_W := [(h0, .inr (11, [.ref h1, .ref h2, .ref y0_2, .ref y0_3, .ref y0_4, .int x0_5, .ref y0_6, .int x0_7, .int x0_8, .int x0_9, .int x0_10, .int x0_11, .int x0_12, .int x0_13, .int x0_14, .int x0_15, .int x0_16, .int x0_17, .ref y0_18, .int x0_19, .int x0_20, .ref y0_21, .ref y0_22, .ref y0_23, .ref y0_24, .ref y0_25, .ref y0_26, .int x0_27, .int x0_28, .int x0_29, .int x0_30, .int x0_31, .int x0_32, .ref y0_33, .ref y0_34, .int x0_35, .int x0_36, .int x0_37, .ref y0_38, .ref y0_39, .ref y0_40, .ref y0_41, .ref y0_42, .ref y0_43, .int x0_44, .ref y0_45, .ref y0_46, .ref y0_47, .ref y0_48, .int x0_49, .int x0_50])), (h1, .inl (G.2.1, 121, .inl a1)), (h2, .inl (G.2.1, 2, .inl a2))]
set_option maxHeartbeats 4000000 in
set_option maxRecDepth 100000 in
theorem c_X11_strangeSet (l : Launch) (G : GG) (h0 h1 h2 y0_2 y0_3 y0_4 y0_6 y0_18 y0_21 y0_22 y0_23 y0_24 y0_25 y0_26 y0_33 y0_34 y0_38 y0_39 y0_40 y0_41 y0_42 y0_43 y0_45 y0_46 y0_47 y0_48 : Nat) (sz : Nat) (x0_5 : Int32) (x0_7 : Int32) (x0_8 : Int32) (x0_9 : Int32) (x0_10 : Int32) (x0_11 : Int32) (x0_12 : Int32) (x0_13 : Int32) (x0_14 : Int32) (x0_15 : Int32) (x0_16 : Int32) (x0_17 : Int32) (x0_19 : Int32) (x0_20 : Int32) (x0_27 : Int32) (x0_28 : Int32) (x0_29 : Int32) (x0_30 : Int32) (x0_31 : Int32) (x0_32 : Int32) (x0_35 : Int32) (x0_36 : Int32) (x0_37 : Int32) (x0_44 : Int32) (x0_49 : Int32) (x0_50 : Int32) (a1 : Nat → Int32) (a2 : Nat → Int32) (F : Nat)   (r0 : Int32) (hf : p_X11_strangeSet F x0_5 a1 a2  = some r0) : Met l yX11_strangeSet (.code yX11_strangeSet cX11_strangeSet 3 (some .int) :: gtbl) ({ frames := 3, cells := 0, slots := 0, locals := 65 } : Room) (PcS G [.ref h0] (wW_X11_strangeSet G h0 h1 h2 y0_2 y0_3 y0_4 y0_6 y0_18 y0_21 y0_22 y0_23 y0_24 y0_25 y0_26 y0_33 y0_34 y0_38 y0_39 y0_40 y0_41 y0_42 y0_43 y0_45 y0_46 y0_47 y0_48 x0_5 x0_7 x0_8 x0_9 x0_10 x0_11 x0_12 x0_13 x0_14 x0_15 x0_16 x0_17 x0_19 x0_20 x0_27 x0_28 x0_29 x0_30 x0_31 x0_32 x0_35 x0_36 x0_37 x0_44 x0_49 x0_50 a1 a2) sz) (QiS G r0 (va_A (wW_X11_strangeSet G h0 h1 h2 y0_2 y0_3 y0_4 y0_6 y0_18 y0_21 y0_22 y0_23 y0_24 y0_25 y0_26 y0_33 y0_34 y0_38 y0_39 y0_40 y0_41 y0_42 y0_43 y0_45 y0_46 y0_47 y0_48 x0_5 x0_7 x0_8 x0_9 x0_10 x0_11 x0_12 x0_13 x0_14 x0_15 x0_16 x0_17 x0_19 x0_20 x0_27 x0_28 x0_29 x0_30 x0_31 x0_32 x0_35 x0_36 x0_37 x0_44 x0_49 x0_50 a1 a2) sz) (wW_X11_strangeSet G h0 h1 h2 y0_2 y0_3 y0_4 y0_6 y0_18 y0_21 y0_22 y0_23 y0_24 y0_25 y0_26 y0_33 y0_34 y0_38 y0_39 y0_40 y0_41 y0_42 y0_43 y0_45 y0_46 y0_47 y0_48 x0_5 x0_7 x0_8 x0_9 x0_10 x0_11 x0_12 x0_13 x0_14 x0_15 x0_16 x0_17 x0_19 x0_20 x0_27 x0_28 x0_29 x0_30 x0_31 x0_32 x0_35 x0_36 x0_37 x0_44 x0_49 x0_50 a1 a2)) 0 0 (va_A (wW_X11_strangeSet G h0 h1 h2 y0_2 y0_3 y0_4 y0_6 y0_18 y0_21 y0_22 y0_23 y0_24 y0_25 y0_26 y0_33 y0_34 y0_38 y0_39 y0_40 y0_41 y0_42 y0_43 y0_45 y0_46 y0_47 y0_48 x0_5 x0_7 x0_8 x0_9 x0_10 x0_11 x0_12 x0_13 x0_14 x0_15 x0_16 x0_17 x0_19 x0_20 x0_27 x0_28 x0_29 x0_30 x0_31 x0_32 x0_35 x0_36 x0_37 x0_44 x0_49 x0_50 a1 a2) sz) := by
  refine met_start (by decide) (Nat.le_of_ble_eq_true rfl) ?_
  intro p e s m below meth c hC hr hlk hnm hK hP hD hA hS hX ls hl
  obtain ⟨hx, hb, hml, hown, ht0⟩ := hC
  have hown : s.vm.findClass RX11 = some m.cls := hown
  generalize va_A (wW_X11_strangeSet G h0 h1 h2 y0_2 y0_3 y0_4 y0_6 y0_18 y0_21 y0_22 y0_23 y0_24 y0_25 y0_26 y0_33 y0_34 y0_38 y0_39 y0_40 y0_41 y0_42 y0_43 y0_45 y0_46 y0_47 y0_48 x0_5 x0_7 x0_8 x0_9 x0_10 x0_11 x0_12 x0_13 x0_14 x0_15 x0_16 x0_17 x0_19 x0_20 x0_27 x0_28 x0_29 x0_30 x0_31 x0_32 x0_35 x0_36 x0_37 x0_44 x0_49 x0_50 a1 a2) sz = A at hD hA hS hX ⊢
  have hl : lv_has ls 3 [(0, .ref h0)] := hl
  have hf : p_X11_strangeSet F x0_5 a1 a2  = some r0 := hf
  have kL4 : ∀ (n4 : Nat) (u4_1 : Int32) (u4_2 : Int32), p_X11_strangeSet_L4 F x0_5 a1 a2 n4 u4_1 u4_2 = some r0 → ∀ (H : Heap) (locs : List Loc), va_P G.1 vwCl (wW_X11_strangeSet G h0 h1 h2 y0_2 y0_3 y0_4 y0_6 y0_18 y0_21 y0_22 y0_23 y0_24 y0_25 y0_26 y0_33 y0_34 y0_38 y0_39 y0_40 y0_41 y0_42 y0_43 y0_45 y0_46 y0_47 y0_48 x0_5 x0_7 x0_8 x0_9 x0_10 x0_11 x0_12 x0_13 x0_14 x0_15 x0_16 x0_17 x0_19 x0_20 x0_27 x0_28 x0_29 x0_30 x0_31 x0_32 x0_35 x0_36 x0_37 x0_44 x0_49 x0_50 a1 a2) H → va_D A (wW_X11_strangeSet G h0 h1 h2 y0_2 y0_3 y0_4 y0_6 y0_18 y0_21 y0_22 y0_23 y0_24 y0_25 y0_26 y0_33 y0_34 y0_38 y0_39 y0_40 y0_41 y0_42 y0_43 y0_45 y0_46 y0_47 y0_48 x0_5 x0_7 x0_8 x0_9 x0_10 x0_11 x0_12 x0_13 x0_14 x0_15 x0_16 x0_17 x0_19 x0_20 x0_27 x0_28 x0_29 x0_30 x0_31 x0_32 x0_35 x0_36 x0_37 x0_44 x0_49 x0_50 a1 a2) → va_S A s.heap H locs → ∀ ls : Array Slot, lv_has ls 3 [(0, .ref h0), (1, .int u4_1), (2, .int u4_2)] → W p l e ({ frames := 3, cells := 0, slots := 0, locals := 65 } : Room) s m (List.toArray [.ref h0]) below meth c H locs 0 0 (MQ below (QiS G r0 A (wW_X11_strangeSet G h0 h1 h2 y0_2 y0_3 y0_4 y0_6 y0_18 y0_21 y0_22 y0_23 y0_24 y0_25 y0_26 y0_33 y0_34 y0_38 y0_39 y0_40 y0_41 y0_42 y0_43 y0_45 y0_46 y0_47 y0_48 x0_5 x0_7 x0_8 x0_9 x0_10 x0_11 x0_12 x0_13 x0_14 x0_15 x0_16 x0_17 x0_19 x0_20 x0_27 x0_28 x0_29 x0_30 x0_31 x0_32 x0_35 x0_36 x0_37 x0_44 x0_49 x0_50 a1 a2)) (List.toArray [.ref h0]) s 0 0 A) (F0 m 4 ls []) := by
    intro n4
    induction n4 with
    | zero =>
      intro u4_1 u4_2 hf
      cases hf
    | succ n4 ih4 =>
      have kJ26 : ∀ (u26_2 : Int32) (s26_0 : Int32) (s26_1 : Int32), p_X11_strangeSet_J26 F x0_5 a1 a2 (p_X11_strangeSet_L4 F x0_5 a1 a2 n4) u26_2 s26_0 s26_1 = some r0 → ∀ (H : Heap) (locs : List Loc), va_P G.1 vwCl (wW_X11_strangeSet G h0 h1 h2 y0_2 y0_3 y0_4 y0_6 y0_18 y0_21 y0_22 y0_23 y0_24 y0_25 y0_26 y0_33 y0_34 y0_38 y0_39 y0_40 y0_41 y0_42 y0_43 y0_45 y0_46 y0_47 y0_48 x0_5 x0_7 x0_8 x0_9 x0_10 x0_11 x0_12 x0_13 x0_14 x0_15 x0_16 x0_17 x0_19 x0_20 x0_27 x0_28 x0_29 x0_30 x0_31 x0_32 x0_35 x0_36 x0_37 x0_44 x0_49 x0_50 a1 a2) H → va_D A (wW_X11_strangeSet G h0 h1 h2 y0_2 y0_3 y0_4 y0_6 y0_18 y0_21 y0_22 y0_23 y0_24 y0_25 y0_26 y0_33 y0_34 y0_38 y0_39 y0_40 y0_41 y0_42 y0_43 y0_45 y0_46 y0_47 y0_48 x0_5 x0_7 x0_8 x0_9 x0_10 x0_11 x0_12 x0_13 x0_14 x0_15 x0_16 x0_17 x0_19 x0_20 x0_27 x0_28 x0_29 x0_30 x0_31 x0_32 x0_35 x0_36 x0_37 x0_44 x0_49 x0_50 a1 a2) → va_S A s.heap H locs → ∀ ls : Array Slot, lv_has ls 3 [(0, .ref h0), (2, .int u26_2)] → W p l e ({ frames := 3, cells := 0, slots := 0, locals := 65 } : Room) s m (List.toArray [.ref h0]) below meth c H locs 0 0 (MQ below (QiS G r0 A (wW_X11_strangeSet G h0 h1 h2 y0_2 y0_3 y0_4 y0_6 y0_18 y0_21 y0_22 y0_23 y0_24 y0_25 y0_26 y0_33 y0_34 y0_38 y0_39 y0_40 y0_41 y0_42 y0_43 y0_45 y0_46 y0_47 y0_48 x0_5 x0_7 x0_8 x0_9 x0_10 x0_11 x0_12 x0_13 x0_14 x0_15 x0_16 x0_17 x0_19 x0_20 x0_27 x0_28 x0_29 x0_30 x0_31 x0_32 x0_35 x0_36 x0_37 x0_44 x0_49 x0_50 a1 a2)) (List.toArray [.ref h0]) s 0 0 A) (F0 m 26 ls [.int s26_1, .int s26_0]) := by
        intro u26_2 s26_0 s26_1 hf H locs hP hD hS ls hl
        refine lv_ior hx hb dX11_strangeSet_26 ?_
        refine lv_istore_n (lv' := [(1, .int (s26_0 ||| s26_1)), (0, .ref h0), (2, .int u26_2)]) hx hb dX11_strangeSet_27 rfl hl (by decide) rfl (fun ls hl => ?_)
        refine lv_iinc (v := u26_2 + (1 : Int32)) (lv' := [(2, .int (u26_2 + (1 : Int32))), (1, .int (s26_0 ||| s26_1)), (0, .ref h0)]) hx hb dX11_strangeSet_28 hl (k := 2) rfl (by rfl) (by decide) rfl (fun ls hl => ?_)
        refine lv_goto (tgt := 4) hx hb dX11_strangeSet_31 (by decide) ?_
        exact ih4 _ _ hf _ _ hP hD hS _ (lv_sub hl [2, 1, 0] rfl)
      intro u4_1 u4_2 hf H locs hP hD hS ls hl
      have hf : p_X11_strangeSet_L4b F x0_5 a1 a2 (p_X11_strangeSet_L4 F x0_5 a1 a2 n4) u4_1 u4_2 = some r0 := hf
      refine lv_iload_n hx hb dX11_strangeSet_4 rfl (lv_at hl 2 rfl) ?_
      refine lv_bipush (v := (16 : Int32)) hx hb dX11_strangeSet_5 (by decide) ?_
      refine lv_icmp_ge (tgt := 34) hx hb dX11_strangeSet_7 (by decide) (fun c1 => ?_) (fun c1 => ?_)
      · have hf := of_pos hf c1
        refine lv_iload_n hx hb dX11_strangeSet_34 rfl (lv_at hl 1 rfl) ?_
        cases hf
        exact ret_i hx hb hr hlk hK hP hD hS dX11_strangeSet_35
      · have hf := of_neg hf c1
        refine lv_iload_n hx hb dX11_strangeSet_10 rfl (lv_at hl 1 rfl) ?_
        refine lv_aload_n hx hb dX11_strangeSet_11 rfl (lv_at hl 0 rfl) ?_
        refine lv_iload_n hx hb dX11_strangeSet_12 rfl (lv_at hl 2 rfl) ?_
        obtain ⟨r_13_1, hc_r_13_1, hf⟩ := of_bnd hf
        refine cl_Vi (w2 := (wW_X11_strangeSet G h0 h1 h2 y0_2 y0_3 y0_4 y0_6 y0_18 y0_21 y0_22 y0_23 y0_24 y0_25 y0_26 y0_33 y0_34 y0_38 y0_39 y0_40 y0_41 y0_42 y0_43 y0_45 y0_46 y0_47 y0_48 x0_5 x0_7 x0_8 x0_9 x0_10 x0_11 x0_12 x0_13 x0_14 x0_15 x0_16 x0_17 x0_19 x0_20 x0_27 x0_28 x0_29 x0_30 x0_31 x0_32 x0_35 x0_36 x0_37 x0_44 x0_49 x0_50 a1 a2)) (As := [.int u4_2]) (rest := [.int u4_1]) ⟨hx, hb, hml, hown, ht0⟩ (c_X11_isMeant l G h0 h1 h2 y0_2 y0_3 y0_4 y0_6 y0_18 y0_21 y0_22 y0_23 y0_24 y0_25 y0_26 y0_33 y0_34 y0_38 y0_39 y0_40 y0_41 y0_42 y0_43 y0_45 y0_46 y0_47 y0_48 _ x0_5 x0_7 x0_8 x0_9 x0_10 x0_11 x0_12 x0_13 x0_14 x0_15 x0_16 x0_17 x0_19 x0_20 x0_27 x0_28 x0_29 x0_30 x0_31 x0_32 x0_35 x0_36 x0_37 x0_44 x0_49 x0_50 a1 a2 F u4_2 _ hc_r_13_1) yk_X11_isMeant wd_1722 ⟨rfl, rfl, by decide, by decide⟩ ⟨Nat.le_refl _, Nat.le_refl _⟩ hX hK hP hD hS hA [0, 1, 2] [] [0, 1, 2] (va_recv hK hP (ci := 11) (q0 := 0) rfl rfl) rfl rfl (by decide) rfl rfl rfl rfl rfl hl.1 rfl (Nat.le_of_ble_eq_true rfl) dX11_strangeSet_13 (fun H locs hP hD hS => ?_)
        refine lv_if_eq (tgt := 23) hx hb dX11_strangeSet_16 (by decide) (fun c3 => ?_) (fun c3 => ?_)
        · have hf := of_pos hf c3
          refine lv_iconst (v := (1 : Int32)) hx hb dX11_strangeSet_23 (by decide) ?_
          refine lv_iload_n hx hb dX11_strangeSet_24 rfl (lv_at hl 2 rfl) ?_
          refine lv_ishl hx hb dX11_strangeSet_25 ?_
          exact kJ26 _ _ _ hf _ _ hP hD hS _ (lv_sub hl [0, 2] rfl)
        · have hf := of_neg hf c3
          refine lv_iconst (v := (0 : Int32)) hx hb dX11_strangeSet_19 (by decide) ?_
          refine lv_goto (tgt := 26) hx hb dX11_strangeSet_20 (by decide) ?_
          exact kJ26 _ _ _ hf _ _ hP hD hS _ (lv_sub hl [0, 2] rfl)
  refine lv_iconst (v := (0 : Int32)) hx hb dX11_strangeSet_0 (by decide) ?_
  refine lv_istore_n (lv' := [(1, .int (0 : Int32)), (0, .ref h0)]) hx hb dX11_strangeSet_1 rfl hl (by decide) rfl (fun ls hl => ?_)
  refine lv_iconst (v := (0 : Int32)) hx hb dX11_strangeSet_2 (by decide) ?_
  refine lv_istore_n (lv' := [(2, .int (0 : Int32)), (1, .int (0 : Int32)), (0, .ref h0)]) hx hb dX11_strangeSet_3 rfl hl (by decide) rfl (fun ls hl => ?_)
  exact kL4 _ _ _ hf _ _ hP hD hS _ (lv_sub hl [2, 1, 0] rfl)
theorem yk_X11_strangeSet : ykV yX11_strangeSet RX11 cX11_strangeSet 3 (some .int) 0 := ⟨wd_1974, wd_125, wd_142, wd_1975, rfl, by decide +kernel, by decide +kernel, by decide +kernel⟩
theorem dX11_about_0 : decode cX11_about 0 = .ok (.iload_n 1, 1) := by decide +kernel
theorem dX11_about_1 : decode cX11_about 1 = .ok (.tableswitch 90 0 7 #[47, 52, 57, 65, 70, 75, 80, 85], 47) := by decide +kernel
theorem dX11_about_48 : decode cX11_about 48 = .ok (.aload_n 0, 1) := by decide +kernel
theorem dX11_about_49 : decode cX11_about 49 = .ok (.invokevirtual 221, 3) := by decide +kernel
theorem dX11_about_52 : decode cX11_about 52 = .ok (.ireturn, 1) := by decide +kernel
theorem dX11_about_53 : decode cX11_about 53 = .ok (.aload_n 0, 1) := by decide +kernel
theorem dX11_about_54 : decode cX11_about 54 = .ok (.invokevirtual 224, 3) := by decide +kernel
theorem dX11_about_57 : decode cX11_about 57 = .ok (.ireturn, 1) := by decide +kernel
theorem dX11_about_58 : decode cX11_about 58 = .ok (.aload_n 0, 1) := by decide +kernel
theorem dX11_about_59 : decode cX11_about 59 = .ok (.getfield 7, 3) := by decide +kernel
theorem dX11_about_62 : decode cX11_about 62 = .ok (.bipush 32, 2) := by decide +kernel
theorem dX11_about_64 : decode cX11_about 64 = .ok (.iaload, 1) := by decide +kernel
theorem dX11_about_65 : decode cX11_about 65 = .ok (.ireturn, 1) := by decide +kernel
theorem dX11_about_66 : decode cX11_about 66 = .ok (.aload_n 0, 1) := by decide +kernel
theorem dX11_about_67 : decode cX11_about 67 = .ok (.invokevirtual 466, 3) := by decide +kernel
theorem dX11_about_70 : decode cX11_about 70 = .ok (.ireturn, 1) := by decide +kernel
theorem dX11_about_71 : decode cX11_about 71 = .ok (.aload_n 0, 1) := by decide +kernel
theorem dX11_about_72 : decode cX11_about 72 = .ok (.invokevirtual 469, 3) := by decide +kernel
theorem dX11_about_75 : decode cX11_about 75 = .ok (.ireturn, 1) := by decide +kernel
theorem dX11_about_76 : decode cX11_about 76 = .ok (.aload_n 0, 1) := by decide +kernel
theorem dX11_about_77 : decode cX11_about 77 = .ok (.getfield 230, 3) := by decide +kernel
theorem dX11_about_80 : decode cX11_about 80 = .ok (.ireturn, 1) := by decide +kernel
theorem dX11_about_81 : decode cX11_about 81 = .ok (.aload_n 0, 1) := by decide +kernel
theorem dX11_about_82 : decode cX11_about 82 = .ok (.getfield 233, 3) := by decide +kernel
theorem dX11_about_85 : decode cX11_about 85 = .ok (.ireturn, 1) := by decide +kernel
theorem dX11_about_86 : decode cX11_about 86 = .ok (.aload_n 0, 1) := by decide +kernel
theorem dX11_about_87 : decode cX11_about 87 = .ok (.getfield 117, 3) := by decide +kernel
theorem dX11_about_90 : decode cX11_about 90 = .ok (.ireturn, 1) := by decide +kernel
theorem dX11_about_91 : decode cX11_about 91 = .ok (.iconst (-1), 1) := by decide +kernel
theorem dX11_about_92 : decode cX11_about 92 = .ok (.ireturn, 1) := by decide +kernel
def wW_X11_about (G : GG) (h0 h1 h2 h3 y0_3 y0_4 y0_6 y0_18 y0_21 y0_22 y0_23 y0_24 y0_25 y0_26 y0_33 y0_34 y0_38 y0_39 y0_40 y0_41 y0_42 y0_43 y0_45 y0_46 y0_47 y0_48 : Nat) (x0_5 : Int32) (x0_7 : Int32) (x0_8 : Int32) (x0_9 : Int32) (x0_10 : Int32) (x0_11 : Int32) (x0_12 : Int32) (x0_13 : Int32) (x0_14 : Int32) (x0_15 : Int32) (x0_16 : Int32) (x0_17 : Int32) (x0_19 : Int32) (x0_20 : Int32) (x0_27 : Int32) (x0_28 : Int32) (x0_29 : Int32) (x0_30 : Int32) (x0_31 : Int32) (x0_32 : Int32) (x0_35 : Int32) (x0_36 : Int32) (x0_37 : Int32) (x0_44 : Int32) (x0_49 : Int32) (x0_50 : Int32) (a1 : Nat → Int32) (a2 : Nat → Int32) (a3 : Nat → Int32) : va_W := [(h0, .inr (11, [.ref h1, .ref h2, .ref h3, .ref y0_3, .ref y0_4, .int x0_5, .ref y0_6, .int x0_7, .int x0_8, .int x0_9, .int x0_10, .int x0_11, .int x0_12, .int x0_13, .int x0_14, .int x0_15, .int x0_16, .int x0_17, .ref y0_18, .int x0_19, .int x0_20, .ref y0_21, .ref y0_22, .ref y0_23, .ref y0_24, .ref y0_25, .ref y0_26, .int x0_27, .int x0_28, .int x0_29, .int x0_30, .int x0_31, .int x0_32, .ref y0_33, .ref y0_34, .int x0_35, .int x0_36, .int x0_37, .ref y0_38, .ref y0_39, .ref y0_40, .ref y0_41, .ref y0_42, .ref y0_43, .int x0_44, .ref y0_45, .ref y0_46, .ref y0_47, .ref y0_48, .int x0_49, .int x0_50])), (h1, .inl (G.2.1, 121, .inl a1)), (h2, .inl (G.2.1, 2, .inl a2)), (h3, .inl (G.2.1, 2, .inl a3))]
set_option maxHeartbeats 4000000 in
set_option maxRecDepth 100000 in
theorem c_X11_about (l : Launch) (G : GG) (h0 h1 h2 h3 y0_3 y0_4 y0_6 y0_18 y0_21 y0_22 y0_23 y0_24 y0_25 y0_26 y0_33 y0_34 y0_38 y0_39 y0_40 y0_41 y0_42 y0_43 y0_45 y0_46 y0_47 y0_48 : Nat) (sz : Nat) (x0_5 : Int32) (x0_7 : Int32) (x0_8 : Int32) (x0_9 : Int32) (x0_10 : Int32) (x0_11 : Int32) (x0_12 : Int32) (x0_13 : Int32) (x0_14 : Int32) (x0_15 : Int32) (x0_16 : Int32) (x0_17 : Int32) (x0_19 : Int32) (x0_20 : Int32) (x0_27 : Int32) (x0_28 : Int32) (x0_29 : Int32) (x0_30 : Int32) (x0_31 : Int32) (x0_32 : Int32) (x0_35 : Int32) (x0_36 : Int32) (x0_37 : Int32) (x0_44 : Int32) (x0_49 : Int32) (x0_50 : Int32) (a1 : Nat → Int32) (a2 : Nat → Int32) (a3 : Nat → Int32) (F : Nat) (b1 : Int32)  (r0 : Int32) (hf : p_X11_about F x0_5 x0_7 x0_49 x0_50 a1 a2 a3 b1 = some r0) : Met l yX11_about (.code yX11_about cX11_about 2 (some .int) :: gtbl) ({ frames := 4, cells := 0, slots := 0, locals := 88 } : Room) (PcS G [.ref h0, .int b1] (wW_X11_about G h0 h1 h2 h3 y0_3 y0_4 y0_6 y0_18 y0_21 y0_22 y0_23 y0_24 y0_25 y0_26 y0_33 y0_34 y0_38 y0_39 y0_40 y0_41 y0_42 y0_43 y0_45 y0_46 y0_47 y0_48 x0_5 x0_7 x0_8 x0_9 x0_10 x0_11 x0_12 x0_13 x0_14 x0_15 x0_16 x0_17 x0_19 x0_20 x0_27 x0_28 x0_29 x0_30 x0_31 x0_32 x0_35 x0_36 x0_37 x0_44 x0_49 x0_50 a1 a2 a3) sz) (QiS G r0 (va_A (wW_X11_about G h0 h1 h2 h3 y0_3 y0_4 y0_6 y0_18 y0_21 y0_22 y0_23 y0_24 y0_25 y0_26 y0_33 y0_34 y0_38 y0_39 y0_40 y0_41 y0_42 y0_43 y0_45 y0_46 y0_47 y0_48 x0_5 x0_7 x0_8 x0_9 x0_10 x0_11 x0_12 x0_13 x0_14 x0_15 x0_16 x0_17 x0_19 x0_20 x0_27 x0_28 x0_29 x0_30 x0_31 x0_32 x0_35 x0_36 x0_37 x0_44 x0_49 x0_50 a1 a2 a3) sz) (wW_X11_about G h0 h1 h2 h3 y0_3 y0_4 y0_6 y0_18 y0_21 y0_22 y0_23 y0_24 y0_25 y0_26 y0_33 y0_34 y0_38 y0_39 y0_40 y0_41 y0_42 y0_43 y0_45 y0_46 y0_47 y0_48 x0_5 x0_7 x0_8 x0_9 x0_10 x0_11 x0_12 x0_13 x0_14 x0_15 x0_16 x0_17 x0_19 x0_20 x0_27 x0_28 x0_29 x0_30 x0_31 x0_32 x0_35 x0_36 x0_37 x0_44 x0_49 x0_50 a1 a2 a3)) 0 0 (va_A (wW_X11_about G h0 h1 h2 h3 y0_3 y0_4 y0_6 y0_18 y0_21 y0_22 y0_23 y0_24 y0_25 y0_26 y0_33 y0_34 y0_38 y0_39 y0_40 y0_41 y0_42 y0_43 y0_45 y0_46 y0_47 y0_48 x0_5 x0_7 x0_8 x0_9 x0_10 x0_11 x0_12 x0_13 x0_14 x0_15 x0_16 x0_17 x0_19 x0_20 x0_27 x0_28 x0_29 x0_30 x0_31 x0_32 x0_35 x0_36 x0_37 x0_44 x0_49 x0_50 a1 a2 a3) sz) := by
  refine met_start (by decide) (Nat.le_of_ble_eq_true rfl) ?_
  intro p e s m below meth c hC hr hlk hnm hK hP hD hA hS hX ls hl
  obtain ⟨hx, hb, hml, hown, ht0⟩ := hC
  have hown : s.vm.findClass RX11 = some m.cls := hown
  generalize va_A (wW_X11_about G h0 h1 h2 h3 y0_3 y0_4 y0_6 y0_18 y0_21 y0_22 y0_23 y0_24 y0_25 y0_26 y0_33 y0_34 y0_38 y0_39 y0_40 y0_41 y0_42 y0_43 y0_45 y0_46 y0_47 y0_48 x0_5 x0_7 x0_8 x0_9 x0_10 x0_11 x0_12 x0_13 x0_14 x0_15 x0_16 x0_17 x0_19 x0_20 x0_27 x0_28 x0_29 x0_30 x0_31 x0_32 x0_35 x0_36 x0_37 x0_44 x0_49 x0_50 a1 a2 a3) sz = A at hD hA hS hX ⊢
  have hl : lv_has ls 2 [(0, .ref h0), (1, .int b1)] := hl
  have hf : p_X11_about F x0_5 x0_7 x0_49 x0_50 a1 a2 a3 b1 = some r0 := hf
  refine lv_iload_n hx hb dX11_about_0 rfl (lv_at hl 1 rfl) ?_
  by_cases c1 : b1 = (0 : Int32)
  · have hf := of_pos hf c1
    refine lv_tableIn (off := 47) (tgt := 48) hx hb dX11_about_1 (by rw [c1]; decide) (by rw [c1]; decide) (by rw [c1]; rfl) (by decide) ?_
    refine lv_aload_n hx hb dX11_about_48 rfl (lv_at hl 0 rfl) ?_
    obtain ⟨r_49_1, hc_r_49_1, hf⟩ := of_bnd hf
    refine cl_Vi (w2 := (wW_X11_about G h0 h1 h2 h3 y0_3 y0_4 y0_6 y0_18 y0_21 y0_22 y0_23 y0_24 y0_25 y0_26 y0_33 y0_34 y0_38 y0_39 y0_40 y0_41 y0_42 y0_43 y0_45 y0_46 y0_47 y0_48 x0_5 x0_7 x0_8 x0_9 x0_10 x0_11 x0_12 x0_13 x0_14 x0_15 x0_16 x0_17 x0_19 x0_20 x0_27 x0_28 x0_29 x0_30 x0_31 x0_32 x0_35 x0_36 x0_37 x0_44 x0_49 x0_50 a1 a2 a3)) (As := []) (rest := []) ⟨hx, hb, hml, hown, ht0⟩ (c_X11_dataNow l G h0 h2 h1 h3 y0_3 y0_4 y0_6 y0_18 y0_21 y0_22 y0_23 y0_24 y0_25 y0_26 y0_33 y0_34 y0_38 y0_39 y0_40 y0_41 y0_42 y0_43 y0_45 y0_46 y0_47 y0_48 _ x0_5 x0_7 x0_8 x0_9 x0_10 x0_11 x0_12 x0_13 x0_14 x0_15 x0_16 x0_17 x0_19 x0_20 x0_27 x0_28 x0_29 x0_30 x0_31 x0_32 x0_35 x0_36 x0_37 x0_44 x0_49 x0_50 a2 F _ hc_r_49_1) yk_X11_dataNow wd_1398 ⟨rfl, rfl, by decide, by decide⟩ ⟨Nat.le_refl _, Nat.le_refl _⟩ hX hK hP hD hS hA [0, 2] [1, 3] [2, 0, 3, 1] (va_recv hK hP (ci := 11) (q0 := 0) rfl rfl) rfl rfl (by decide) rfl rfl rfl rfl rfl hl.1 rfl (Nat.le_of_ble_eq_true rfl) dX11_about_49 (fun H locs hP hD hS => ?_)
    cases hf
    exact ret_i hx hb hr hlk hK hP hD hS dX11_about_52
  have hf := of_neg hf c1
  by_cases c3 : b1 = (1 : Int32)
  · have hf := of_pos hf c3
    refine lv_tableIn (off := 52) (tgt := 53) hx hb dX11_about_1 (by rw [c3]; decide) (by rw [c3]; decide) (by rw [c3]; rfl) (by decide) ?_
    refine lv_aload_n hx hb dX11_about_53 rfl (lv_at hl 0 rfl) ?_
    obtain ⟨r_54_3, hc_r_54_3, hf⟩ := of_bnd hf
    refine cl_Vi (w2 := (wW_X11_about G h0 h1 h2 h3 y0_3 y0_4 y0_6 y0_18 y0_21 y0_22 y0_23 y0_24 y0_25 y0_26 y0_33 y0_34 y0_38 y0_39 y0_40 y0_41 y0_42 y0_43 y0_45 y0_46 y0_47 y0_48 x0_5 x0_7 x0_8 x0_9 x0_10 x0_11 x0_12 x0_13 x0_14 x0_15 x0_16 x0_17 x0_19 x0_20 x0_27 x0_28 x0_29 x0_30 x0_31 x0_32 x0_35 x0_36 x0_37 x0_44 x0_49 x0_50 a1 a2 a3)) (As := []) (rest := []) ⟨hx, hb, hml, hown, ht0⟩ (c_X11_checksNow l G h0 h3 h1 h2 y0_3 y0_4 y0_6 y0_18 y0_21 y0_22 y0_23 y0_24 y0_25 y0_26 y0_33 y0_34 y0_38 y0_39 y0_40 y0_41 y0_42 y0_43 y0_45 y0_46 y0_47 y0_48 _ x0_5 x0_7 x0_8 x0_9 x0_10 x0_11 x0_12 x0_13 x0_14 x0_15 x0_16 x0_17 x0_19 x0_20 x0_27 x0_28 x0_29 x0_30 x0_31 x0_32 x0_35 x0_36 x0_37 x0_44 x0_49 x0_50 a3 F _ hc_r_54_3) yk_X11_checksNow wd_1576 ⟨rfl, rfl, by decide, by decide⟩ ⟨Nat.le_refl _, Nat.le_refl _⟩ hX hK hP hD hS hA [0, 3] [1, 2] [2, 0, 1, 3] (va_recv hK hP (ci := 11) (q0 := 0) rfl rfl) rfl rfl (by decide) rfl rfl rfl rfl rfl hl.1 rfl (Nat.le_of_ble_eq_true rfl) dX11_about_54 (fun H locs hP hD hS => ?_)
    cases hf
    exact ret_i hx hb hr hlk hK hP hD hS dX11_about_57
  have hf := of_neg hf c3
  by_cases c5 : b1 = (2 : Int32)
  · have hf := of_pos hf c5
    refine lv_tableIn (off := 57) (tgt := 58) hx hb dX11_about_1 (by rw [c5]; decide) (by rw [c5]; decide) (by rw [c5]; rfl) (by decide) ?_
    refine lv_aload_n hx hb dX11_about_58 rfl (lv_at hl 0 rfl) ?_
    refine va_get (ci := 11) (v := .ref h1) (C := RX11) (T := TX11) (N := 51) hx hb ht0 iX11 hown hK hP 0 rfl rfl 0 (by decide) (ht0 _ wd_1406) (fun _ h9 => h9) rfl dX11_about_59 ?_
    refine lv_bipush (v := (32 : Int32)) hx hb dX11_about_62 (by decide) ?_
    refine va_iald hx hb hK hP 1 0 rfl rfl (show ¬ ixBad (32 : Int32) 121 by decide) dX11_about_64 ?_
    cases hf
    exact ret_i hx hb hr hlk hK hP hD hS dX11_about_65
  have hf := of_neg hf c5
  by_cases c6 : b1 = (3 : Int32)
  · have hf := of_pos hf c6
    refine lv_tableIn (off := 65) (tgt := 66) hx hb dX11_about_1 (by rw [c6]; decide) (by rw [c6]; decide) (by rw [c6]; rfl) (by decide) ?_
    refine lv_aload_n hx hb dX11_about_66 rfl (lv_at hl 0 rfl) ?_
    obtain ⟨r_67_6, hc_r_67_6, hf⟩ := of_bnd hf
    refine cl_Vi (w2 := (wW_X11_about G h0 h1 h2 h3 y0_3 y0_4 y0_6 y0_18 y0_21 y0_22 y0_23 y0_24 y0_25 y0_26 y0_33 y0_34 y0_38 y0_39 y0_40 y0_41 y0_42 y0_43 y0_45 y0_46 y0_47 y0_48 x0_5 x0_7 x0_8 x0_9 x0_10 x0_11 x0_12 x0_13 x0_14 x0_15 x0_16 x0_17 x0_19 x0_20 x0_27 x0_28 x0_29 x0_30 x0_31 x0_32 x0_35 x0_36 x0_37 x0_44 x0_49 x0_50 a1 a2 a3)) (As := []) (rest := []) ⟨hx, hb, hml, hown, ht0⟩ (c_X11_slipped l G h0 h1 h2 h3 y0_3 y0_4 y0_6 y0_18 y0_21 y0_22 y0_23 y0_24 y0_25 y0_26 y0_33 y0_34 y0_38 y0_39 y0_40 y0_41 y0_42 y0_43 y0_45 y0_46 y0_47 y0_48 _ x0_5 x0_7 x0_8 x0_9 x0_10 x0_11 x0_12 x0_13 x0_14 x0_15 x0_16 x0_17 x0_19 x0_20 x0_27 x0_28 x0_29 x0_30 x0_31 x0_32 x0_35 x0_36 x0_37 x0_44 x0_49 x0_50 a1 a2 F _ hc_r_67_6) yk_X11_slipped wd_1968 ⟨rfl, rfl, by decide, by decide⟩ ⟨Nat.le_refl _, Nat.le_refl _⟩ hX hK hP hD hS hA [0, 1, 2] [3] [1, 2, 3, 0] (va_recv hK hP (ci := 11) (q0 := 0) rfl rfl) rfl rfl (by decide) rfl rfl rfl rfl rfl hl.1 rfl (Nat.le_of_ble_eq_true rfl) dX11_about_67 (fun H locs hP hD hS => ?_)
    cases hf
    exact ret_i hx hb hr hlk hK hP hD hS dX11_about_70
  have hf := of_neg hf c6
  by_cases c8 : b1 = (4 : Int32)
  · have hf := of_pos hf c8
    refine lv_tableIn (off := 70) (tgt := 71) hx hb dX11_about_1 (by rw [c8]; decide) (by rw [c8]; decide) (by rw [c8]; rfl) (by decide) ?_
    refine lv_aload_n hx hb dX11_about_71 rfl (lv_at hl 0 rfl) ?_
    obtain ⟨r_72_8, hc_r_72_8, hf⟩ := of_bnd hf
    refine cl_Vi (w2 := (wW_X11_about G h0 h1 h2 h3 y0_3 y0_4 y0_6 y0_18 y0_21 y0_22 y0_23 y0_24 y0_25 y0_26 y0_33 y0_34 y0_38 y0_39 y0_40 y0_41 y0_42 y0_43 y0_45 y0_46 y0_47 y0_48 x0_5 x0_7 x0_8 x0_9 x0_10 x0_11 x0_12 x0_13 x0_14 x0_15 x0_16 x0_17 x0_19 x0_20 x0_27 x0_28 x0_29 x0_30 x0_31 x0_32 x0_35 x0_36 x0_37 x0_44 x0_49 x0_50 a1 a2 a3)) (As := []) (rest := []) ⟨hx, hb, hml, hown, ht0⟩ (c_X11_strangeSet l G h0 h1 h2 h3 y0_3 y0_4 y0_6 y0_18 y0_21 y0_22 y0_23 y0_24 y0_25 y0_26 y0_33 y0_34 y0_38 y0_39 y0_40 y0_41 y0_42 y0_43 y0_45 y0_46 y0_47 y0_48 _ x0_5 x0_7 x0_8 x0_9 x0_10 x0_11 x0_12 x0_13 x0_14 x0_15 x0_16 x0_17 x0_19 x0_20 x0_27 x0_28 x0_29 x0_30 x0_31 x0_32 x0_35 x0_36 x0_37 x0_44 x0_49 x0_50 a1 a2 F _ hc_r_72_8) yk_X11_strangeSet wd_1972 ⟨rfl, rfl, by decide, by decide⟩ ⟨Nat.le_refl _, Nat.le_refl _⟩ hX hK hP hD hS hA [0, 1, 2] [3] [1, 2, 3, 0] (va_recv hK hP (ci := 11) (q0 := 0) rfl rfl) rfl rfl (by decide) rfl rfl rfl rfl rfl hl.1 rfl (Nat.le_of_ble_eq_true rfl) dX11_about_72 (fun H locs hP hD hS => ?_)
    cases hf
    exact ret_i hx hb hr hlk hK hP hD hS dX11_about_75
  have hf := of_neg hf c8
  by_cases c10 : b1 = (5 : Int32)
  · have hf := of_pos hf c10
    refine lv_tableIn (off := 75) (tgt := 76) hx hb dX11_about_1 (by rw [c10]; decide) (by rw [c10]; decide) (by rw [c10]; rfl) (by decide) ?_
    refine lv_aload_n hx hb dX11_about_76 rfl (lv_at hl 0 rfl) ?_
    refine va_get (ci := 11) (v := .int x0_49) (C := RX11) (T := TX11) (N := 51) hx hb ht0 iX11 hown hK hP 0 rfl rfl 49 (by decide) (ht0 _ wd_1455) (fun _ h9 => h9) rfl dX11_about_77 ?_
    cases hf
    exact ret_i hx hb hr hlk hK hP hD hS dX11_about_80
  have hf := of_neg hf c10
  by_cases c11 : b1 = (6 : Int32)
  · have hf := of_pos hf c11
    refine lv_tableIn (off := 80) (tgt := 81) hx hb dX11_about_1 (by rw [c11]; decide) (by rw [c11]; decide) (by rw [c11]; rfl) (by decide) ?_
    refine lv_aload_n hx hb dX11_about_81 rfl (lv_at hl 0 rfl) ?_
    refine va_get (ci := 11) (v := .int x0_50) (C := RX11) (T := TX11) (N := 51) hx hb ht0 iX11 hown hK hP 0 rfl rfl 50 (by decide) (ht0 _ wd_1456) (fun _ h9 => h9) rfl dX11_about_82 ?_
    cases hf
    exact ret_i hx hb hr hlk hK hP hD hS dX11_about_85
  have hf := of_neg hf c11
  by_cases c12 : b1 = (7 : Int32)
  · have hf := of_pos hf c12
    refine lv_tableIn (off := 85) (tgt := 86) hx hb dX11_about_1 (by rw [c12]; decide) (by rw [c12]; decide) (by rw [c12]; rfl) (by decide) ?_
    refine lv_aload_n hx hb dX11_about_86 rfl (lv_at hl 0 rfl) ?_
    refine va_get (ci := 11) (v := .int x0_7) (C := RX11) (T := TX11) (N := 51) hx hb ht0 iX11 hown hK hP 0 rfl rfl 7 (by decide) (ht0 _ wd_1413) (fun _ h9 => h9) rfl dX11_about_87 ?_
    cases hf
    exact ret_i hx hb hr hlk hK hP hD hS dX11_about_90
  have hf := of_neg hf c12
  refine lv_tableOut (tgt := 91) hx hb dX11_about_1 (by have n0 := lv_neT (a := 0) c1 rfl; have n1 := lv_neT (a := 1) c3 rfl; have n2 := lv_neT (a := 2) c5 rfl; have n3 := lv_neT (a := 3) c6 rfl; have n4 := lv_neT (a := 4) c8 rfl; have n5 := lv_neT (a := 5) c10 rfl; have n6 := lv_neT (a := 6) c11 rfl; have n7 := lv_neT (a := 7) c12 rfl; omega) (by decide) ?_
  refine lv_iconst (v := (-1 : Int32)) hx hb dX11_about_91 (by decide) ?_
  cases hf
  exact ret_i hx hb hr hlk hK hP hD hS dX11_about_92
theorem yk_X11_about : ykV yX11_about RX11 cX11_about 2 (some .int) 1 := ⟨wd_1965, wd_1966, wd_142, wd_1967, rfl, by decide +kernel, by decide +kernel, by decide +kernel⟩
