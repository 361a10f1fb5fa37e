theorem dX11_told_0 : decode cX11_told 0 = .ok (.aload_n 0, 1) := by decide +kernel
theorem dX11_told_1 : decode cX11_told 1 = .ok (.iload_n 1, 1) := by decide +kernel
theorem dX11_told_2 : decode cX11_told 2 = .ok (.putfield 296, 3) := by decide +kernel
theorem dX11_told_5 : decode cX11_told 5 = .ok (.aload_n 0, 1) := by decide +kernel
theorem dX11_told_6 : decode cX11_told 6 = .ok (.iload_n 2, 1) := by decide +kernel
theorem dX11_told_7 : decode cX11_told 7 = .ok (.putfield 299, 3) := by decide +kernel
theorem dX11_told_10 : decode cX11_told 10 = .ok (.iload_n 3, 1) := by decide +kernel
theorem dX11_told_11 : decode cX11_told 11 = .ok (.ifCond .lt 8, 3) := by decide +kernel
theorem dX11_told_14 : decode cX11_told 14 = .ok (.aload_n 0, 1) := by decide +kernel
theorem dX11_told_15 : decode cX11_told 15 = .ok (.iload_n 3, 1) := by decide +kernel
theorem dX11_told_16 : decode cX11_told 16 = .ok (.invokevirtual 302, 3) := by decide +kernel
theorem dX11_told_19 : decode cX11_told 19 = .ok (.iload 4, 2) := by decide +kernel
theorem dX11_told_21 : decode cX11_told 21 = .ok (.ifCond .lt 9, 3) := by decide +kernel
theorem dX11_told_24 : decode cX11_told 24 = .ok (.aload_n 0, 1) := by decide +kernel
theorem dX11_told_25 : decode cX11_told 25 = .ok (.iload 4, 2) := by decide +kernel
theorem dX11_told_27 : decode cX11_told 27 = .ok (.invokevirtual 302, 3) := by decide +kernel
theorem dX11_told_30 : decode cX11_told 30 = .ok (.return_, 1) := by decide +kernel
def wW_X11_told (G : GG) (h0 h1 y0_0 y0_2 y0_3 y0_4 y0_6 y0_18 y0_21 y0_22 y0_23 y0_24 y0_25 y0_26 y0_33 y0_34 y0_38 y0_39 y0_40 y0_41 y0_42 y0_43 y0_45 y0_46 y0_47 y0_48 : Nat) (x0_5 : Int32) (x0_7 : Int32) (x0_8 : Int32) (x0_9 : Int32) (x0_10 : Int32) (x0_11 : Int32) (x0_12 : Int32) (x0_13 : Int32) (x0_14 : Int32) (x0_15 : Int32) (x0_16 : Int32) (x0_17 : Int32) (x0_19 : Int32) (x0_20 : Int32) (x0_27 : Int32) (x0_28 : Int32) (x0_29 : Int32) (x0_30 : Int32) (x0_31 : Int32) (x0_32 : Int32) (x0_35 : Int32) (x0_36 : Int32) (x0_37 : Int32) (x0_44 : Int32) (x0_49 : Int32) (x0_50 : Int32) (a1 : Nat → Int32) : va_W := [(h0, .inr (11, [.ref y0_0, .ref h1, .ref y0_2, .ref y0_3, .ref y0_4, .int x0_5, .ref y0_6, .int x0_7, .int x0_8, .int x0_9, .int x0_10, .int x0_11, .int x0_12, .int x0_13, .int x0_14, .int x0_15, .int x0_16, .int x0_17, .ref y0_18, .int x0_19, .int x0_20, .ref y0_21, .ref y0_22, .ref y0_23, .ref y0_24, .ref y0_25, .ref y0_26, .int x0_27, .int x0_28, .int x0_29, .int x0_30, .int x0_31, .int x0_32, .ref y0_33, .ref y0_34, .int x0_35, .int x0_36, .int x0_37, .ref y0_38, .ref y0_39, .ref y0_40, .ref y0_41, .ref y0_42, .ref y0_43, .int x0_44, .ref y0_45, .ref y0_46, .ref y0_47, .ref y0_48, .int x0_49, .int x0_50])), (h1, .inl (G.2.1, 2, .inl a1))]
set_option maxHeartbeats 4000000 in
set_option maxRecDepth 100000 in
theorem c_X11_told (l : Launch) (G : GG) (h0 h1 y0_0 y0_2 y0_3 y0_4 y0_6 y0_18 y0_21 y0_22 y0_23 y0_24 y0_25 y0_26 y0_33 y0_34 y0_38 y0_39 y0_40 y0_41 y0_42 y0_43 y0_45 y0_46 y0_47 y0_48 : Nat) (sz : Nat) (x0_5 : Int32) (x0_7 : Int32) (x0_8 : Int32) (x0_9 : Int32) (x0_10 : Int32) (x0_11 : Int32) (x0_12 : Int32) (x0_13 : Int32) (x0_14 : Int32) (x0_15 : Int32) (x0_16 : Int32) (x0_17 : Int32) (x0_19 : Int32) (x0_20 : Int32) (x0_27 : Int32) (x0_28 : Int32) (x0_29 : Int32) (x0_30 : Int32) (x0_31 : Int32) (x0_32 : Int32) (x0_35 : Int32) (x0_36 : Int32) (x0_37 : Int32) (x0_44 : Int32) (x0_49 : Int32) (x0_50 : Int32) (a1 : Nat → Int32) (F : Nat) (b1 : Int32) (b2 : Int32) (b3 : Int32) (b4 : Int32)  (e_x0_29 : Int32) (e_x0_30 : Int32) (e_x0_31 : Int32) (e_x0_32 : Int32) (hf : p_X11_told F x0_5 x0_29 x0_30 x0_31 x0_32 a1 b1 b2 b3 b4 = some (e_x0_29, e_x0_30, e_x0_31, e_x0_32)) : Met l yX11_told (.code yX11_told cX11_told 5 none :: gtbl) ({ frames := 3, cells := 0, slots := 0, locals := 64 } : Room) (PcS G [.ref h0, .int b1, .int b2, .int b3, .int b4] (wW_X11_told G h0 h1 y0_0 y0_2 y0_3 y0_4 y0_6 y0_18 y0_21 y0_22 y0_23 y0_24 y0_25 y0_26 y0_33 y0_34 y0_38 y0_39 y0_40 y0_41 y0_42 y0_43 y0_45 y0_46 y0_47 y0_48 x0_5 x0_7 x0_8 x0_9 x0_10 x0_11 x0_12 x0_13 x0_14 x0_15 x0_16 x0_17 x0_19 x0_20 x0_27 x0_28 x0_29 x0_30 x0_31 x0_32 x0_35 x0_36 x0_37 x0_44 x0_49 x0_50 a1) sz) (QvS G (va_A (wW_X11_told G h0 h1 y0_0 y0_2 y0_3 y0_4 y0_6 y0_18 y0_21 y0_22 y0_23 y0_24 y0_25 y0_26 y0_33 y0_34 y0_38 y0_39 y0_40 y0_41 y0_42 y0_43 y0_45 y0_46 y0_47 y0_48 x0_5 x0_7 x0_8 x0_9 x0_10 x0_11 x0_12 x0_13 x0_14 x0_15 x0_16 x0_17 x0_19 x0_20 x0_27 x0_28 x0_29 x0_30 x0_31 x0_32 x0_35 x0_36 x0_37 x0_44 x0_49 x0_50 a1) sz) (wW_X11_told G h0 h1 y0_0 y0_2 y0_3 y0_4 y0_6 y0_18 y0_21 y0_22 y0_23 y0_24 y0_25 y0_26 y0_33 y0_34 y0_38 y0_39 y0_40 y0_41 y0_42 y0_43 y0_45 y0_46 y0_47 y0_48 x0_5 x0_7 x0_8 x0_9 x0_10 x0_11 x0_12 x0_13 x0_14 x0_15 x0_16 x0_17 x0_19 x0_20 x0_27 x0_28 e_x0_29 e_x0_30 e_x0_31 e_x0_32 x0_35 x0_36 x0_37 x0_44 x0_49 x0_50 a1)) 0 0 (va_A (wW_X11_told G h0 h1 y0_0 y0_2 y0_3 y0_4 y0_6 y0_18 y0_21 y0_22 y0_23 y0_24 y0_25 y0_26 y0_33 y0_34 y0_38 y0_39 y0_40 y0_41 y0_42 y0_43 y0_45 y0_46 y0_47 y0_48 x0_5 x0_7 x0_8 x0_9 x0_10 x0_11 x0_12 x0_13 x0_14 x0_15 x0_16 x0_17 x0_19 x0_20 x0_27 x0_28 x0_29 x0_30 x0_31 x0_32 x0_35 x0_36 x0_37 x0_44 x0_49 x0_50 a1) sz) := by
  refine met_start (by decide) (Nat.le_of_ble_eq_true rfl) ?_
  intro p e s m below meth c hC hr hlk hnm hK hP hD hA hS hX ls hl
  obtain ⟨hx, hb, hml, hown, ht0⟩ := hC
  have hown : s.vm.findClass RX11 = some m.cls := hown
  generalize va_A (wW_X11_told G h0 h1 y0_0 y0_2 y0_3 y0_4 y0_6 y0_18 y0_21 y0_22 y0_23 y0_24 y0_25 y0_26 y0_33 y0_34 y0_38 y0_39 y0_40 y0_41 y0_42 y0_43 y0_45 y0_46 y0_47 y0_48 x0_5 x0_7 x0_8 x0_9 x0_10 x0_11 x0_12 x0_13 x0_14 x0_15 x0_16 x0_17 x0_19 x0_20 x0_27 x0_28 x0_29 x0_30 x0_31 x0_32 x0_35 x0_36 x0_37 x0_44 x0_49 x0_50 a1) sz = A at hD hA hS hX ⊢
  have hl : lv_has ls 5 [(0, .ref h0), (1, .int b1), (2, .int b2), (3, .int b3), (4, .int b4)] := hl
  have hf : p_X11_told F x0_5 x0_29 x0_30 x0_31 x0_32 a1 b1 b2 b3 b4 = some (e_x0_29, e_x0_30, e_x0_31, e_x0_32) := hf
  have kJ19 : ∀ (u19_4 : Int32) (x0_29_19 : Int32) (x0_30_19 : Int32) (x0_31_19 : Int32) (x0_32_19 : Int32), p_X11_told_J19 F x0_5 a1 u19_4 x0_29_19 x0_30_19 x0_31_19 x0_32_19 = some (e_x0_29, e_x0_30, e_x0_31, e_x0_32) → ∀ (H : Heap) (locs : List Loc), va_P G.1 vwCl (wW_X11_told G h0 h1 y0_0 y0_2 y0_3 y0_4 y0_6 y0_18 y0_21 y0_22 y0_23 y0_24 y0_25 y0_26 y0_33 y0_34 y0_38 y0_39 y0_40 y0_41 y0_42 y0_43 y0_45 y0_46 y0_47 y0_48 x0_5 x0_7 x0_8 x0_9 x0_10 x0_11 x0_12 x0_13 x0_14 x0_15 x0_16 x0_17 x0_19 x0_20 x0_27 x0_28 x0_29_19 x0_30_19 x0_31_19 x0_32_19 x0_35 x0_36 x0_37 x0_44 x0_49 x0_50 a1) H → va_D A (wW_X11_told G h0 h1 y0_0 y0_2 y0_3 y0_4 y0_6 y0_18 y0_21 y0_22 y0_23 y0_24 y0_25 y0_26 y0_33 y0_34 y0_38 y0_39 y0_40 y0_41 y0_42 y0_43 y0_45 y0_46 y0_47 y0_48 x0_5 x0_7 x0_8 x0_9 x0_10 x0_11 x0_12 x0_13 x0_14 x0_15 x0_16 x0_17 x0_19 x0_20 x0_27 x0_28 x0_29_19 x0_30_19 x0_31_19 x0_32_19 x0_35 x0_36 x0_37 x0_44 x0_49 x0_50 a1) → va_S A s.heap H locs → ∀ ls : Array Slot, lv_has ls 5 [(0, .ref h0), (4, .int u19_4)] → W p l e ({ frames := 3, cells := 0, slots := 0, locals := 64 } : Room) s m (List.toArray [.ref h0, .int b1, .int b2, .int b3, .int b4]) below meth c H locs 0 0 (MQ below (QvS G A (wW_X11_told G h0 h1 y0_0 y0_2 y0_3 y0_4 y0_6 y0_18 y0_21 y0_22 y0_23 y0_24 y0_25 y0_26 y0_33 y0_34 y0_38 y0_39 y0_40 y0_41 y0_42 y0_43 y0_45 y0_46 y0_47 y0_48 x0_5 x0_7 x0_8 x0_9 x0_10 x0_11 x0_12 x0_13 x0_14 x0_15 x0_16 x0_17 x0_19 x0_20 x0_27 x0_28 e_x0_29 e_x0_30 e_x0_31 e_x0_32 x0_35 x0_36 x0_37 x0_44 x0_49 x0_50 a1)) (List.toArray [.ref h0, .int b1, .int b2, .int b3, .int b4]) s 0 0 A) (F0 m 19 ls []) := by
    intro u19_4 x0_29_19 x0_30_19 x0_31_19 x0_32_19 hf H locs hP hD hS ls hl
    refine lv_iload hx hb dX11_told_19 (lv_at hl 1 rfl) ?_
    refine lv_if_lt (tgt := 30) hx hb dX11_told_21 (by decide) (fun c1 => ?_) (fun c1 => ?_)
    · have hf := of_pos hf c1
      cases hf
      exact ret_v hx hb hr hlk hK hP hD hS dX11_told_30
    · have hf := of_neg hf c1
      refine lv_aload_n hx hb dX11_told_24 rfl (lv_at hl 0 rfl) ?_
      refine lv_iload hx hb dX11_told_25 (lv_at hl 1 rfl) ?_
      obtain ⟨⟨r_27_1_x0_31, r_27_1_x0_32⟩, hc_r_27_1, hf⟩ := of_bnd hf
      refine cl_Vv (w2 := (wW_X11_told G h0 h1 y0_0 y0_2 y0_3 y0_4 y0_6 y0_18 y0_21 y0_22 y0_23 y0_24 y0_25 y0_26 y0_33 y0_34 y0_38 y0_39 y0_40 y0_41 y0_42 y0_43 y0_45 y0_46 y0_47 y0_48 x0_5 x0_7 x0_8 x0_9 x0_10 x0_11 x0_12 x0_13 x0_14 x0_15 x0_16 x0_17 x0_19 x0_20 x0_27 x0_28 x0_29_19 x0_30_19 r_27_1_x0_31 r_27_1_x0_32 x0_35 x0_36 x0_37 x0_44 x0_49 x0_50 a1)) (As := [.int u19_4]) (rest := []) ⟨hx, hb, hml, hown, ht0⟩ (c_X11_turnRead l G h0 h1 y0_0 y0_2 y0_3 y0_4 y0_6 y0_18 y0_21 y0_22 y0_23 y0_24 y0_25 y0_26 y0_33 y0_34 y0_38 y0_39 y0_40 y0_41 y0_42 y0_43 y0_45 y0_46 y0_47 y0_48 _ x0_5 x0_7 x0_8 x0_9 x0_10 x0_11 x0_12 x0_13 x0_14 x0_15 x0_16 x0_17 x0_19 x0_20 x0_27 x0_28 x0_29_19 x0_30_19 x0_31_19 x0_32_19 x0_35 x0_36 x0_37 x0_44 x0_49 x0_50 a1 F u19_4 _ _ hc_r_27_1) yk_X11_turnRead wd_1643 ⟨rfl, rfl, by decide, by decide⟩ ⟨Nat.le_refl _, Nat.le_refl _⟩ hX hK hP hD hS hA [0, 1] [] [0, 1] (va_recv hK hP (ci := 11) (q0 := 0) rfl rfl) rfl rfl (by decide) rfl rfl rfl rfl rfl hl.1 rfl (Nat.le_of_ble_eq_true rfl) dX11_told_27 (fun H locs hP hD hS => ?_)
      cases hf
      exact ret_v hx hb hr hlk hK hP hD hS dX11_told_30
  refine lv_aload_n hx hb dX11_told_0 rfl (lv_at hl 0 rfl) ?_
  refine lv_iload_n hx hb dX11_told_1 rfl (lv_at hl 1 rfl) ?_
  refine va_put (ci := 11) (v := .int b1) (ty := .int) (C := RX11) (T := TX11) (N := 51) hx hb ht0 iX11 tyX11 tyX11_ok nmX11 hown hK hP hD hS 0 rfl rfl 29 (by decide) (ht0 _ wd_1435) (fun _ h9 => h9) rfl rfl rfl rfl (Nat.le_of_ble_eq_true rfl) dX11_told_2 (fun H locs hP hD hS => ?_)
  have hP : va_P G.1 vwCl (wW_X11_told G h0 h1 y0_0 y0_2 y0_3 y0_4 y0_6 y0_18 y0_21 y0_22 y0_23 y0_24 y0_25 y0_26 y0_33 y0_34 y0_38 y0_39 y0_40 y0_41 y0_42 y0_43 y0_45 y0_46 y0_47 y0_48 x0_5 x0_7 x0_8 x0_9 x0_10 x0_11 x0_12 x0_13 x0_14 x0_15 x0_16 x0_17 x0_19 x0_20 x0_27 x0_28 b1 x0_30 x0_31 x0_32 x0_35 x0_36 x0_37 x0_44 x0_49 x0_50 a1) H := hP
  have hD : va_D A (wW_X11_told G h0 h1 y0_0 y0_2 y0_3 y0_4 y0_6 y0_18 y0_21 y0_22 y0_23 y0_24 y0_25 y0_26 y0_33 y0_34 y0_38 y0_39 y0_40 y0_41 y0_42 y0_43 y0_45 y0_46 y0_47 y0_48 x0_5 x0_7 x0_8 x0_9 x0_10 x0_11 x0_12 x0_13 x0_14 x0_15 x0_16 x0_17 x0_19 x0_20 x0_27 x0_28 b1 x0_30 x0_31 x0_32 x0_35 x0_36 x0_37 x0_44 x0_49 x0_50 a1) := hD
  refine lv_aload_n hx hb dX11_told_5 rfl (lv_at hl 0 rfl) ?_
  refine lv_iload_n hx hb dX11_told_6 rfl (lv_at hl 2 rfl) ?_
  refine va_put (ci := 11) (v := .int b2) (ty := .int) (C := RX11) (T := TX11) (N := 51) hx hb ht0 iX11 tyX11 tyX11_ok nmX11 hown hK hP hD hS 0 rfl rfl 30 (by decide) (ht0 _ wd_1436) (fun _ h9 => h9) rfl rfl rfl rfl (Nat.le_of_ble_eq_true rfl) dX11_told_7 (fun H locs hP hD hS => ?_)
  have hP : va_P G.1 vwCl (wW_X11_told G h0 h1 y0_0 y0_2 y0_3 y0_4 y0_6 y0_18 y0_21 y0_22 y0_23 y0_24 y0_25 y0_26 y0_33 y0_34 y0_38 y0_39 y0_40 y0_41 y0_42 y0_43 y0_45 y0_46 y0_47 y0_48 x0_5 x0_7 x0_8 x0_9 x0_10 x0_11 x0_12 x0_13 x0_14 x0_15 x0_16 x0_17 x0_19 x0_20 x0_27 x0_28 b1 b2 x0_31 x0_32 x0_35 x0_36 x0_37 x0_44 x0_49 x0_50 a1) H := hP
  have hD : va_D A (wW_X11_told G h0 h1 y0_0 y0_2 y0_3 y0_4 y0_6 y0_18 y0_21 y0_22 y0_23 y0_24 y0_25 y0_26 y0_33 y0_34 y0_38 y0_39 y0_40 y0_41 y0_42 y0_43 y0_45 y0_46 y0_47 y0_48 x0_5 x0_7 x0_8 x0_9 x0_10 x0_11 x0_12 x0_13 x0_14 x0_15 x0_16 x0_17 x0_19 x0_20 x0_27 x0_28 b1 b2 x0_31 x0_32 x0_35 x0_36 x0_37 x0_44 x0_49 x0_50 a1) := hD
  refine lv_iload_n hx hb dX11_told_10 rfl (lv_at hl 3 rfl) ?_
  refine lv_if_lt (tgt := 19) hx hb dX11_told_11 (by decide) (fun c3 => ?_) (fun c3 => ?_)
  · have hf := of_pos hf c3
    exact kJ19 _ _ _ _ _ hf _ _ hP hD hS _ (lv_sub hl [0, 4] rfl)
  · have hf := of_neg hf c3
    refine lv_aload_n hx hb dX11_told_14 rfl (lv_at hl 0 rfl) ?_
    refine lv_iload_n hx hb dX11_told_15 rfl (lv_at hl 3 rfl) ?_
    obtain ⟨⟨r_16_3_x0_31, r_16_3_x0_32⟩, hc_r_16_3, hf⟩ := of_bnd hf
    refine cl_Vv (w2 := (wW_X11_told G h0 h1 y0_0 y0_2 y0_3 y0_4 y0_6 y0_18 y0_21 y0_22 y0_23 y0_24 y0_25 y0_26 y0_33 y0_34 y0_38 y0_39 y0_40 y0_41 y0_42 y0_43 y0_45 y0_46 y0_47 y0_48 x0_5 x0_7 x0_8 x0_9 x0_10 x0_11 x0_12 x0_13 x0_14 x0_15 x0_16 x0_17 x0_19 x0_20 x0_27 x0_28 b1 b2 r_16_3_x0_31 r_16_3_x0_32 x0_35 x0_36 x0_37 x0_44 x0_49 x0_50 a1)) (As := [.int b3]) (rest := []) ⟨hx, hb, hml, hown, ht0⟩ (c_X11_turnRead l G h0 h1 y0_0 y0_2 y0_3 y0_4 y0_6 y0_18 y0_21 y0_22 y0_23 y0_24 y0_25 y0_26 y0_33 y0_34 y0_38 y0_39 y0_40 y0_41 y0_42 y0_43 y0_45 y0_46 y0_47 y0_48 _ x0_5 x0_7 x0_8 x0_9 x0_10 x0_11 x0_12 x0_13 x0_14 x0_15 x0_16 x0_17 x0_19 x0_20 x0_27 x0_28 b1 b2 x0_31 x0_32 x0_35 x0_36 x0_37 x0_44 x0_49 x0_50 a1 F b3 _ _ hc_r_16_3) yk_X11_turnRead wd_1643 ⟨rfl, rfl, by decide, by decide⟩ ⟨Nat.le_refl _, Nat.le_refl _⟩ hX hK hP hD hS hA [0, 1] [] [0, 1] (va_recv hK hP (ci := 11) (q0 := 0) rfl rfl) rfl rfl (by decide) rfl rfl rfl rfl rfl hl.1 rfl (Nat.le_of_ble_eq_true rfl) dX11_told_16 (fun H locs hP hD hS => ?_)
    exact kJ19 _ _ _ _ _ hf _ _ hP hD hS _ (lv_sub hl [0, 4] rfl)
theorem yk_X11_told : ykV yX11_told RX11 cX11_told 5 none 4 := ⟨wd_1641, wd_83, wd_142, wd_1642, rfl, by decide +kernel, by decide +kernel, by decide +kernel⟩
theorem dX11_readFurther_0 : decode cX11_readFurther 0 = .ok (.aload_n 0, 1) := by decide +kernel
theorem dX11_readFurther_1 : decode cX11_readFurther 1 = .ok (.iload_n 1, 1) := by decide +kernel
theorem dX11_readFurther_2 : decode cX11_readFurther 2 = .ok (.invokevirtual 314, 3) := by decide +kernel
theorem dX11_readFurther_5 : decode cX11_readFurther 5 = .ok (.istore 4, 2) := by decide +kernel
theorem dX11_readFurther_7 : decode cX11_readFurther 7 = .ok (.iload_n 2, 1) := by decide +kernel
theorem dX11_readFurther_8 : decode cX11_readFurther 8 = .ok (.ifCond .lt 11, 3) := by decide +kernel
theorem dX11_readFurther_11 : decode cX11_readFurther 11 = .ok (.iload_n 3, 1) := by decide +kernel
theorem dX11_readFurther_12 : decode cX11_readFurther 12 = .ok (.ifCond .ge 7, 3) := by decide +kernel
theorem dX11_readFurther_15 : decode cX11_readFurther 15 = .ok (.iconst 1, 1) := by decide +kernel
theorem dX11_readFurther_16 : decode cX11_readFurther 16 = .ok (.goto 4, 3) := by decide +kernel
theorem dX11_readFurther_19 : decode cX11_readFurther 19 = .ok (.iconst 0, 1) := by decide +kernel
theorem dX11_readFurther_20 : decode cX11_readFurther 20 = .ok (.istore 5, 2) := by decide +kernel
theorem dX11_readFurther_22 : decode cX11_readFurther 22 = .ok (.iload 5, 2) := by decide +kernel
theorem dX11_readFurther_24 : decode cX11_readFurther 24 = .ok (.ifCond .eq 17, 3) := by decide +kernel
theorem dX11_readFurther_27 : decode cX11_readFurther 27 = .ok (.aload_n 0, 1) := by decide +kernel
theorem dX11_readFurther_28 : decode cX11_readFurther 28 = .ok (.iload_n 1, 1) := by decide +kernel
theorem dX11_readFurther_29 : decode cX11_readFurther 29 = .ok (.aload_n 0, 1) := by decide +kernel
theorem dX11_readFurther_30 : decode cX11_readFurther 30 = .ok (.iload_n 2, 1) := by decide +kernel
theorem dX11_readFurther_31 : decode cX11_readFurther 31 = .ok (.invokevirtual 269, 3) := by decide +kernel
theorem dX11_readFurther_34 : decode cX11_readFurther 34 = .ok (.ixor, 1) := by decide +kernel
theorem dX11_readFurther_35 : decode cX11_readFurther 35 = .ok (.invokevirtual 314, 3) := by decide +kernel
theorem dX11_readFurther_38 : decode cX11_readFurther 38 = .ok (.goto 4, 3) := by decide +kernel
theorem dX11_readFurther_41 : decode cX11_readFurther 41 = .ok (.iconst (-1), 1) := by decide +kernel
theorem dX11_readFurther_42 : decode cX11_readFurther 42 = .ok (.istore 6, 2) := by decide +kernel
theorem dX11_readFurther_44 : decode cX11_readFurther 44 = .ok (.aload_n 0, 1) := by decide +kernel
theorem dX11_readFurther_45 : decode cX11_readFurther 45 = .ok (.getfield 7, 3) := by decide +kernel
theorem dX11_readFurther_48 : decode cX11_readFurther 48 = .ok (.bipush 32, 2) := by decide +kernel
theorem dX11_readFurther_50 : decode cX11_readFurther 50 = .ok (.iaload, 1) := by decide +kernel
theorem dX11_readFurther_51 : decode cX11_readFurther 51 = .ok (.iconst 1, 1) := by decide +kernel
theorem dX11_readFurther_52 : decode cX11_readFurther 52 = .ok (.if_icmp .ne 11, 3) := by decide +kernel
theorem dX11_readFurther_55 : decode cX11_readFurther 55 = .ok (.aload_n 0, 1) := by decide +kernel
theorem dX11_readFurther_56 : decode cX11_readFurther 56 = .ok (.iload_n 1, 1) := by decide +kernel
theorem dX11_readFurther_57 : decode cX11_readFurther 57 = .ok (.invokevirtual 317, 3) := by decide +kernel
theorem dX11_readFurther_60 : decode cX11_readFurther 60 = .ok (.goto 4, 3) := by decide +kernel
theorem dX11_readFurther_63 : decode cX11_readFurther 63 = .ok (.iconst (-1), 1) := by decide +kernel
theorem dX11_readFurther_64 : decode cX11_readFurther 64 = .ok (.istore 7, 2) := by decide +kernel
theorem dX11_readFurther_66 : decode cX11_readFurther 66 = .ok (.iload 4, 2) := by decide +kernel
theorem dX11_readFurther_68 : decode cX11_readFurther 68 = .ok (.ifCond .lt 16, 3) := by decide +kernel
theorem dX11_readFurther_71 : decode cX11_readFurther 71 = .ok (.aload_n 0, 1) := by decide +kernel
theorem dX11_readFurther_72 : decode cX11_readFurther 72 = .ok (.iconst 1, 1) := by decide +kernel
theorem dX11_readFurther_73 : decode cX11_readFurther 73 = .ok (.iload 4, 2) := by decide +kernel
theorem dX11_readFurther_75 : decode cX11_readFurther 75 = .ok (.iload 4, 2) := by decide +kernel
theorem dX11_readFurther_77 : decode cX11_readFurther 77 = .ok (.iconst (-1), 1) := by decide +kernel
theorem dX11_readFurther_78 : decode cX11_readFurther 78 = .ok (.invokevirtual 308, 3) := by decide +kernel
theorem dX11_readFurther_81 : decode cX11_readFurther 81 = .ok (.goto 63, 3) := by decide +kernel
theorem dX11_readFurther_84 : decode cX11_readFurther 84 = .ok (.iload 6, 2) := by decide +kernel
theorem dX11_readFurther_86 : decode cX11_readFurther 86 = .ok (.ifCond .lt 16, 3) := by decide +kernel
theorem dX11_readFurther_89 : decode cX11_readFurther 89 = .ok (.aload_n 0, 1) := by decide +kernel
theorem dX11_readFurther_90 : decode cX11_readFurther 90 = .ok (.iconst 5, 1) := by decide +kernel
theorem dX11_readFurther_91 : decode cX11_readFurther 91 = .ok (.iload 6, 2) := by decide +kernel
theorem dX11_readFurther_93 : decode cX11_readFurther 93 = .ok (.iload_n 2, 1) := by decide +kernel
theorem dX11_readFurther_94 : decode cX11_readFurther 94 = .ok (.iload 6, 2) := by decide +kernel
theorem dX11_readFurther_96 : decode cX11_readFurther 96 = .ok (.invokevirtual 308, 3) := by decide +kernel
theorem dX11_readFurther_99 : decode cX11_readFurther 99 = .ok (.goto 45, 3) := by decide +kernel
theorem dX11_readFurther_102 : decode cX11_readFurther 102 = .ok (.iload 7, 2) := by decide +kernel
theorem dX11_readFurther_104 : decode cX11_readFurther 104 = .ok (.ifCond .lt 19, 3) := by decide +kernel
theorem dX11_readFurther_107 : decode cX11_readFurther 107 = .ok (.aload_n 0, 1) := by decide +kernel
theorem dX11_readFurther_108 : decode cX11_readFurther 108 = .ok (.iconst 2, 1) := by decide +kernel
theorem dX11_readFurther_109 : decode cX11_readFurther 109 = .ok (.iload 7, 2) := by decide +kernel
theorem dX11_readFurther_111 : decode cX11_readFurther 111 = .ok (.iload 7, 2) := by decide +kernel
theorem dX11_readFurther_113 : decode cX11_readFurther 113 = .ok (.iload 7, 2) := by decide +kernel
theorem dX11_readFurther_115 : decode cX11_readFurther 115 = .ok (.iconst 1, 1) := by decide +kernel
theorem dX11_readFurther_116 : decode cX11_readFurther 116 = .ok (.iadd, 1) := by decide +kernel
theorem dX11_readFurther_117 : decode cX11_readFurther 117 = .ok (.invokevirtual 308, 3) := by decide +kernel
theorem dX11_readFurther_120 : decode cX11_readFurther 120 = .ok (.goto 24, 3) := by decide +kernel
theorem dX11_readFurther_123 : decode cX11_readFurther 123 = .ok (.aload_n 0, 1) := by decide +kernel
theorem dX11_readFurther_124 : decode cX11_readFurther 124 = .ok (.iload_n 1, 1) := by decide +kernel
theorem dX11_readFurther_125 : decode cX11_readFurther 125 = .ok (.invokestatic 192, 3) := by decide +kernel
theorem dX11_readFurther_128 : decode cX11_readFurther 128 = .ok (.iconst 2, 1) := by decide +kernel
theorem dX11_readFurther_129 : decode cX11_readFurther 129 = .ok (.irem, 1) := by decide +kernel
theorem dX11_readFurther_130 : decode cX11_readFurther 130 = .ok (.ifCond .ne 7, 3) := by decide +kernel
theorem dX11_readFurther_133 : decode cX11_readFurther 133 = .ok (.iconst 3, 1) := by decide +kernel
theorem dX11_readFurther_134 : decode cX11_readFurther 134 = .ok (.goto 4, 3) := by decide +kernel
theorem dX11_readFurther_137 : decode cX11_readFurther 137 = .ok (.iconst 4, 1) := by decide +kernel
theorem dX11_readFurther_138 : decode cX11_readFurther 138 = .ok (.iconst (-1), 1) := by decide +kernel
theorem dX11_readFurther_139 : decode cX11_readFurther 139 = .ok (.iconst (-1), 1) := by decide +kernel
theorem dX11_readFurther_140 : decode cX11_readFurther 140 = .ok (.iconst (-1), 1) := by decide +kernel
theorem dX11_readFurther_141 : decode cX11_readFurther 141 = .ok (.invokevirtual 308, 3) := by decide +kernel
theorem dX11_readFurther_144 : decode cX11_readFurther 144 = .ok (.return_, 1) := by decide +kernel
def wW_X11_readFurther (G : GG) (h0 h1 h2 h3 y0_3 y0_4 y0_6 y0_18 y0_21 y0_22 y0_23 y0_24 y0_25 y0_26 y0_33 y0_34 y0_38 y0_39 y0_40 y0_41 y0_42 y0_43 y0_45 y0_46 y0_47 y0_48 : Nat) (x0_5 : Int32) (x0_7 : Int32) (x0_8 : Int32) (x0_9 : Int32) (x0_10 : Int32) (x0_11 : Int32) (x0_12 : Int32) (x0_13 : Int32) (x0_14 : Int32) (x0_15 : Int32) (x0_16 : Int32) (x0_17 : Int32) (x0_19 : Int32) (x0_20 : Int32) (x0_27 : Int32) (x0_28 : Int32) (x0_29 : Int32) (x0_30 : Int32) (x0_31 : Int32) (x0_32 : Int32) (x0_35 : Int32) (x0_36 : Int32) (x0_37 : Int32) (x0_44 : Int32) (x0_49 : Int32) (x0_50 : Int32) (a1 : Nat → Int32) (a2 : Nat → Int32) (a3 : Nat → Int32) : va_W := [(h0, .inr (11, [.ref h1, .ref h2, .ref h3, .ref y0_3, .ref y0_4, .int x0_5, .ref y0_6, .int x0_7, .int x0_8, .int x0_9, .int x0_10, .int x0_11, .int x0_12, .int x0_13, .int x0_14, .int x0_15, .int x0_16, .int x0_17, .ref y0_18, .int x0_19, .int x0_20, .ref y0_21, .ref y0_22, .ref y0_23, .ref y0_24, .ref y0_25, .ref y0_26, .int x0_27, .int x0_28, .int x0_29, .int x0_30, .int x0_31, .int x0_32, .ref y0_33, .ref y0_34, .int x0_35, .int x0_36, .int x0_37, .ref y0_38, .ref y0_39, .ref y0_40, .ref y0_41, .ref y0_42, .ref y0_43, .int x0_44, .ref y0_45, .ref y0_46, .ref y0_47, .ref y0_48, .int x0_49, .int x0_50])), (h1, .inl (G.2.1, 121, .inl a1)), (h2, .inl (G.2.1, 2, .inl a2)), (h3, .inl (G.2.1, 2, .inl a3))]
set_option maxHeartbeats 4000000 in
set_option maxRecDepth 100000 in
theorem c_X11_readFurther (l : Launch) (G : GG) (h0 h1 h2 h3 y0_3 y0_4 y0_6 y0_18 y0_21 y0_22 y0_23 y0_24 y0_25 y0_26 y0_33 y0_34 y0_38 y0_39 y0_40 y0_41 y0_42 y0_43 y0_45 y0_46 y0_47 y0_48 : Nat) (sz : Nat) (x0_5 : Int32) (x0_7 : Int32) (x0_8 : Int32) (x0_9 : Int32) (x0_10 : Int32) (x0_11 : Int32) (x0_12 : Int32) (x0_13 : Int32) (x0_14 : Int32) (x0_15 : Int32) (x0_16 : Int32) (x0_17 : Int32) (x0_19 : Int32) (x0_20 : Int32) (x0_27 : Int32) (x0_28 : Int32) (x0_29 : Int32) (x0_30 : Int32) (x0_31 : Int32) (x0_32 : Int32) (x0_35 : Int32) (x0_36 : Int32) (x0_37 : Int32) (x0_44 : Int32) (x0_49 : Int32) (x0_50 : Int32) (a1 : Nat → Int32) (a2 : Nat → Int32) (a3 : Nat → Int32) (F : Nat) (b1 : Int32) (b2 : Int32) (b3 : Int32)  (e_x0_29 : Int32) (e_x0_30 : Int32) (e_x0_31 : Int32) (e_x0_32 : Int32) (hf : p_X11_readFurther F x0_5 x0_29 x0_30 x0_31 x0_32 a1 a2 a3 b1 b2 b3 = some (e_x0_29, e_x0_30, e_x0_31, e_x0_32)) : Met l yX11_readFurther (.code yX11_readFurther cX11_readFurther 8 none :: gtbl) ({ frames := 4, cells := 0, slots := 0, locals := 88 } : Room) (PcS G [.ref h0, .int b1, .int b2, .int b3] (wW_X11_readFurther G h0 h1 h2 h3 y0_3 y0_4 y0_6 y0_18 y0_21 y0_22 y0_23 y0_24 y0_25 y0_26 y0_33 y0_34 y0_38 y0_39 y0_40 y0_41 y0_42 y0_43 y0_45 y0_46 y0_47 y0_48 x0_5 x0_7 x0_8 x0_9 x0_10 x0_11 x0_12 x0_13 x0_14 x0_15 x0_16 x0_17 x0_19 x0_20 x0_27 x0_28 x0_29 x0_30 x0_31 x0_32 x0_35 x0_36 x0_37 x0_44 x0_49 x0_50 a1 a2 a3) sz) (QvS G (va_A (wW_X11_readFurther G h0 h1 h2 h3 y0_3 y0_4 y0_6 y0_18 y0_21 y0_22 y0_23 y0_24 y0_25 y0_26 y0_33 y0_34 y0_38 y0_39 y0_40 y0_41 y0_42 y0_43 y0_45 y0_46 y0_47 y0_48 x0_5 x0_7 x0_8 x0_9 x0_10 x0_11 x0_12 x0_13 x0_14 x0_15 x0_16 x0_17 x0_19 x0_20 x0_27 x0_28 x0_29 x0_30 x0_31 x0_32 x0_35 x0_36 x0_37 x0_44 x0_49 x0_50 a1 a2 a3) sz) (wW_X11_readFurther G h0 h1 h2 h3 y0_3 y0_4 y0_6 y0_18 y0_21 y0_22 y0_23 y0_24 y0_25 y0_26 y0_33 y0_34 y0_38 y0_39 y0_40 y0_41 y0_42 y0_43 y0_45 y0_46 y0_47 y0_48 x0_5 x0_7 x0_8 x0_9 x0_10 x0_11 x0_12 x0_13 x0_14 x0_15 x0_16 x0_17 x0_19 x0_20 x0_27 x0_28 e_x0_29 e_x0_30 e_x0_31 e_x0_32 x0_35 x0_36 x0_37 x0_44 x0_49 x0_50 a1 a2 a3)) 0 0 (va_A (wW_X11_readFurther G h0 h1 h2 h3 y0_3 y0_4 y0_6 y0_18 y0_21 y0_22 y0_23 y0_24 y0_25 y0_26 y0_33 y0_34 y0_38 y0_39 y0_40 y0_41 y0_42 y0_43 y0_45 y0_46 y0_47 y0_48 x0_5 x0_7 x0_8 x0_9 x0_10 x0_11 x0_12 x0_13 x0_14 x0_15 x0_16 x0_17 x0_19 x0_20 x0_27 x0_28 x0_29 x0_30 x0_31 x0_32 x0_35 x0_36 x0_37 x0_44 x0_49 x0_50 a1 a2 a3) sz) := by
  refine met_start (by decide) (Nat.le_of_ble_eq_true rfl) ?_
  intro p e s m below meth c hC hr hlk hnm hK hP hD hA hS hX ls hl
  obtain ⟨hx, hb, hml, hown, ht0⟩ := hC
  have hown : s.vm.findClass RX11 = some m.cls := hown
  generalize va_A (wW_X11_readFurther G h0 h1 h2 h3 y0_3 y0_4 y0_6 y0_18 y0_21 y0_22 y0_23 y0_24 y0_25 y0_26 y0_33 y0_34 y0_38 y0_39 y0_40 y0_41 y0_42 y0_43 y0_45 y0_46 y0_47 y0_48 x0_5 x0_7 x0_8 x0_9 x0_10 x0_11 x0_12 x0_13 x0_14 x0_15 x0_16 x0_17 x0_19 x0_20 x0_27 x0_28 x0_29 x0_30 x0_31 x0_32 x0_35 x0_36 x0_37 x0_44 x0_49 x0_50 a1 a2 a3) sz = A at hD hA hS hX ⊢
  have hl : lv_has ls 8 [(0, .ref h0), (1, .int b1), (2, .int b2), (3, .int b3)] := hl
  have hf : p_X11_readFurther F x0_5 x0_29 x0_30 x0_31 x0_32 a1 a2 a3 b1 b2 b3 = some (e_x0_29, e_x0_30, e_x0_31, e_x0_32) := hf
  have kJ138 : ∀ (s138_1 : Int32) (x0_29_138 : Int32) (x0_30_138 : Int32) (x0_31_138 : Int32) (x0_32_138 : Int32), p_X11_readFurther_J138 F x0_5 a1 a2 a3 s138_1 x0_29_138 x0_30_138 x0_31_138 x0_32_138 = some (e_x0_29, e_x0_30, e_x0_31, e_x0_32) → ∀ (H : Heap) (locs : List Loc), va_P G.1 vwCl (wW_X11_readFurther G h0 h1 h2 h3 y0_3 y0_4 y0_6 y0_18 y0_21 y0_22 y0_23 y0_24 y0_25 y0_26 y0_33 y0_34 y0_38 y0_39 y0_40 y0_41 y0_42 y0_43 y0_45 y0_46 y0_47 y0_48 x0_5 x0_7 x0_8 x0_9 x0_10 x0_11 x0_12 x0_13 x0_14 x0_15 x0_16 x0_17 x0_19 x0_20 x0_27 x0_28 x0_29_138 x0_30_138 x0_31_138 x0_32_138 x0_35 x0_36 x0_37 x0_44 x0_49 x0_50 a1 a2 a3) H → va_D A (wW_X11_readFurther G h0 h1 h2 h3 y0_3 y0_4 y0_6 y0_18 y0_21 y0_22 y0_23 y0_24 y0_25 y0_26 y0_33 y0_34 y0_38 y0_39 y0_40 y0_41 y0_42 y0_43 y0_45 y0_46 y0_47 y0_48 x0_5 x0_7 x0_8 x0_9 x0_10 x0_11 x0_12 x0_13 x0_14 x0_15 x0_16 x0_17 x0_19 x0_20 x0_27 x0_28 x0_29_138 x0_30_138 x0_31_138 x0_32_138 x0_35 x0_36 x0_37 x0_44 x0_49 x0_50 a1 a2 a3) → va_S A s.heap H locs → ∀ ls : Array Slot, lv_has ls 8 [] → W p l e ({ frames := 4, cells := 0, slots := 0, locals := 88 } : Room) s m (List.toArray [.ref h0, .int b1, .int b2, .int b3]) below meth c H locs 0 0 (MQ below (QvS G A (wW_X11_readFurther G h0 h1 h2 h3 y0_3 y0_4 y0_6 y0_18 y0_21 y0_22 y0_23 y0_24 y0_25 y0_26 y0_33 y0_34 y0_38 y0_39 y0_40 y0_41 y0_42 y0_43 y0_45 y0_46 y0_47 y0_48 x0_5 x0_7 x0_8 x0_9 x0_10 x0_11 x0_12 x0_13 x0_14 x0_15 x0_16 x0_17 x0_19 x0_20 x0_27 x0_28 e_x0_29 e_x0_30 e_x0_31 e_x0_32 x0_35 x0_36 x0_37 x0_44 x0_49 x0_50 a1 a2 a3)) (List.toArray [.ref h0, .int b1, .int b2, .int b3]) s 0 0 A) (F0 m 138 ls [.int s138_1, .ref h0]) := by
    intro s138_1 x0_29_138 x0_30_138 x0_31_138 x0_32_138 hf H locs hP hD hS ls hl
    refine lv_iconst (v := (-1 : Int32)) hx hb dX11_readFurther_138 (by decide) ?_
    refine lv_iconst (v := (-1 : Int32)) hx hb dX11_readFurther_139 (by decide) ?_
    refine lv_iconst (v := (-1 : Int32)) hx hb dX11_readFurther_140 (by decide) ?_
    obtain ⟨⟨r_141_0_x0_29, r_141_0_x0_30, r_141_0_x0_31, r_141_0_x0_32⟩, hc_r_141_0, hf⟩ := of_bnd hf
    refine cl_Vv (w2 := (wW_X11_readFurther G h0 h1 h2 h3 y0_3 y0_4 y0_6 y0_18 y0_21 y0_22 y0_23 y0_24 y0_25 y0_26 y0_33 y0_34 y0_38 y0_39 y0_40 y0_41 y0_42 y0_43 y0_45 y0_46 y0_47 y0_48 x0_5 x0_7 x0_8 x0_9 x0_10 x0_11 x0_12 x0_13 x0_14 x0_15 x0_16 x0_17 x0_19 x0_20 x0_27 x0_28 r_141_0_x0_29 r_141_0_x0_30 r_141_0_x0_31 r_141_0_x0_32 x0_35 x0_36 x0_37 x0_44 x0_49 x0_50 a1 a2 a3)) (As := [.int s138_1, .int (-1 : Int32), .int (-1 : Int32), .int (-1 : Int32)]) (rest := []) ⟨hx, hb, hml, hown, ht0⟩ (c_X11_told l G h0 h2 h1 h3 y0_3 y0_4 y0_6 y0_18 y0_21 y0_22 y0_23 y0_24 y0_25 y0_26 y0_33 y0_34 y0_38 y0_39 y0_40 y0_41 y0_42 y0_43 y0_45 y0_46 y0_47 y0_48 _ x0_5 x0_7 x0_8 x0_9 x0_10 x0_11 x0_12 x0_13 x0_14 x0_15 x0_16 x0_17 x0_19 x0_20 x0_27 x0_28 x0_29_138 x0_30_138 x0_31_138 x0_32_138 x0_35 x0_36 x0_37 x0_44 x0_49 x0_50 a2 F s138_1 (-1 : Int32) (-1 : Int32) (-1 : Int32) _ _ _ _ hc_r_141_0) yk_X11_told wd_1639 ⟨rfl, rfl, by decide, by decide⟩ ⟨Nat.le_refl _, Nat.le_refl _⟩ hX hK hP hD hS hA [0, 2] [1, 3] [2, 0, 3, 1] (va_recv hK hP (ci := 11) (q0 := 0) rfl rfl) rfl rfl (by decide) rfl rfl rfl rfl rfl hl.1 rfl (Nat.le_of_ble_eq_true rfl) dX11_readFurther_141 (fun H locs hP hD hS => ?_)
    cases hf
    exact ret_v hx hb hr hlk hK hP hD hS dX11_readFurther_144
  have kJ64 : ∀ (u64_1 : Int32) (u64_2 : Int32) (u64_4 : Int32) (u64_6 : Int32) (s64_0 : Int32) (x0_29_64 : Int32) (x0_30_64 : Int32) (x0_31_64 : Int32) (x0_32_64 : Int32), p_X11_readFurther_J64 F x0_5 a1 a2 a3 u64_1 u64_2 u64_4 u64_6 s64_0 x0_29_64 x0_30_64 x0_31_64 x0_32_64 = some (e_x0_29, e_x0_30, e_x0_31, e_x0_32) → ∀ (H : Heap) (locs : List Loc), va_P G.1 vwCl (wW_X11_readFurther G h0 h1 h2 h3 y0_3 y0_4 y0_6 y0_18 y0_21 y0_22 y0_23 y0_24 y0_25 y0_26 y0_33 y0_34 y0_38 y0_39 y0_40 y0_41 y0_42 y0_43 y0_45 y0_46 y0_47 y0_48 x0_5 x0_7 x0_8 x0_9 x0_10 x0_11 x0_12 x0_13 x0_14 x0_15 x0_16 x0_17 x0_19 x0_20 x0_27 x0_28 x0_29_64 x0_30_64 x0_31_64 x0_32_64 x0_35 x0_36 x0_37 x0_44 x0_49 x0_50 a1 a2 a3) H → va_D A (wW_X11_readFurther G h0 h1 h2 h3 y0_3 y0_4 y0_6 y0_18 y0_21 y0_22 y0_23 y0_24 y0_25 y0_26 y0_33 y0_34 y0_38 y0_39 y0_40 y0_41 y0_42 y0_43 y0_45 y0_46 y0_47 y0_48 x0_5 x0_7 x0_8 x0_9 x0_10 x0_11 x0_12 x0_13 x0_14 x0_15 x0_16 x0_17 x0_19 x0_20 x0_27 x0_28 x0_29_64 x0_30_64 x0_31_64 x0_32_64 x0_35 x0_36 x0_37 x0_44 x0_49 x0_50 a1 a2 a3) → va_S A s.heap H locs → ∀ ls : Array Slot, lv_has ls 8 [(0, .ref h0), (1, .int u64_1), (2, .int u64_2), (4, .int u64_4), (6, .int u64_6)] → W p l e ({ frames := 4, cells := 0, slots := 0, locals := 88 } : Room) s m (List.toArray [.ref h0, .int b1, .int b2, .int b3]) below meth c H locs 0 0 (MQ below (QvS G A (wW_X11_readFurther G h0 h1 h2 h3 y0_3 y0_4 y0_6 y0_18 y0_21 y0_22 y0_23 y0_24 y0_25 y0_26 y0_33 y0_34 y0_38 y0_39 y0_40 y0_41 y0_42 y0_43 y0_45 y0_46 y0_47 y0_48 x0_5 x0_7 x0_8 x0_9 x0_10 x0_11 x0_12 x0_13 x0_14 x0_15 x0_16 x0_17 x0_19 x0_20 x0_27 x0_28 e_x0_29 e_x0_30 e_x0_31 e_x0_32 x0_35 x0_36 x0_37 x0_44 x0_49 x0_50 a1 a2 a3)) (List.toArray [.ref h0, .int b1, .int b2, .int b3]) s 0 0 A) (F0 m 64 ls [.int s64_0]) := by
    intro u64_1 u64_2 u64_4 u64_6 s64_0 x0_29_64 x0_30_64 x0_31_64 x0_32_64 hf H locs hP hD hS ls hl
    refine lv_istore (lv' := [(7, .int s64_0), (0, .ref h0), (1, .int u64_1), (2, .int u64_2), (4, .int u64_4), (6, .int u64_6)]) hx hb dX11_readFurther_64 hl (by decide) rfl (fun ls hl => ?_)
    refine lv_iload hx hb dX11_readFurther_66 (lv_at hl 4 rfl) ?_
    refine lv_if_lt (tgt := 84) hx hb dX11_readFurther_68 (by decide) (fun c2 => ?_) (fun c2 => ?_)
    · have hf := of_pos hf c2
      refine lv_iload hx hb dX11_readFurther_84 (lv_at hl 5 rfl) ?_
      refine lv_if_lt (tgt := 102) hx hb dX11_readFurther_86 (by decide) (fun c3 => ?_) (fun c3 => ?_)
      · have hf := of_pos hf c3
        refine lv_iload hx hb dX11_readFurther_102 (lv_at hl 0 rfl) ?_
        refine lv_if_lt (tgt := 123) hx hb dX11_readFurther_104 (by decide) (fun c4 => ?_) (fun c4 => ?_)
        · have hf := of_pos hf c4
          refine lv_aload_n hx hb dX11_readFurther_123 rfl (lv_at hl 1 rfl) ?_
          refine lv_iload_n hx hb dX11_readFurther_124 rfl (lv_at hl 2 rfl) ?_
          obtain ⟨r_125_4, hc_r_125_4, hf⟩ := of_bnd hf
          refine cl_Si (w2 := (wW_X11_readFurther G h0 h1 h2 h3 y0_3 y0_4 y0_6 y0_18 y0_21 y0_22 y0_23 y0_24 y0_25 y0_26 y0_33 y0_34 y0_38 y0_39 y0_40 y0_41 y0_42 y0_43 y0_45 y0_46 y0_47 y0_48 x0_5 x0_7 x0_8 x0_9 x0_10 x0_11 x0_12 x0_13 x0_14 x0_15 x0_16 x0_17 x0_19 x0_20 x0_27 x0_28 x0_29_64 x0_30_64 x0_31_64 x0_32_64 x0_35 x0_36 x0_37 x0_44 x0_49 x0_50 a1 a2 a3)) (As := [.int u64_1]) (rest := [.ref h0]) ⟨hx, hb, hml, hown, ht0⟩ (c_X11_ones l G _ F u64_1 _ hc_r_125_4) yk_X11_ones wd_1344 ⟨rfl, rfl, by decide, by decide⟩ ⟨Nat.le_refl _, Nat.le_refl _⟩ hX hK hP hD hS hA [] [0, 1, 2, 3] [0, 1, 2, 3] rfl rfl (by decide) rfl rfl rfl rfl rfl hl.1 rfl (Nat.le_of_ble_eq_true rfl) dX11_readFurther_125 (fun H locs hP hD hS => ?_)
          refine lv_iconst (v := (2 : Int32)) hx hb dX11_readFurther_128 (by decide) ?_
          refine lv_irem hx hb dX11_readFurther_129 (by decide) ?_
          refine lv_if_ne (tgt := 137) hx hb dX11_readFurther_130 (by decide) (fun c6 => ?_) (fun c6 => ?_)
          · have hf := of_neg hf c6
            refine lv_iconst (v := (4 : Int32)) hx hb dX11_readFurther_137 (by decide) ?_
            exact kJ138 _ _ _ _ _ hf _ _ hP hD hS _ (lv_sub hl [] rfl)
          · have hf := of_pos hf c6
            refine lv_iconst (v := (3 : Int32)) hx hb dX11_readFurther_133 (by decide) ?_
            refine lv_goto (tgt := 138) hx hb dX11_readFurther_134 (by decide) ?_
            exact kJ138 _ _ _ _ _ hf _ _ hP hD hS _ (lv_sub hl [] rfl)
        · have hf := of_neg hf c4
          refine lv_aload_n hx hb dX11_readFurther_107 rfl (lv_at hl 1 rfl) ?_
          refine lv_iconst (v := (2 : Int32)) hx hb dX11_readFurther_108 (by decide) ?_
          refine lv_iload hx hb dX11_readFurther_109 (lv_at hl 0 rfl) ?_
          refine lv_iload hx hb dX11_readFurther_111 (lv_at hl 0 rfl) ?_
          refine lv_iload hx hb dX11_readFurther_113 (lv_at hl 0 rfl) ?_
          refine lv_iconst (v := (1 : Int32)) hx hb dX11_readFurther_115 (by decide) ?_
          refine lv_iadd hx hb dX11_readFurther_116 ?_
          obtain ⟨⟨r_117_6_x0_29, r_117_6_x0_30, r_117_6_x0_31, r_117_6_x0_32⟩, hc_r_117_6, hf⟩ := of_bnd hf
          refine cl_Vv (w2 := (wW_X11_readFurther G h0 h1 h2 h3 y0_3 y0_4 y0_6 y0_18 y0_21 y0_22 y0_23 y0_24 y0_25 y0_26 y0_33 y0_34 y0_38 y0_39 y0_40 y0_41 y0_42 y0_43 y0_45 y0_46 y0_47 y0_48 x0_5 x0_7 x0_8 x0_9 x0_10 x0_11 x0_12 x0_13 x0_14 x0_15 x0_16 x0_17 x0_19 x0_20 x0_27 x0_28 r_117_6_x0_29 r_117_6_x0_30 r_117_6_x0_31 r_117_6_x0_32 x0_35 x0_36 x0_37 x0_44 x0_49 x0_50 a1 a2 a3)) (As := [.int (2 : Int32), .int s64_0, .int s64_0, .int (s64_0 + (1 : Int32))]) (rest := []) ⟨hx, hb, hml, hown, ht0⟩ (c_X11_told l G h0 h2 h1 h3 y0_3 y0_4 y0_6 y0_18 y0_21 y0_22 y0_23 y0_24 y0_25 y0_26 y0_33 y0_34 y0_38 y0_39 y0_40 y0_41 y0_42 y0_43 y0_45 y0_46 y0_47 y0_48 _ x0_5 x0_7 x0_8 x0_9 x0_10 x0_11 x0_12 x0_13 x0_14 x0_15 x0_16 x0_17 x0_19 x0_20 x0_27 x0_28 x0_29_64 x0_30_64 x0_31_64 x0_32_64 x0_35 x0_36 x0_37 x0_44 x0_49 x0_50 a2 F (2 : Int32) s64_0 s64_0 (s64_0 + (1 : Int32)) _ _ _ _ hc_r_117_6) yk_X11_told wd_1639 ⟨rfl, rfl, by decide, by decide⟩ ⟨Nat.le_refl _, Nat.le_refl _⟩ hX hK hP hD hS hA [0, 2] [1, 3] [2, 0, 3, 1] (va_recv hK hP (ci := 11) (q0 := 0) rfl rfl) rfl rfl (by decide) rfl rfl rfl rfl rfl hl.1 rfl (Nat.le_of_ble_eq_true rfl) dX11_readFurther_117 (fun H locs hP hD hS => ?_)
          refine lv_goto (tgt := 144) hx hb dX11_readFurther_120 (by decide) ?_
          cases hf
          exact ret_v hx hb hr hlk hK hP hD hS dX11_readFurther_144
      · have hf := of_neg hf c3
        refine lv_aload_n hx hb dX11_readFurther_89 rfl (lv_at hl 1 rfl) ?_
        refine lv_iconst (v := (5 : Int32)) hx hb dX11_readFurther_90 (by decide) ?_
        refine lv_iload hx hb dX11_readFurther_91 (lv_at hl 5 rfl) ?_
        refine lv_iload_n hx hb dX11_readFurther_93 rfl (lv_at hl 3 rfl) ?_
        refine lv_iload hx hb dX11_readFurther_94 (lv_at hl 5 rfl) ?_
        obtain ⟨⟨r_96_7_x0_29, r_96_7_x0_30, r_96_7_x0_31, r_96_7_x0_32⟩, hc_r_96_7, hf⟩ := of_bnd hf
        refine cl_Vv (w2 := (wW_X11_readFurther G h0 h1 h2 h3 y0_3 y0_4 y0_6 y0_18 y0_21 y0_22 y0_23 y0_24 y0_25 y0_26 y0_33 y0_34 y0_38 y0_39 y0_40 y0_41 y0_42 y0_43 y0_45 y0_46 y0_47 y0_48 x0_5 x0_7 x0_8 x0_9 x0_10 x0_11 x0_12 x0_13 x0_14 x0_15 x0_16 x0_17 x0_19 x0_20 x0_27 x0_28 r_96_7_x0_29 r_96_7_x0_30 r_96_7_x0_31 r_96_7_x0_32 x0_35 x0_36 x0_37 x0_44 x0_49 x0_50 a1 a2 a3)) (As := [.int (5 : Int32), .int u64_6, .int u64_2, .int u64_6]) (rest := []) ⟨hx, hb, hml, hown, ht0⟩ (c_X11_told l G h0 h2 h1 h3 y0_3 y0_4 y0_6 y0_18 y0_21 y0_22 y0_23 y0_24 y0_25 y0_26 y0_33 y0_34 y0_38 y0_39 y0_40 y0_41 y0_42 y0_43 y0_45 y0_46 y0_47 y0_48 _ x0_5 x0_7 x0_8 x0_9 x0_10 x0_11 x0_12 x0_13 x0_14 x0_15 x0_16 x0_17 x0_19 x0_20 x0_27 x0_28 x0_29_64 x0_30_64 x0_31_64 x0_32_64 x0_35 x0_36 x0_37 x0_44 x0_49 x0_50 a2 F (5 : Int32) u64_6 u64_2 u64_6 _ _ _ _ hc_r_96_7) yk_X11_told wd_1639 ⟨rfl, rfl, by decide, by decide⟩ ⟨Nat.le_refl _, Nat.le_refl _⟩ hX hK hP hD hS hA [0, 2] [1, 3] [2, 0, 3, 1] (va_recv hK hP (ci := 11) (q0 := 0) rfl rfl) rfl rfl (by decide) rfl rfl rfl rfl rfl hl.1 rfl (Nat.le_of_ble_eq_true rfl) dX11_readFurther_96 (fun H locs hP hD hS => ?_)
        refine lv_goto (tgt := 144) hx hb dX11_readFurther_99 (by decide) ?_
        cases hf
        exact ret_v hx hb hr hlk hK hP hD hS dX11_readFurther_144
    · have hf := of_neg hf c2
      refine lv_aload_n hx hb dX11_readFurther_71 rfl (lv_at hl 1 rfl) ?_
      refine lv_iconst (v := (1 : Int32)) hx hb dX11_readFurther_72 (by decide) ?_
      refine lv_iload hx hb dX11_readFurther_73 (lv_at hl 4 rfl) ?_
      refine lv_iload hx hb dX11_readFurther_75 (lv_at hl 4 rfl) ?_
      refine lv_iconst (v := (-1 : Int32)) hx hb dX11_readFurther_77 (by decide) ?_
      obtain ⟨⟨r_78_8_x0_29, r_78_8_x0_30, r_78_8_x0_31, r_78_8_x0_32⟩, hc_r_78_8, hf⟩ := of_bnd hf
      refine cl_Vv (w2 := (wW_X11_readFurther G h0 h1 h2 h3 y0_3 y0_4 y0_6 y0_18 y0_21 y0_22 y0_23 y0_24 y0_25 y0_26 y0_33 y0_34 y0_38 y0_39 y0_40 y0_41 y0_42 y0_43 y0_45 y0_46 y0_47 y0_48 x0_5 x0_7 x0_8 x0_9 x0_10 x0_11 x0_12 x0_13 x0_14 x0_15 x0_16 x0_17 x0_19 x0_20 x0_27 x0_28 r_78_8_x0_29 r_78_8_x0_30 r_78_8_x0_31 r_78_8_x0_32 x0_35 x0_36 x0_37 x0_44 x0_49 x0_50 a1 a2 a3)) (As := [.int (1 : Int32), .int u64_4, .int u64_4, .int (-1 : Int32)]) (rest := []) ⟨hx, hb, hml, hown, ht0⟩ (c_X11_told l G h0 h2 h1 h3 y0_3 y0_4 y0_6 y0_18 y0_21 y0_22 y0_23 y0_24 y0_25 y0_26 y0_33 y0_34 y0_38 y0_39 y0_40 y0_41 y0_42 y0_43 y0_45 y0_46 y0_47 y0_48 _ x0_5 x0_7 x0_8 x0_9 x0_10 x0_11 x0_12 x0_13 x0_14 x0_15 x0_16 x0_17 x0_19 x0_20 x0_27 x0_28 x0_29_64 x0_30_64 x0_31_64 x0_32_64 x0_35 x0_36 x0_37 x0_44 x0_49 x0_50 a2 F (1 : Int32) u64_4 u64_4 (-1 : Int32) _ _ _ _ hc_r_78_8) yk_X11_told wd_1639 ⟨rfl, rfl, by decide, by decide⟩ ⟨Nat.le_refl _, Nat.le_refl _⟩ hX hK hP hD hS hA [0, 2] [1, 3] [2, 0, 3, 1] (va_recv hK hP (ci := 11) (q0 := 0) rfl rfl) rfl rfl (by decide) rfl rfl rfl rfl rfl hl.1 rfl (Nat.le_of_ble_eq_true rfl) dX11_readFurther_78 (fun H locs hP hD hS => ?_)
      refine lv_goto (tgt := 144) hx hb dX11_readFurther_81 (by decide) ?_
      cases hf
      exact ret_v hx hb hr hlk hK hP hD hS dX11_readFurther_144
  have kJ42 : ∀ (u42_1 : Int32) (u42_2 : Int32) (u42_4 : Int32) (s42_0 : Int32) (x0_29_42 : Int32) (x0_30_42 : Int32) (x0_31_42 : Int32) (x0_32_42 : Int32), p_X11_readFurther_J42 F x0_5 a1 a2 a3 u42_1 u42_2 u42_4 s42_0 x0_29_42 x0_30_42 x0_31_42 x0_32_42 = some (e_x0_29, e_x0_30, e_x0_31, e_x0_32) → ∀ (H : Heap) (locs : List Loc), va_P G.1 vwCl (wW_X11_readFurther G h0 h1 h2 h3 y0_3 y0_4 y0_6 y0_18 y0_21 y0_22 y0_23 y0_24 y0_25 y0_26 y0_33 y0_34 y0_38 y0_39 y0_40 y0_41 y0_42 y0_43 y0_45 y0_46 y0_47 y0_48 x0_5 x0_7 x0_8 x0_9 x0_10 x0_11 x0_12 x0_13 x0_14 x0_15 x0_16 x0_17 x0_19 x0_20 x0_27 x0_28 x0_29_42 x0_30_42 x0_31_42 x0_32_42 x0_35 x0_36 x0_37 x0_44 x0_49 x0_50 a1 a2 a3) H → va_D A (wW_X11_readFurther G h0 h1 h2 h3 y0_3 y0_4 y0_6 y0_18 y0_21 y0_22 y0_23 y0_24 y0_25 y0_26 y0_33 y0_34 y0_38 y0_39 y0_40 y0_41 y0_42 y0_43 y0_45 y0_46 y0_47 y0_48 x0_5 x0_7 x0_8 x0_9 x0_10 x0_11 x0_12 x0_13 x0_14 x0_15 x0_16 x0_17 x0_19 x0_20 x0_27 x0_28 x0_29_42 x0_30_42 x0_31_42 x0_32_42 x0_35 x0_36 x0_37 x0_44 x0_49 x0_50 a1 a2 a3) → va_S A s.heap H locs → ∀ ls : Array Slot, lv_has ls 8 [(0, .ref h0), (1, .int u42_1), (2, .int u42_2), (4, .int u42_4)] → W p l e ({ frames := 4, cells := 0, slots := 0, locals := 88 } : Room) s m (List.toArray [.ref h0, .int b1, .int b2, .int b3]) below meth c H locs 0 0 (MQ below (QvS G A (wW_X11_readFurther G h0 h1 h2 h3 y0_3 y0_4 y0_6 y0_18 y0_21 y0_22 y0_23 y0_24 y0_25 y0_26 y0_33 y0_34 y0_38 y0_39 y0_40 y0_41 y0_42 y0_43 y0_45 y0_46 y0_47 y0_48 x0_5 x0_7 x0_8 x0_9 x0_10 x0_11 x0_12 x0_13 x0_14 x0_15 x0_16 x0_17 x0_19 x0_20 x0_27 x0_28 e_x0_29 e_x0_30 e_x0_31 e_x0_32 x0_35 x0_36 x0_37 x0_44 x0_49 x0_50 a1 a2 a3)) (List.toArray [.ref h0, .int b1, .int b2, .int b3]) s 0 0 A) (F0 m 42 ls [.int s42_0]) := by
    intro u42_1 u42_2 u42_4 s42_0 x0_29_42 x0_30_42 x0_31_42 x0_32_42 hf H locs hP hD hS ls hl
    refine lv_istore (lv' := [(6, .int s42_0), (0, .ref h0), (1, .int u42_1), (2, .int u42_2), (4, .int u42_4)]) hx hb dX11_readFurther_42 hl (by decide) rfl (fun ls hl => ?_)
    refine lv_aload_n hx hb dX11_readFurther_44 rfl (lv_at hl 1 rfl) ?_
    refine va_get (ci := 11) (v := .ref h1) (C := RX11) (T := TX11) (N := 51) hx hb ht0 iX11 hown hK hP 0 rfl rfl 0 (by decide) (ht0 _ wd_1406) (fun _ h9 => h9) rfl dX11_readFurther_45 ?_
    refine lv_bipush (v := (32 : Int32)) hx hb dX11_readFurther_48 (by decide) ?_
    refine va_iald hx hb hK hP 1 0 rfl rfl (show ¬ ixBad (32 : Int32) 121 by decide) dX11_readFurther_50 ?_
    refine lv_iconst (v := (1 : Int32)) hx hb dX11_readFurther_51 (by decide) ?_
    refine lv_icmp_ne (tgt := 63) hx hb dX11_readFurther_52 (by decide) (fun c10 => ?_) (fun c10 => ?_)
    · have hf := of_neg hf c10
      refine lv_iconst (v := (-1 : Int32)) hx hb dX11_readFurther_63 (by decide) ?_
      exact kJ64 _ _ _ _ _ _ _ _ _ hf _ _ hP hD hS _ (lv_sub hl [1, 2, 3, 4, 0] rfl)
    · have hf := of_pos hf c10
      refine lv_aload_n hx hb dX11_readFurther_55 rfl (lv_at hl 1 rfl) ?_
      refine lv_iload_n hx hb dX11_readFurther_56 rfl (lv_at hl 2 rfl) ?_
      obtain ⟨r_57_10, hc_r_57_10, hf⟩ := of_bnd hf
      refine cl_Vi (w2 := (wW_X11_readFurther G h0 h1 h2 h3 y0_3 y0_4 y0_6 y0_18 y0_21 y0_22 y0_23 y0_24 y0_25 y0_26 y0_33 y0_34 y0_38 y0_39 y0_40 y0_41 y0_42 y0_43 y0_45 y0_46 y0_47 y0_48 x0_5 x0_7 x0_8 x0_9 x0_10 x0_11 x0_12 x0_13 x0_14 x0_15 x0_16 x0_17 x0_19 x0_20 x0_27 x0_28 x0_29_42 x0_30_42 x0_31_42 x0_32_42 x0_35 x0_36 x0_37 x0_44 x0_49 x0_50 a1 a2 a3)) (As := [.int u42_1]) (rest := []) ⟨hx, hb, hml, hown, ht0⟩ (c_X11_pairOf l G h0 h1 h2 h3 y0_3 y0_4 y0_6 y0_18 y0_21 y0_22 y0_23 y0_24 y0_25 y0_26 y0_33 y0_34 y0_38 y0_39 y0_40 y0_41 y0_42 y0_43 y0_45 y0_46 y0_47 y0_48 _ x0_5 x0_7 x0_8 x0_9 x0_10 x0_11 x0_12 x0_13 x0_14 x0_15 x0_16 x0_17 x0_19 x0_20 x0_27 x0_28 x0_29_42 x0_30_42 x0_31_42 x0_32_42 x0_35 x0_36 x0_37 x0_44 x0_49 x0_50 a1 a2 a3 F u42_1 _ hc_r_57_10) yk_X11_pairOf wd_1655 ⟨rfl, rfl, by decide, by decide⟩ ⟨Nat.le_refl _, Nat.le_refl _⟩ hX hK hP hD hS hA [0, 1, 2, 3] [] [0, 1, 2, 3] (va_recv hK hP (ci := 11) (q0 := 0) rfl rfl) rfl rfl (by decide) rfl rfl rfl rfl rfl hl.1 rfl (Nat.le_of_ble_eq_true rfl) dX11_readFurther_57 (fun H locs hP hD hS => ?_)
      refine lv_goto (tgt := 64) hx hb dX11_readFurther_60 (by decide) ?_
      exact kJ64 _ _ _ _ _ _ _ _ _ hf _ _ hP hD hS _ (lv_sub hl [1, 2, 3, 4, 0] rfl)
  have kJ20 : ∀ (u20_1 : Int32) (u20_2 : Int32) (u20_4 : Int32) (s20_0 : Int32) (x0_29_20 : Int32) (x0_30_20 : Int32) (x0_31_20 : Int32) (x0_32_20 : Int32), p_X11_readFurther_J20 F x0_5 a1 a2 a3 u20_1 u20_2 u20_4 s20_0 x0_29_20 x0_30_20 x0_31_20 x0_32_20 = some (e_x0_29, e_x0_30, e_x0_31, e_x0_32) → ∀ (H : Heap) (locs : List Loc), va_P G.1 vwCl (wW_X11_readFurther G h0 h1 h2 h3 y0_3 y0_4 y0_6 y0_18 y0_21 y0_22 y0_23 y0_24 y0_25 y0_26 y0_33 y0_34 y0_38 y0_39 y0_40 y0_41 y0_42 y0_43 y0_45 y0_46 y0_47 y0_48 x0_5 x0_7 x0_8 x0_9 x0_10 x0_11 x0_12 x0_13 x0_14 x0_15 x0_16 x0_17 x0_19 x0_20 x0_27 x0_28 x0_29_20 x0_30_20 x0_31_20 x0_32_20 x0_35 x0_36 x0_37 x0_44 x0_49 x0_50 a1 a2 a3) H → va_D A (wW_X11_readFurther G h0 h1 h2 h3 y0_3 y0_4 y0_6 y0_18 y0_21 y0_22 y0_23 y0_24 y0_25 y0_26 y0_33 y0_34 y0_38 y0_39 y0_40 y0_41 y0_42 y0_43 y0_45 y0_46 y0_47 y0_48 x0_5 x0_7 x0_8 x0_9 x0_10 x0_11 x0_12 x0_13 x0_14 x0_15 x0_16 x0_17 x0_19 x0_20 x0_27 x0_28 x0_29_20 x0_30_20 x0_31_20 x0_32_20 x0_35 x0_36 x0_37 x0_44 x0_49 x0_50 a1 a2 a3) → va_S A s.heap H locs → ∀ ls : Array Slot, lv_has ls 8 [(0, .ref h0), (1, .int u20_1), (2, .int u20_2), (4, .int u20_4)] → W p l e ({ frames := 4, cells := 0, slots := 0, locals := 88 } : Room) s m (List.toArray [.ref h0, .int b1, .int b2, .int b3]) below meth c H locs 0 0 (MQ below (QvS G A (wW_X11_readFurther G h0 h1 h2 h3 y0_3 y0_4 y0_6 y0_18 y0_21 y0_22 y0_23 y0_24 y0_25 y0_26 y0_33 y0_34 y0_38 y0_39 y0_40 y0_41 y0_42 y0_43 y0_45 y0_46 y0_47 y0_48 x0_5 x0_7 x0_8 x0_9 x0_10 x0_11 x0_12 x0_13 x0_14 x0_15 x0_16 x0_17 x0_19 x0_20 x0_27 x0_28 e_x0_29 e_x0_30 e_x0_31 e_x0_32 x0_35 x0_36 x0_37 x0_44 x0_49 x0_50 a1 a2 a3)) (List.toArray [.ref h0, .int b1, .int b2, .int b3]) s 0 0 A) (F0 m 20 ls [.int s20_0]) := by
    intro u20_1 u20_2 u20_4 s20_0 x0_29_20 x0_30_20 x0_31_20 x0_32_20 hf H locs hP hD hS ls hl
    refine lv_istore (lv' := [(5, .int s20_0), (0, .ref h0), (1, .int u20_1), (2, .int u20_2), (4, .int u20_4)]) hx hb dX11_readFurther_20 hl (by decide) rfl (fun ls hl => ?_)
    refine lv_iload hx hb dX11_readFurther_22 (lv_at hl 0 rfl) ?_
    refine lv_if_eq (tgt := 41) hx hb dX11_readFurther_24 (by decide) (fun c12 => ?_) (fun c12 => ?_)
    · have hf := of_pos hf c12
      refine lv_iconst (v := (-1 : Int32)) hx hb dX11_readFurther_41 (by decide) ?_
      exact kJ42 _ _ _ _ _ _ _ _ hf _ _ hP hD hS _ (lv_sub hl [1, 2, 3, 4] rfl)
    · have hf := of_neg hf c12
      refine lv_aload_n hx hb dX11_readFurther_27 rfl (lv_at hl 1 rfl) ?_
      refine lv_iload_n hx hb dX11_readFurther_28 rfl (lv_at hl 2 rfl) ?_
      refine lv_aload_n hx hb dX11_readFurther_29 rfl (lv_at hl 1 rfl) ?_
      refine lv_iload_n hx hb dX11_readFurther_30 rfl (lv_at hl 3 rfl) ?_
      obtain ⟨r_31_12, hc_r_31_12, hf⟩ := of_bnd hf
      refine cl_Vi (w2 := (wW_X11_readFurther G h0 h1 h2 h3 y0_3 y0_4 y0_6 y0_18 y0_21 y0_22 y0_23 y0_24 y0_25 y0_26 y0_33 y0_34 y0_38 y0_39 y0_40 y0_41 y0_42 y0_43 y0_45 y0_46 y0_47 y0_48 x0_5 x0_7 x0_8 x0_9 x0_10 x0_11 x0_12 x0_13 x0_14 x0_15 x0_16 x0_17 x0_19 x0_20 x0_27 x0_28 x0_29_20 x0_30_20 x0_31_20 x0_32_20 x0_35 x0_36 x0_37 x0_44 x0_49 x0_50 a1 a2 a3)) (As := [.int u20_2]) (rest := [.int u20_1, .ref h0]) ⟨hx, hb, hml, hown, ht0⟩ (c_X11_columnAt l G h0 h1 h2 h3 y0_3 y0_4 y0_6 y0_18 y0_21 y0_22 y0_23 y0_24 y0_25 y0_26 y0_33 y0_34 y0_38 y0_39 y0_40 y0_41 y0_42 y0_43 y0_45 y0_46 y0_47 y0_48 _ x0_5 x0_7 x0_8 x0_9 x0_10 x0_11 x0_12 x0_13 x0_14 x0_15 x0_16 x0_17 x0_19 x0_20 x0_27 x0_28 x0_29_20 x0_30_20 x0_31_20 x0_32_20 x0_35 x0_36 x0_37 x0_44 x0_49 x0_50 a1 F u20_2 _ hc_r_31_12) yk_X11_columnAt wd_1402 ⟨rfl, rfl, by decide, by decide⟩ ⟨Nat.le_refl _, Nat.le_refl _⟩ hX hK hP hD hS hA [0, 1] [2, 3] [2, 3, 0, 1] (va_recv hK hP (ci := 11) (q0 := 0) rfl rfl) rfl rfl (by decide) rfl rfl rfl rfl rfl hl.1 rfl (Nat.le_of_ble_eq_true rfl) dX11_readFurther_31 (fun H locs hP hD hS => ?_)
      refine lv_ixor hx hb dX11_readFurther_34 ?_
      obtain ⟨r_35_13, hc_r_35_13, hf⟩ := of_bnd hf
      refine cl_Vi (w2 := (wW_X11_readFurther G h0 h1 h2 h3 y0_3 y0_4 y0_6 y0_18 y0_21 y0_22 y0_23 y0_24 y0_25 y0_26 y0_33 y0_34 y0_38 y0_39 y0_40 y0_41 y0_42 y0_43 y0_45 y0_46 y0_47 y0_48 x0_5 x0_7 x0_8 x0_9 x0_10 x0_11 x0_12 x0_13 x0_14 x0_15 x0_16 x0_17 x0_19 x0_20 x0_27 x0_28 x0_29_20 x0_30_20 x0_31_20 x0_32_20 x0_35 x0_36 x0_37 x0_44 x0_49 x0_50 a1 a2 a3)) (As := [.int (u20_1 ^^^ r_31_12)]) (rest := []) ⟨hx, hb, hml, hown, ht0⟩ (c_X11_placeOf l G h0 h1 h2 h3 y0_3 y0_4 y0_6 y0_18 y0_21 y0_22 y0_23 y0_24 y0_25 y0_26 y0_33 y0_34 y0_38 y0_39 y0_40 y0_41 y0_42 y0_43 y0_45 y0_46 y0_47 y0_48 _ x0_5 x0_7 x0_8 x0_9 x0_10 x0_11 x0_12 x0_13 x0_14 x0_15 x0_16 x0_17 x0_19 x0_20 x0_27 x0_28 x0_29_20 x0_30_20 x0_31_20 x0_32_20 x0_35 x0_36 x0_37 x0_44 x0_49 x0_50 a1 a2 a3 F (u20_1 ^^^ r_31_12) _ hc_r_35_13) yk_X11_placeOf wd_1651 ⟨rfl, rfl, by decide, by decide⟩ ⟨Nat.le_refl _, Nat.le_refl _⟩ hX hK hP hD hS hA [0, 1, 2, 3] [] [0, 1, 2, 3] (va_recv hK hP (ci := 11) (q0 := 0) rfl rfl) rfl rfl (by decide) rfl rfl rfl rfl rfl hl.1 rfl (Nat.le_of_ble_eq_true rfl) dX11_readFurther_35 (fun H locs hP hD hS => ?_)
      refine lv_goto (tgt := 42) hx hb dX11_readFurther_38 (by decide) ?_
      exact kJ42 _ _ _ _ _ _ _ _ hf _ _ hP hD hS _ (lv_sub hl [1, 2, 3, 4] rfl)
  have kJ19 : ∀ (u19_1 : Int32) (u19_2 : Int32) (u19_4 : Int32) (x0_29_19 : Int32) (x0_30_19 : Int32) (x0_31_19 : Int32) (x0_32_19 : Int32), p_X11_readFurther_J19 F x0_5 a1 a2 a3 u19_1 u19_2 u19_4 x0_29_19 x0_30_19 x0_31_19 x0_32_19 = some (e_x0_29, e_x0_30, e_x0_31, e_x0_32) → ∀ (H : Heap) (locs : List Loc), va_P G.1 vwCl (wW_X11_readFurther G h0 h1 h2 h3 y0_3 y0_4 y0_6 y0_18 y0_21 y0_22 y0_23 y0_24 y0_25 y0_26 y0_33 y0_34 y0_38 y0_39 y0_40 y0_41 y0_42 y0_43 y0_45 y0_46 y0_47 y0_48 x0_5 x0_7 x0_8 x0_9 x0_10 x0_11 x0_12 x0_13 x0_14 x0_15 x0_16 x0_17 x0_19 x0_20 x0_27 x0_28 x0_29_19 x0_30_19 x0_31_19 x0_32_19 x0_35 x0_36 x0_37 x0_44 x0_49 x0_50 a1 a2 a3) H → va_D A (wW_X11_readFurther G h0 h1 h2 h3 y0_3 y0_4 y0_6 y0_18 y0_21 y0_22 y0_23 y0_24 y0_25 y0_26 y0_33 y0_34 y0_38 y0_39 y0_40 y0_41 y0_42 y0_43 y0_45 y0_46 y0_47 y0_48 x0_5 x0_7 x0_8 x0_9 x0_10 x0_11 x0_12 x0_13 x0_14 x0_15 x0_16 x0_17 x0_19 x0_20 x0_27 x0_28 x0_29_19 x0_30_19 x0_31_19 x0_32_19 x0_35 x0_36 x0_37 x0_44 x0_49 x0_50 a1 a2 a3) → va_S A s.heap H locs → ∀ ls : Array Slot, lv_has ls 8 [(0, .ref h0), (1, .int u19_1), (2, .int u19_2), (4, .int u19_4)] → W p l e ({ frames := 4, cells := 0, slots := 0, locals := 88 } : Room) s m (List.toArray [.ref h0, .int b1, .int b2, .int b3]) below meth c H locs 0 0 (MQ below (QvS G A (wW_X11_readFurther G h0 h1 h2 h3 y0_3 y0_4 y0_6 y0_18 y0_21 y0_22 y0_23 y0_24 y0_25 y0_26 y0_33 y0_34 y0_38 y0_39 y0_40 y0_41 y0_42 y0_43 y0_45 y0_46 y0_47 y0_48 x0_5 x0_7 x0_8 x0_9 x0_10 x0_11 x0_12 x0_13 x0_14 x0_15 x0_16 x0_17 x0_19 x0_20 x0_27 x0_28 e_x0_29 e_x0_30 e_x0_31 e_x0_32 x0_35 x0_36 x0_37 x0_44 x0_49 x0_50 a1 a2 a3)) (List.toArray [.ref h0, .int b1, .int b2, .int b3]) s 0 0 A) (F0 m 19 ls []) := by
    intro u19_1 u19_2 u19_4 x0_29_19 x0_30_19 x0_31_19 x0_32_19 hf H locs hP hD hS ls hl
    refine lv_iconst (v := (0 : Int32)) hx hb dX11_readFurther_19 (by decide) ?_
    exact kJ20 _ _ _ _ _ _ _ _ hf _ _ hP hD hS _ (lv_sub hl [0, 1, 2, 3] rfl)
  refine lv_aload_n hx hb dX11_readFurther_0 rfl (lv_at hl 0 rfl) ?_
  refine lv_iload_n hx hb dX11_readFurther_1 rfl (lv_at hl 1 rfl) ?_
  obtain ⟨r_2_14, hc_r_2_14, hf⟩ := of_bnd hf
  refine cl_Vi (w2 := (wW_X11_readFurther G h0 h1 h2 h3 y0_3 y0_4 y0_6 y0_18 y0_21 y0_22 y0_23 y0_24 y0_25 y0_26 y0_33 y0_34 y0_38 y0_39 y0_40 y0_41 y0_42 y0_43 y0_45 y0_46 y0_47 y0_48 x0_5 x0_7 x0_8 x0_9 x0_10 x0_11 x0_12 x0_13 x0_14 x0_15 x0_16 x0_17 x0_19 x0_20 x0_27 x0_28 x0_29 x0_30 x0_31 x0_32 x0_35 x0_36 x0_37 x0_44 x0_49 x0_50 a1 a2 a3)) (As := [.int b1]) (rest := []) ⟨hx, hb, hml, hown, ht0⟩ (c_X11_placeOf l G h0 h1 h2 h3 y0_3 y0_4 y0_6 y0_18 y0_21 y0_22 y0_23 y0_24 y0_25 y0_26 y0_33 y0_34 y0_38 y0_39 y0_40 y0_41 y0_42 y0_43 y0_45 y0_46 y0_47 y0_48 _ x0_5 x0_7 x0_8 x0_9 x0_10 x0_11 x0_12 x0_13 x0_14 x0_15 x0_16 x0_17 x0_19 x0_20 x0_27 x0_28 x0_29 x0_30 x0_31 x0_32 x0_35 x0_36 x0_37 x0_44 x0_49 x0_50 a1 a2 a3 F b1 _ hc_r_2_14) yk_X11_placeOf wd_1651 ⟨rfl, rfl, by decide, by decide⟩ ⟨Nat.le_refl _, Nat.le_refl _⟩ hX hK hP hD hS hA [0, 1, 2, 3] [] [0, 1, 2, 3] (va_recv hK hP (ci := 11) (q0 := 0) rfl rfl) rfl rfl (by decide) rfl rfl rfl rfl rfl hl.1 rfl (Nat.le_of_ble_eq_true rfl) dX11_readFurther_2 (fun H locs hP hD hS => ?_)
  refine lv_istore (lv' := [(4, .int r_2_14), (0, .ref h0), (1, .int b1), (2, .int b2), (3, .int b3)]) hx hb dX11_readFurther_5 hl (by decide) rfl (fun ls hl => ?_)
  refine lv_iload_n hx hb dX11_readFurther_7 rfl (lv_at hl 3 rfl) ?_
  refine lv_if_lt (tgt := 19) hx hb dX11_readFurther_8 (by decide) (fun c16 => ?_) (fun c16 => ?_)
  · have hf := of_pos hf c16
    exact kJ19 _ _ _ _ _ _ _ hf _ _ hP hD hS _ (lv_sub hl [1, 2, 3, 0] rfl)
  · have hf := of_neg hf c16
    refine lv_iload_n hx hb dX11_readFurther_11 rfl (lv_at hl 4 rfl) ?_
    refine lv_if_ge (tgt := 19) hx hb dX11_readFurther_12 (by decide) (fun c17 => ?_) (fun c17 => ?_)
    · have hf := of_pos hf c17
      exact kJ19 _ _ _ _ _ _ _ hf _ _ hP hD hS _ (lv_sub hl [1, 2, 3, 0] rfl)
    · have hf := of_neg hf c17
      refine lv_iconst (v := (1 : Int32)) hx hb dX11_readFurther_15 (by decide) ?_
      refine lv_goto (tgt := 20) hx hb dX11_readFurther_16 (by decide) ?_
      exact kJ20 _ _ _ _ _ _ _ _ hf _ _ hP hD hS _ (lv_sub hl [1, 2, 3, 0] rfl)
theorem yk_X11_readFurther : ykV yX11_readFurther RX11 cX11_readFurther 8 none 3 := ⟨wd_1649, wd_85, wd_142, wd_1650, rfl, by decide +kernel, by decide +kernel, by decide +kernel⟩
theorem dX11_read_0 : decode cX11_read 0 = .ok (.aload_n 0, 1) := by decide +kernel
theorem dX11_read_1 : decode cX11_read 1 = .ok (.iload_n 1, 1) := by decide +kernel
theorem dX11_read_2 : decode cX11_read 2 = .ok (.putfield 290, 3) := by decide +kernel
theorem dX11_read_5 : decode cX11_read 5 = .ok (.aload_n 0, 1) := by decide +kernel
theorem dX11_read_6 : decode cX11_read 6 = .ok (.iload_n 2, 1) := by decide +kernel
theorem dX11_read_7 : decode cX11_read 7 = .ok (.putfield 293, 3) := by decide +kernel
theorem dX11_read_10 : decode cX11_read 10 = .ok (.aload_n 0, 1) := by decide +kernel
theorem dX11_read_11 : decode cX11_read 11 = .ok (.iload_n 1, 1) := by decide +kernel
theorem dX11_read_12 : decode cX11_read 12 = .ok (.iload_n 2, 1) := by decide +kernel
theorem dX11_read_13 : decode cX11_read 13 = .ok (.invokevirtual 305, 3) := by decide +kernel
theorem dX11_read_16 : decode cX11_read 16 = .ok (.istore 5, 2) := by decide +kernel
theorem dX11_read_18 : decode cX11_read 18 = .ok (.iload 5, 2) := by decide +kernel
theorem dX11_read_20 : decode cX11_read 20 = .ok (.ifCond .ne 14, 3) := by decide +kernel
theorem dX11_read_23 : decode cX11_read 23 = .ok (.aload_n 0, 1) := by decide +kernel
theorem dX11_read_24 : decode cX11_read 24 = .ok (.iconst 0, 1) := by decide +kernel
theorem dX11_read_25 : decode cX11_read 25 = .ok (.iconst (-1), 1) := by decide +kernel
theorem dX11_read_26 : decode cX11_read 26 = .ok (.iconst (-1), 1) := by decide +kernel
theorem dX11_read_27 : decode cX11_read 27 = .ok (.iconst (-1), 1) := by decide +kernel
theorem dX11_read_28 : decode cX11_read 28 = .ok (.invokevirtual 308, 3) := by decide +kernel
theorem dX11_read_31 : decode cX11_read 31 = .ok (.goto 103, 3) := by decide +kernel
theorem dX11_read_34 : decode cX11_read 34 = .ok (.iload_n 3, 1) := by decide +kernel
theorem dX11_read_35 : decode cX11_read 35 = .ok (.ifCond .lt 24, 3) := by decide +kernel
theorem dX11_read_38 : decode cX11_read 38 = .ok (.iload 5, 2) := by decide +kernel
theorem dX11_read_40 : decode cX11_read 40 = .ok (.aload_n 0, 1) := by decide +kernel
theorem dX11_read_41 : decode cX11_read 41 = .ok (.iload_n 3, 1) := by decide +kernel
theorem dX11_read_42 : decode cX11_read 42 = .ok (.invokevirtual 269, 3) := by decide +kernel
theorem dX11_read_45 : decode cX11_read 45 = .ok (.if_icmp .ne 14, 3) := by decide +kernel
theorem dX11_read_48 : decode cX11_read 48 = .ok (.aload_n 0, 1) := by decide +kernel
theorem dX11_read_49 : decode cX11_read 49 = .ok (.iconst 5, 1) := by decide +kernel
theorem dX11_read_50 : decode cX11_read 50 = .ok (.iconst (-1), 1) := by decide +kernel
theorem dX11_read_51 : decode cX11_read 51 = .ok (.iload_n 3, 1) := by decide +kernel
theorem dX11_read_52 : decode cX11_read 52 = .ok (.iconst (-1), 1) := by decide +kernel
theorem dX11_read_53 : decode cX11_read 53 = .ok (.invokevirtual 308, 3) := by decide +kernel
theorem dX11_read_56 : decode cX11_read 56 = .ok (.goto 78, 3) := by decide +kernel
theorem dX11_read_59 : decode cX11_read 59 = .ok (.iload 4, 2) := by decide +kernel
theorem dX11_read_61 : decode cX11_read 61 = .ok (.ifCond .lt 26, 3) := by decide +kernel
theorem dX11_read_64 : decode cX11_read 64 = .ok (.iload 5, 2) := by decide +kernel
theorem dX11_read_66 : decode cX11_read 66 = .ok (.aload_n 0, 1) := by decide +kernel
theorem dX11_read_67 : decode cX11_read 67 = .ok (.iload 4, 2) := by decide +kernel
theorem dX11_read_69 : decode cX11_read 69 = .ok (.invokevirtual 269, 3) := by decide +kernel
theorem dX11_read_72 : decode cX11_read 72 = .ok (.if_icmp .ne 15, 3) := by decide +kernel
theorem dX11_read_75 : decode cX11_read 75 = .ok (.aload_n 0, 1) := by decide +kernel
theorem dX11_read_76 : decode cX11_read 76 = .ok (.iconst 5, 1) := by decide +kernel
theorem dX11_read_77 : decode cX11_read 77 = .ok (.iconst (-1), 1) := by decide +kernel
theorem dX11_read_78 : decode cX11_read 78 = .ok (.iload 4, 2) := by decide +kernel
theorem dX11_read_80 : decode cX11_read 80 = .ok (.iconst (-1), 1) := by decide +kernel
theorem dX11_read_81 : decode cX11_read 81 = .ok (.invokevirtual 308, 3) := by decide +kernel
theorem dX11_read_84 : decode cX11_read 84 = .ok (.goto 50, 3) := by decide +kernel
theorem dX11_read_87 : decode cX11_read 87 = .ok (.iload_n 3, 1) := by decide +kernel
theorem dX11_read_88 : decode cX11_read 88 = .ok (.ifCond .lt 37, 3) := by decide +kernel
theorem dX11_read_91 : decode cX11_read 91 = .ok (.iload 4, 2) := by decide +kernel
theorem dX11_read_93 : decode cX11_read 93 = .ok (.ifCond .lt 32, 3) := by decide +kernel
theorem dX11_read_96 : decode cX11_read 96 = .ok (.iload 5, 2) := by decide +kernel
theorem dX11_read_98 : decode cX11_read 98 = .ok (.aload_n 0, 1) := by decide +kernel
theorem dX11_read_99 : decode cX11_read 99 = .ok (.iload_n 3, 1) := by decide +kernel
theorem dX11_read_100 : decode cX11_read 100 = .ok (.invokevirtual 269, 3) := by decide +kernel
theorem dX11_read_103 : decode cX11_read 103 = .ok (.aload_n 0, 1) := by decide +kernel
theorem dX11_read_104 : decode cX11_read 104 = .ok (.iload 4, 2) := by decide +kernel
theorem dX11_read_106 : decode cX11_read 106 = .ok (.invokevirtual 269, 3) := by decide +kernel
theorem dX11_read_109 : decode cX11_read 109 = .ok (.ixor, 1) := by decide +kernel
theorem dX11_read_110 : decode cX11_read 110 = .ok (.if_icmp .ne 15, 3) := by decide +kernel
theorem dX11_read_113 : decode cX11_read 113 = .ok (.aload_n 0, 1) := by decide +kernel
theorem dX11_read_114 : decode cX11_read 114 = .ok (.iconst 5, 1) := by decide +kernel
theorem dX11_read_115 : decode cX11_read 115 = .ok (.iconst (-1), 1) := by decide +kernel
theorem dX11_read_116 : decode cX11_read 116 = .ok (.iload_n 3, 1) := by decide +kernel
theorem dX11_read_117 : decode cX11_read 117 = .ok (.iload 4, 2) := by decide +kernel
theorem dX11_read_119 : decode cX11_read 119 = .ok (.invokevirtual 308, 3) := by decide +kernel
theorem dX11_read_122 : decode cX11_read 122 = .ok (.goto 12, 3) := by decide +kernel
theorem dX11_read_125 : decode cX11_read 125 = .ok (.aload_n 0, 1) := by decide +kernel
theorem dX11_read_126 : decode cX11_read 126 = .ok (.iload 5, 2) := by decide +kernel
theorem dX11_read_128 : decode cX11_read 128 = .ok (.iload_n 3, 1) := by decide +kernel
theorem dX11_read_129 : decode cX11_read 129 = .ok (.iload 4, 2) := by decide +kernel
theorem dX11_read_131 : decode cX11_read 131 = .ok (.invokevirtual 311, 3) := by decide +kernel
theorem dX11_read_134 : decode cX11_read 134 = .ok (.return_, 1) := by decide +kernel
def wW_X11_read (G : GG) (h0 h1 h2 h3 y0_3 y0_4 y0_6 y0_18 y0_21 y0_22 y0_23 y0_24 y0_25 y0_26 y0_33 y0_34 y0_38 y0_39 y0_40 y0_41 y0_42 y0_43 y0_45 y0_46 y0_47 y0_48 : Nat) (x0_5 : Int32) (x0_7 : Int32) (x0_8 : Int32) (x0_9 : Int32) (x0_10 : Int32) (x0_11 : Int32) (x0_12 : Int32) (x0_13 : Int32) (x0_14 : Int32) (x0_15 : Int32) (x0_16 : Int32) (x0_17 : Int32) (x0_19 : Int32) (x0_20 : Int32) (x0_27 : Int32) (x0_28 : Int32) (x0_29 : Int32) (x0_30 : Int32) (x0_31 : Int32) (x0_32 : Int32) (x0_35 : Int32) (x0_36 : Int32) (x0_37 : Int32) (x0_44 : Int32) (x0_49 : Int32) (x0_50 : Int32) (a1 : Nat → Int32) (a2 : Nat → Int32) (a3 : Nat → Int32) : va_W := [(h0, .inr (11, [.ref h1, .ref h2, .ref h3, .ref y0_3, .ref y0_4, .int x0_5, .ref y0_6, .int x0_7, .int x0_8, .int x0_9, .int x0_10, .int x0_11, .int x0_12, .int x0_13, .int x0_14, .int x0_15, .int x0_16, .int x0_17, .ref y0_18, .int x0_19, .int x0_20, .ref y0_21, .ref y0_22, .ref y0_23, .ref y0_24, .ref y0_25, .ref y0_26, .int x0_27, .int x0_28, .int x0_29, .int x0_30, .int x0_31, .int x0_32, .ref y0_33, .ref y0_34, .int x0_35, .int x0_36, .int x0_37, .ref y0_38, .ref y0_39, .ref y0_40, .ref y0_41, .ref y0_42, .ref y0_43, .int x0_44, .ref y0_45, .ref y0_46, .ref y0_47, .ref y0_48, .int x0_49, .int x0_50])), (h1, .inl (G.2.1, 121, .inl a1)), (h2, .inl (G.2.1, 2, .inl a2)), (h3, .inl (G.2.1, 2, .inl a3))]
set_option maxHeartbeats 4000000 in
set_option maxRecDepth 100000 in
theorem c_X11_read (l : Launch) (G : GG) (h0 h1 h2 h3 y0_3 y0_4 y0_6 y0_18 y0_21 y0_22 y0_23 y0_24 y0_25 y0_26 y0_33 y0_34 y0_38 y0_39 y0_40 y0_41 y0_42 y0_43 y0_45 y0_46 y0_47 y0_48 : Nat) (sz : Nat) (x0_5 : Int32) (x0_7 : Int32) (x0_8 : Int32) (x0_9 : Int32) (x0_10 : Int32) (x0_11 : Int32) (x0_12 : Int32) (x0_13 : Int32) (x0_14 : Int32) (x0_15 : Int32) (x0_16 : Int32) (x0_17 : Int32) (x0_19 : Int32) (x0_20 : Int32) (x0_27 : Int32) (x0_28 : Int32) (x0_29 : Int32) (x0_30 : Int32) (x0_31 : Int32) (x0_32 : Int32) (x0_35 : Int32) (x0_36 : Int32) (x0_37 : Int32) (x0_44 : Int32) (x0_49 : Int32) (x0_50 : Int32) (a1 : Nat → Int32) (a2 : Nat → Int32) (a3 : Nat → Int32) (F : Nat) (b1 : Int32) (b2 : Int32) (b3 : Int32) (b4 : Int32)  (e_x0_29 : Int32) (e_x0_30 : Int32) (e_x0_31 : Int32) (e_x0_32 : Int32) (hf : p_X11_read F x0_5 x0_29 x0_30 x0_31 x0_32 a1 a2 a3 b1 b2 b3 b4 = some (e_x0_29, e_x0_30, e_x0_31, e_x0_32)) : Met l yX11_read (.code yX11_read cX11_read 6 none :: gtbl) ({ frames := 5, cells := 0, slots := 0, locals := 115 } : Room) (PcS G [.ref h0, .int b1, .int b2, .int b3, .int b4] (wW_X11_read G h0 h1 h2 h3 y0_3 y0_4 y0_6 y0_18 y0_21 y0_22 y0_23 y0_24 y0_25 y0_26 y0_33 y0_34 y0_38 y0_39 y0_40 y0_41 y0_42 y0_43 y0_45 y0_46 y0_47 y0_48 x0_5 x0_7 x0_8 x0_9 x0_10 x0_11 x0_12 x0_13 x0_14 x0_15 x0_16 x0_17 x0_19 x0_20 x0_27 x0_28 x0_29 x0_30 x0_31 x0_32 x0_35 x0_36 x0_37 x0_44 x0_49 x0_50 a1 a2 a3) sz) (QvS G (va_A (wW_X11_read G h0 h1 h2 h3 y0_3 y0_4 y0_6 y0_18 y0_21 y0_22 y0_23 y0_24 y0_25 y0_26 y0_33 y0_34 y0_38 y0_39 y0_40 y0_41 y0_42 y0_43 y0_45 y0_46 y0_47 y0_48 x0_5 x0_7 x0_8 x0_9 x0_10 x0_11 x0_12 x0_13 x0_14 x0_15 x0_16 x0_17 x0_19 x0_20 x0_27 x0_28 x0_29 x0_30 x0_31 x0_32 x0_35 x0_36 x0_37 x0_44 x0_49 x0_50 a1 a2 a3) sz) (wW_X11_read G h0 h1 h2 h3 y0_3 y0_4 y0_6 y0_18 y0_21 y0_22 y0_23 y0_24 y0_25 y0_26 y0_33 y0_34 y0_38 y0_39 y0_40 y0_41 y0_42 y0_43 y0_45 y0_46 y0_47 y0_48 x0_5 x0_7 x0_8 x0_9 x0_10 x0_11 x0_12 x0_13 x0_14 x0_15 x0_16 x0_17 x0_19 x0_20 x0_27 x0_28 e_x0_29 e_x0_30 e_x0_31 e_x0_32 x0_35 x0_36 x0_37 x0_44 x0_49 x0_50 a1 a2 a3)) 0 0 (va_A (wW_X11_read G h0 h1 h2 h3 y0_3 y0_4 y0_6 y0_18 y0_21 y0_22 y0_23 y0_24 y0_25 y0_26 y0_33 y0_34 y0_38 y0_39 y0_40 y0_41 y0_42 y0_43 y0_45 y0_46 y0_47 y0_48 x0_5 x0_7 x0_8 x0_9 x0_10 x0_11 x0_12 x0_13 x0_14 x0_15 x0_16 x0_17 x0_19 x0_20 x0_27 x0_28 x0_29 x0_30 x0_31 x0_32 x0_35 x0_36 x0_37 x0_44 x0_49 x0_50 a1 a2 a3) sz) := by
  refine met_start (by decide) (Nat.le_of_ble_eq_true rfl) ?_
  intro p e s m below meth c hC hr hlk hnm hK hP hD hA hS hX ls hl
  obtain ⟨hx, hb, hml, hown, ht0⟩ := hC
  have hown : s.vm.findClass RX11 = some m.cls := hown
  generalize va_A (wW_X11_read G h0 h1 h2 h3 y0_3 y0_4 y0_6 y0_18 y0_21 y0_22 y0_23 y0_24 y0_25 y0_26 y0_33 y0_34 y0_38 y0_39 y0_40 y0_41 y0_42 y0_43 y0_45 y0_46 y0_47 y0_48 x0_5 x0_7 x0_8 x0_9 x0_10 x0_11 x0_12 x0_13 x0_14 x0_15 x0_16 x0_17 x0_19 x0_20 x0_27 x0_28 x0_29 x0_30 x0_31 x0_32 x0_35 x0_36 x0_37 x0_44 x0_49 x0_50 a1 a2 a3) sz = A at hD hA hS hX ⊢
  have hl : lv_has ls 6 [(0, .ref h0), (1, .int b1), (2, .int b2), (3, .int b3), (4, .int b4)] := hl
  have hf : p_X11_read F x0_5 x0_29 x0_30 x0_31 x0_32 a1 a2 a3 b1 b2 b3 b4 = some (e_x0_29, e_x0_30, e_x0_31, e_x0_32) := hf
  have kJ125 : ∀ (u125_3 : Int32) (u125_4 : Int32) (u125_5 : Int32) (x0_29_125 : Int32) (x0_30_125 : Int32) (x0_31_125 : Int32) (x0_32_125 : Int32), p_X11_read_J125 F x0_5 a1 a2 a3 u125_3 u125_4 u125_5 x0_29_125 x0_30_125 x0_31_125 x0_32_125 = some (e_x0_29, e_x0_30, e_x0_31, e_x0_32) → ∀ (H : Heap) (locs : List Loc), va_P G.1 vwCl (wW_X11_read G h0 h1 h2 h3 y0_3 y0_4 y0_6 y0_18 y0_21 y0_22 y0_23 y0_24 y0_25 y0_26 y0_33 y0_34 y0_38 y0_39 y0_40 y0_41 y0_42 y0_43 y0_45 y0_46 y0_47 y0_48 x0_5 x0_7 x0_8 x0_9 x0_10 x0_11 x0_12 x0_13 x0_14 x0_15 x0_16 x0_17 x0_19 x0_20 x0_27 x0_28 x0_29_125 x0_30_125 x0_31_125 x0_32_125 x0_35 x0_36 x0_37 x0_44 x0_49 x0_50 a1 a2 a3) H → va_D A (wW_X11_read G h0 h1 h2 h3 y0_3 y0_4 y0_6 y0_18 y0_21 y0_22 y0_23 y0_24 y0_25 y0_26 y0_33 y0_34 y0_38 y0_39 y0_40 y0_41 y0_42 y0_43 y0_45 y0_46 y0_47 y0_48 x0_5 x0_7 x0_8 x0_9 x0_10 x0_11 x0_12 x0_13 x0_14 x0_15 x0_16 x0_17 x0_19 x0_20 x0_27 x0_28 x0_29_125 x0_30_125 x0_31_125 x0_32_125 x0_35 x0_36 x0_37 x0_44 x0_49 x0_50 a1 a2 a3) → va_S A s.heap H locs → ∀ ls : Array Slot, lv_has ls 6 [(0, .ref h0), (3, .int u125_3), (4, .int u125_4), (5, .int u125_5)] → W p l e ({ frames := 5, cells := 0, slots := 0, locals := 115 } : Room) s m (List.toArray [.ref h0, .int b1, .int b2, .int b3, .int b4]) below meth c H locs 0 0 (MQ below (QvS G A (wW_X11_read G h0 h1 h2 h3 y0_3 y0_4 y0_6 y0_18 y0_21 y0_22 y0_23 y0_24 y0_25 y0_26 y0_33 y0_34 y0_38 y0_39 y0_40 y0_41 y0_42 y0_43 y0_45 y0_46 y0_47 y0_48 x0_5 x0_7 x0_8 x0_9 x0_10 x0_11 x0_12 x0_13 x0_14 x0_15 x0_16 x0_17 x0_19 x0_20 x0_27 x0_28 e_x0_29 e_x0_30 e_x0_31 e_x0_32 x0_35 x0_36 x0_37 x0_44 x0_49 x0_50 a1 a2 a3)) (List.toArray [.ref h0, .int b1, .int b2, .int b3, .int b4]) s 0 0 A) (F0 m 125 ls []) := by
    intro u125_3 u125_4 u125_5 x0_29_125 x0_30_125 x0_31_125 x0_32_125 hf H locs hP hD hS ls hl
    refine lv_aload_n hx hb dX11_read_125 rfl (lv_at hl 0 rfl) ?_
    refine lv_iload hx hb dX11_read_126 (lv_at hl 3 rfl) ?_
    refine lv_iload_n hx hb dX11_read_128 rfl (lv_at hl 1 rfl) ?_
    refine lv_iload hx hb dX11_read_129 (lv_at hl 2 rfl) ?_
    obtain ⟨⟨r_131_0_x0_29, r_131_0_x0_30, r_131_0_x0_31, r_131_0_x0_32⟩, hc_r_131_0, hf⟩ := of_bnd hf
    refine cl_Vv (w2 := (wW_X11_read G h0 h1 h2 h3 y0_3 y0_4 y0_6 y0_18 y0_21 y0_22 y0_23 y0_24 y0_25 y0_26 y0_33 y0_34 y0_38 y0_39 y0_40 y0_41 y0_42 y0_43 y0_45 y0_46 y0_47 y0_48 x0_5 x0_7 x0_8 x0_9 x0_10 x0_11 x0_12 x0_13 x0_14 x0_15 x0_16 x0_17 x0_19 x0_20 x0_27 x0_28 r_131_0_x0_29 r_131_0_x0_30 r_131_0_x0_31 r_131_0_x0_32 x0_35 x0_36 x0_37 x0_44 x0_49 x0_50 a1 a2 a3)) (As := [.int u125_5, .int u125_3, .int u125_4]) (rest := []) ⟨hx, hb, hml, hown, ht0⟩ (c_X11_readFurther l G h0 h1 h2 h3 y0_3 y0_4 y0_6 y0_18 y0_21 y0_22 y0_23 y0_24 y0_25 y0_26 y0_33 y0_34 y0_38 y0_39 y0_40 y0_41 y0_42 y0_43 y0_45 y0_46 y0_47 y0_48 _ x0_5 x0_7 x0_8 x0_9 x0_10 x0_11 x0_12 x0_13 x0_14 x0_15 x0_16 x0_17 x0_19 x0_20 x0_27 x0_28 x0_29_125 x0_30_125 x0_31_125 x0_32_125 x0_35 x0_36 x0_37 x0_44 x0_49 x0_50 a1 a2 a3 F u125_5 u125_3 u125_4 _ _ _ _ hc_r_131_0) yk_X11_readFurther wd_1647 ⟨rfl, rfl, by decide, by decide⟩ ⟨Nat.le_refl _, Nat.le_refl _⟩ hX hK hP hD hS hA [0, 1, 2, 3] [] [0, 1, 2, 3] (va_recv hK hP (ci := 11) (q0 := 0) rfl rfl) rfl rfl (by decide) rfl rfl rfl rfl rfl hl.1 rfl (Nat.le_of_ble_eq_true rfl) dX11_read_131 (fun H locs hP hD hS => ?_)
    cases hf
    exact ret_v hx hb hr hlk hK hP hD hS dX11_read_134
  have kJ87 : ∀ (u87_3 : Int32) (u87_4 : Int32) (u87_5 : Int32) (x0_29_87 : Int32) (x0_30_87 : Int32) (x0_31_87 : Int32) (x0_32_87 : Int32), p_X11_read_J87 F x0_5 a1 a2 a3 u87_3 u87_4 u87_5 x0_29_87 x0_30_87 x0_31_87 x0_32_87 = some (e_x0_29, e_x0_30, e_x0_31, e_x0_32) → ∀ (H : Heap) (locs : List Loc), va_P G.1 vwCl (wW_X11_read G h0 h1 h2 h3 y0_3 y0_4 y0_6 y0_18 y0_21 y0_22 y0_23 y0_24 y0_25 y0_26 y0_33 y0_34 y0_38 y0_39 y0_40 y0_41 y0_42 y0_43 y0_45 y0_46 y0_47 y0_48 x0_5 x0_7 x0_8 x0_9 x0_10 x0_11 x0_12 x0_13 x0_14 x0_15 x0_16 x0_17 x0_19 x0_20 x0_27 x0_28 x0_29_87 x0_30_87 x0_31_87 x0_32_87 x0_35 x0_36 x0_37 x0_44 x0_49 x0_50 a1 a2 a3) H → va_D A (wW_X11_read G h0 h1 h2 h3 y0_3 y0_4 y0_6 y0_18 y0_21 y0_22 y0_23 y0_24 y0_25 y0_26 y0_33 y0_34 y0_38 y0_39 y0_40 y0_41 y0_42 y0_43 y0_45 y0_46 y0_47 y0_48 x0_5 x0_7 x0_8 x0_9 x0_10 x0_11 x0_12 x0_13 x0_14 x0_15 x0_16 x0_17 x0_19 x0_20 x0_27 x0_28 x0_29_87 x0_30_87 x0_31_87 x0_32_87 x0_35 x0_36 x0_37 x0_44 x0_49 x0_50 a1 a2 a3) → va_S A s.heap H locs → ∀ ls : Array Slot, lv_has ls 6 [(0, .ref h0), (3, .int u87_3), (4, .int u87_4), (5, .int u87_5)] → W p l e ({ frames := 5, cells := 0, slots := 0, locals := 115 } : Room) s m (List.toArray [.ref h0, .int b1, .int b2, .int b3, .int b4]) below meth c H locs 0 0 (MQ below (QvS G A (wW_X11_read G h0 h1 h2 h3 y0_3 y0_4 y0_6 y0_18 y0_21 y0_22 y0_23 y0_24 y0_25 y0_26 y0_33 y0_34 y0_38 y0_39 y0_40 y0_41 y0_42 y0_43 y0_45 y0_46 y0_47 y0_48 x0_5 x0_7 x0_8 x0_9 x0_10 x0_11 x0_12 x0_13 x0_14 x0_15 x0_16 x0_17 x0_19 x0_20 x0_27 x0_28 e_x0_29 e_x0_30 e_x0_31 e_x0_32 x0_35 x0_36 x0_37 x0_44 x0_49 x0_50 a1 a2 a3)) (List.toArray [.ref h0, .int b1, .int b2, .int b3, .int b4]) s 0 0 A) (F0 m 87 ls []) := by
    intro u87_3 u87_4 u87_5 x0_29_87 x0_30_87 x0_31_87 x0_32_87 hf H locs hP hD hS ls hl
    refine lv_iload_n hx hb dX11_read_87 rfl (lv_at hl 1 rfl) ?_
    refine lv_if_lt (tgt := 125) hx hb dX11_read_88 (by decide) (fun c2 => ?_) (fun c2 => ?_)
    · have hf := of_pos hf c2
      exact kJ125 _ _ _ _ _ _ _ hf _ _ hP hD hS _ (lv_sub hl [0, 1, 2, 3] rfl)
    · have hf := of_neg hf c2
      refine lv_iload hx hb dX11_read_91 (lv_at hl 2 rfl) ?_
      refine lv_if_lt (tgt := 125) hx hb dX11_read_93 (by decide) (fun c3 => ?_) (fun c3 => ?_)
      · have hf := of_pos hf c3
        exact kJ125 _ _ _ _ _ _ _ hf _ _ hP hD hS _ (lv_sub hl [0, 1, 2, 3] rfl)
      · have hf := of_neg hf c3
        refine lv_iload hx hb dX11_read_96 (lv_at hl 3 rfl) ?_
        refine lv_aload_n hx hb dX11_read_98 rfl (lv_at hl 0 rfl) ?_
        refine lv_iload_n hx hb dX11_read_99 rfl (lv_at hl 1 rfl) ?_
        obtain ⟨r_100_3, hc_r_100_3, hf⟩ := of_bnd hf
        refine cl_Vi (w2 := (wW_X11_read G h0 h1 h2 h3 y0_3 y0_4 y0_6 y0_18 y0_21 y0_22 y0_23 y0_24 y0_25 y0_26 y0_33 y0_34 y0_38 y0_39 y0_40 y0_41 y0_42 y0_43 y0_45 y0_46 y0_47 y0_48 x0_5 x0_7 x0_8 x0_9 x0_10 x0_11 x0_12 x0_13 x0_14 x0_15 x0_16 x0_17 x0_19 x0_20 x0_27 x0_28 x0_29_87 x0_30_87 x0_31_87 x0_32_87 x0_35 x0_36 x0_37 x0_44 x0_49 x0_50 a1 a2 a3)) (As := [.int u87_3]) (rest := [.int u87_5]) ⟨hx, hb, hml, hown, ht0⟩ (c_X11_columnAt l G h0 h1 h2 h3 y0_3 y0_4 y0_6 y0_18 y0_21 y0_22 y0_23 y0_24 y0_25 y0_26 y0_33 y0_34 y0_38 y0_39 y0_40 y0_41 y0_42 y0_43 y0_45 y0_46 y0_47 y0_48 _ x0_5 x0_7 x0_8 x0_9 x0_10 x0_11 x0_12 x0_13 x0_14 x0_15 x0_16 x0_17 x0_19 x0_20 x0_27 x0_28 x0_29_87 x0_30_87 x0_31_87 x0_32_87 x0_35 x0_36 x0_37 x0_44 x0_49 x0_50 a1 F u87_3 _ hc_r_100_3) yk_X11_columnAt wd_1402 ⟨rfl, rfl, by decide, by decide⟩ ⟨Nat.le_refl _, Nat.le_refl _⟩ hX hK hP hD hS hA [0, 1] [2, 3] [2, 3, 0, 1] (va_recv hK hP (ci := 11) (q0 := 0) rfl rfl) rfl rfl (by decide) rfl rfl rfl rfl rfl hl.1 rfl (Nat.le_of_ble_eq_true rfl) dX11_read_100 (fun H locs hP hD hS => ?_)
        refine lv_aload_n hx hb dX11_read_103 rfl (lv_at hl 0 rfl) ?_
        refine lv_iload hx hb dX11_read_104 (lv_at hl 2 rfl) ?_
        obtain ⟨r_106_4, hc_r_106_4, hf⟩ := of_bnd hf
        refine cl_Vi (w2 := (wW_X11_read G h0 h1 h2 h3 y0_3 y0_4 y0_6 y0_18 y0_21 y0_22 y0_23 y0_24 y0_25 y0_26 y0_33 y0_34 y0_38 y0_39 y0_40 y0_41 y0_42 y0_43 y0_45 y0_46 y0_47 y0_48 x0_5 x0_7 x0_8 x0_9 x0_10 x0_11 x0_12 x0_13 x0_14 x0_15 x0_16 x0_17 x0_19 x0_20 x0_27 x0_28 x0_29_87 x0_30_87 x0_31_87 x0_32_87 x0_35 x0_36 x0_37 x0_44 x0_49 x0_50 a1 a2 a3)) (As := [.int u87_4]) (rest := [.int r_100_3, .int u87_5]) ⟨hx, hb, hml, hown, ht0⟩ (c_X11_columnAt l G h0 h1 h2 h3 y0_3 y0_4 y0_6 y0_18 y0_21 y0_22 y0_23 y0_24 y0_25 y0_26 y0_33 y0_34 y0_38 y0_39 y0_40 y0_41 y0_42 y0_43 y0_45 y0_46 y0_47 y0_48 _ x0_5 x0_7 x0_8 x0_9 x0_10 x0_11 x0_12 x0_13 x0_14 x0_15 x0_16 x0_17 x0_19 x0_20 x0_27 x0_28 x0_29_87 x0_30_87 x0_31_87 x0_32_87 x0_35 x0_36 x0_37 x0_44 x0_49 x0_50 a1 F u87_4 _ hc_r_106_4) yk_X11_columnAt wd_1402 ⟨rfl, rfl, by decide, by decide⟩ ⟨Nat.le_refl _, Nat.le_refl _⟩ hX hK hP hD hS hA [0, 1] [2, 3] [2, 3, 0, 1] (va_recv hK hP (ci := 11) (q0 := 0) rfl rfl) rfl rfl (by decide) rfl rfl rfl rfl rfl hl.1 rfl (Nat.le_of_ble_eq_true rfl) dX11_read_106 (fun H locs hP hD hS => ?_)
        refine lv_ixor hx hb dX11_read_109 ?_
        refine lv_icmp_ne (tgt := 125) hx hb dX11_read_110 (by decide) (fun c6 => ?_) (fun c6 => ?_)
        · have hf := of_neg hf c6
          exact kJ125 _ _ _ _ _ _ _ hf _ _ hP hD hS _ (lv_sub hl [0, 1, 2, 3] rfl)
        · have hf := of_pos hf c6
          refine lv_aload_n hx hb dX11_read_113 rfl (lv_at hl 0 rfl) ?_
          refine lv_iconst (v := (5 : Int32)) hx hb dX11_read_114 (by decide) ?_
          refine lv_iconst (v := (-1 : Int32)) hx hb dX11_read_115 (by decide) ?_
          refine lv_iload_n hx hb dX11_read_116 rfl (lv_at hl 1 rfl) ?_
          refine lv_iload hx hb dX11_read_117 (lv_at hl 2 rfl) ?_
          obtain ⟨⟨r_119_6_x0_29, r_119_6_x0_30, r_119_6_x0_31, r_119_6_x0_32⟩, hc_r_119_6, hf⟩ := of_bnd hf
          refine cl_Vv (w2 := (wW_X11_read G h0 h1 h2 h3 y0_3 y0_4 y0_6 y0_18 y0_21 y0_22 y0_23 y0_24 y0_25 y0_26 y0_33 y0_34 y0_38 y0_39 y0_40 y0_41 y0_42 y0_43 y0_45 y0_46 y0_47 y0_48 x0_5 x0_7 x0_8 x0_9 x0_10 x0_11 x0_12 x0_13 x0_14 x0_15 x0_16 x0_17 x0_19 x0_20 x0_27 x0_28 r_119_6_x0_29 r_119_6_x0_30 r_119_6_x0_31 r_119_6_x0_32 x0_35 x0_36 x0_37 x0_44 x0_49 x0_50 a1 a2 a3)) (As := [.int (5 : Int32), .int (-1 : Int32), .int u87_3, .int u87_4]) (rest := []) ⟨hx, hb, hml, hown, ht0⟩ (c_X11_told l G h0 h2 h1 h3 y0_3 y0_4 y0_6 y0_18 y0_21 y0_22 y0_23 y0_24 y0_25 y0_26 y0_33 y0_34 y0_38 y0_39 y0_40 y0_41 y0_42 y0_43 y0_45 y0_46 y0_47 y0_48 _ x0_5 x0_7 x0_8 x0_9 x0_10 x0_11 x0_12 x0_13 x0_14 x0_15 x0_16 x0_17 x0_19 x0_20 x0_27 x0_28 x0_29_87 x0_30_87 x0_31_87 x0_32_87 x0_35 x0_36 x0_37 x0_44 x0_49 x0_50 a2 F (5 : Int32) (-1 : Int32) u87_3 u87_4 _ _ _ _ hc_r_119_6) yk_X11_told wd_1639 ⟨rfl, rfl, by decide, by decide⟩ ⟨Nat.le_refl _, Nat.le_refl _⟩ hX hK hP hD hS hA [0, 2] [1, 3] [2, 0, 3, 1] (va_recv hK hP (ci := 11) (q0 := 0) rfl rfl) rfl rfl (by decide) rfl rfl rfl rfl rfl hl.1 rfl (Nat.le_of_ble_eq_true rfl) dX11_read_119 (fun H locs hP hD hS => ?_)
          refine lv_goto (tgt := 134) hx hb dX11_read_122 (by decide) ?_
          cases hf
          exact ret_v hx hb hr hlk hK hP hD hS dX11_read_134
  have kJ59 : ∀ (u59_3 : Int32) (u59_4 : Int32) (u59_5 : Int32) (x0_29_59 : Int32) (x0_30_59 : Int32) (x0_31_59 : Int32) (x0_32_59 : Int32), p_X11_read_J59 F x0_5 a1 a2 a3 u59_3 u59_4 u59_5 x0_29_59 x0_30_59 x0_31_59 x0_32_59 = some (e_x0_29, e_x0_30, e_x0_31, e_x0_32) → ∀ (H : Heap) (locs : List Loc), va_P G.1 vwCl (wW_X11_read G h0 h1 h2 h3 y0_3 y0_4 y0_6 y0_18 y0_21 y0_22 y0_23 y0_24 y0_25 y0_26 y0_33 y0_34 y0_38 y0_39 y0_40 y0_41 y0_42 y0_43 y0_45 y0_46 y0_47 y0_48 x0_5 x0_7 x0_8 x0_9 x0_10 x0_11 x0_12 x0_13 x0_14 x0_15 x0_16 x0_17 x0_19 x0_20 x0_27 x0_28 x0_29_59 x0_30_59 x0_31_59 x0_32_59 x0_35 x0_36 x0_37 x0_44 x0_49 x0_50 a1 a2 a3) H → va_D A (wW_X11_read G h0 h1 h2 h3 y0_3 y0_4 y0_6 y0_18 y0_21 y0_22 y0_23 y0_24 y0_25 y0_26 y0_33 y0_34 y0_38 y0_39 y0_40 y0_41 y0_42 y0_43 y0_45 y0_46 y0_47 y0_48 x0_5 x0_7 x0_8 x0_9 x0_10 x0_11 x0_12 x0_13 x0_14 x0_15 x0_16 x0_17 x0_19 x0_20 x0_27 x0_28 x0_29_59 x0_30_59 x0_31_59 x0_32_59 x0_35 x0_36 x0_37 x0_44 x0_49 x0_50 a1 a2 a3) → va_S A s.heap H locs → ∀ ls : Array Slot, lv_has ls 6 [(0, .ref h0), (3, .int u59_3), (4, .int u59_4), (5, .int u59_5)] → W p l e ({ frames := 5, cells := 0, slots := 0, locals := 115 } : Room) s m (List.toArray [.ref h0, .int b1, .int b2, .int b3, .int b4]) below meth c H locs 0 0 (MQ below (QvS G A (wW_X11_read G h0 h1 h2 h3 y0_3 y0_4 y0_6 y0_18 y0_21 y0_22 y0_23 y0_24 y0_25 y0_26 y0_33 y0_34 y0_38 y0_39 y0_40 y0_41 y0_42 y0_43 y0_45 y0_46 y0_47 y0_48 x0_5 x0_7 x0_8 x0_9 x0_10 x0_11 x0_12 x0_13 x0_14 x0_15 x0_16 x0_17 x0_19 x0_20 x0_27 x0_28 e_x0_29 e_x0_30 e_x0_31 e_x0_32 x0_35 x0_36 x0_37 x0_44 x0_49 x0_50 a1 a2 a3)) (List.toArray [.ref h0, .int b1, .int b2, .int b3, .int b4]) s 0 0 A) (F0 m 59 ls []) := by
    intro u59_3 u59_4 u59_5 x0_29_59 x0_30_59 x0_31_59 x0_32_59 hf H locs hP hD hS ls hl
    refine lv_iload hx hb dX11_read_59 (lv_at hl 2 rfl) ?_
    refine lv_if_lt (tgt := 87) hx hb dX11_read_61 (by decide) (fun c8 => ?_) (fun c8 => ?_)
    · have hf := of_pos hf c8
      exact kJ87 _ _ _ _ _ _ _ hf _ _ hP hD hS _ (lv_sub hl [0, 1, 2, 3] rfl)
    · have hf := of_neg hf c8
      refine lv_iload hx hb dX11_read_64 (lv_at hl 3 rfl) ?_
      refine lv_aload_n hx hb dX11_read_66 rfl (lv_at hl 0 rfl) ?_
      refine lv_iload hx hb dX11_read_67 (lv_at hl 2 rfl) ?_
      obtain ⟨r_69_8, hc_r_69_8, hf⟩ := of_bnd hf
      refine cl_Vi (w2 := (wW_X11_read G h0 h1 h2 h3 y0_3 y0_4 y0_6 y0_18 y0_21 y0_22 y0_23 y0_24 y0_25 y0_26 y0_33 y0_34 y0_38 y0_39 y0_40 y0_41 y0_42 y0_43 y0_45 y0_46 y0_47 y0_48 x0_5 x0_7 x0_8 x0_9 x0_10 x0_11 x0_12 x0_13 x0_14 x0_15 x0_16 x0_17 x0_19 x0_20 x0_27 x0_28 x0_29_59 x0_30_59 x0_31_59 x0_32_59 x0_35 x0_36 x0_37 x0_44 x0_49 x0_50 a1 a2 a3)) (As := [.int u59_4]) (rest := [.int u59_5]) ⟨hx, hb, hml, hown, ht0⟩ (c_X11_columnAt l G h0 h1 h2 h3 y0_3 y0_4 y0_6 y0_18 y0_21 y0_22 y0_23 y0_24 y0_25 y0_26 y0_33 y0_34 y0_38 y0_39 y0_40 y0_41 y0_42 y0_43 y0_45 y0_46 y0_47 y0_48 _ x0_5 x0_7 x0_8 x0_9 x0_10 x0_11 x0_12 x0_13 x0_14 x0_15 x0_16 x0_17 x0_19 x0_20 x0_27 x0_28 x0_29_59 x0_30_59 x0_31_59 x0_32_59 x0_35 x0_36 x0_37 x0_44 x0_49 x0_50 a1 F u59_4 _ hc_r_69_8) yk_X11_columnAt wd_1402 ⟨rfl, rfl, by decide, by decide⟩ ⟨Nat.le_refl _, Nat.le_refl _⟩ hX hK hP hD hS hA [0, 1] [2, 3] [2, 3, 0, 1] (va_recv hK hP (ci := 11) (q0 := 0) rfl rfl) rfl rfl (by decide) rfl rfl rfl rfl rfl hl.1 rfl (Nat.le_of_ble_eq_true rfl) dX11_read_69 (fun H locs hP hD hS => ?_)
      refine lv_icmp_ne (tgt := 87) hx hb dX11_read_72 (by decide) (fun c10 => ?_) (fun c10 => ?_)
      · have hf := of_neg hf c10
        exact kJ87 _ _ _ _ _ _ _ hf _ _ hP hD hS _ (lv_sub hl [0, 1, 2, 3] rfl)
      · have hf := of_pos hf c10
        refine lv_aload_n hx hb dX11_read_75 rfl (lv_at hl 0 rfl) ?_
        refine lv_iconst (v := (5 : Int32)) hx hb dX11_read_76 (by decide) ?_
        refine lv_iconst (v := (-1 : Int32)) hx hb dX11_read_77 (by decide) ?_
        refine lv_iload hx hb dX11_read_78 (lv_at hl 2 rfl) ?_
        refine lv_iconst (v := (-1 : Int32)) hx hb dX11_read_80 (by decide) ?_
        obtain ⟨⟨r_81_10_x0_29, r_81_10_x0_30, r_81_10_x0_31, r_81_10_x0_32⟩, hc_r_81_10, hf⟩ := of_bnd hf
        refine cl_Vv (w2 := (wW_X11_read G h0 h1 h2 h3 y0_3 y0_4 y0_6 y0_18 y0_21 y0_22 y0_23 y0_24 y0_25 y0_26 y0_33 y0_34 y0_38 y0_39 y0_40 y0_41 y0_42 y0_43 y0_45 y0_46 y0_47 y0_48 x0_5 x0_7 x0_8 x0_9 x0_10 x0_11 x0_12 x0_13 x0_14 x0_15 x0_16 x0_17 x0_19 x0_20 x0_27 x0_28 r_81_10_x0_29 r_81_10_x0_30 r_81_10_x0_31 r_81_10_x0_32 x0_35 x0_36 x0_37 x0_44 x0_49 x0_50 a1 a2 a3)) (As := [.int (5 : Int32), .int (-1 : Int32), .int u59_4, .int (-1 : Int32)]) (rest := []) ⟨hx, hb, hml, hown, ht0⟩ (c_X11_told l G h0 h2 h1 h3 y0_3 y0_4 y0_6 y0_18 y0_21 y0_22 y0_23 y0_24 y0_25 y0_26 y0_33 y0_34 y0_38 y0_39 y0_40 y0_41 y0_42 y0_43 y0_45 y0_46 y0_47 y0_48 _ x0_5 x0_7 x0_8 x0_9 x0_10 x0_11 x0_12 x0_13 x0_14 x0_15 x0_16 x0_17 x0_19 x0_20 x0_27 x0_28 x0_29_59 x0_30_59 x0_31_59 x0_32_59 x0_35 x0_36 x0_37 x0_44 x0_49 x0_50 a2 F (5 : Int32) (-1 : Int32) u59_4 (-1 : Int32) _ _ _ _ hc_r_81_10) yk_X11_told wd_1639 ⟨rfl, rfl, by decide, by decide⟩ ⟨Nat.le_refl _, Nat.le_refl _⟩ hX hK hP hD hS hA [0, 2] [1, 3] [2, 0, 3, 1] (va_recv hK hP (ci := 11) (q0 := 0) rfl rfl) rfl rfl (by decide) rfl rfl rfl rfl rfl hl.1 rfl (Nat.le_of_ble_eq_true rfl) dX11_read_81 (fun H locs hP hD hS => ?_)
        refine lv_goto (tgt := 134) hx hb dX11_read_84 (by decide) ?_
        cases hf
        exact ret_v hx hb hr hlk hK hP hD hS dX11_read_134
  refine lv_aload_n hx hb dX11_read_0 rfl (lv_at hl 0 rfl) ?_
  refine lv_iload_n hx hb dX11_read_1 rfl (lv_at hl 1 rfl) ?_
  refine va_put (ci := 11) (v := .int b1) (ty := .int) (C := RX11) (T := TX11) (N := 51) hx hb ht0 iX11 tyX11 tyX11_ok nmX11 hown hK hP hD hS 0 rfl rfl 31 (by decide) (ht0 _ wd_1437) (fun _ h9 => h9) rfl rfl rfl rfl (Nat.le_of_ble_eq_true rfl) dX11_read_2 (fun H locs hP hD hS => ?_)
  have hP : va_P G.1 vwCl (wW_X11_read G h0 h1 h2 h3 y0_3 y0_4 y0_6 y0_18 y0_21 y0_22 y0_23 y0_24 y0_25 y0_26 y0_33 y0_34 y0_38 y0_39 y0_40 y0_41 y0_42 y0_43 y0_45 y0_46 y0_47 y0_48 x0_5 x0_7 x0_8 x0_9 x0_10 x0_11 x0_12 x0_13 x0_14 x0_15 x0_16 x0_17 x0_19 x0_20 x0_27 x0_28 x0_29 x0_30 b1 x0_32 x0_35 x0_36 x0_37 x0_44 x0_49 x0_50 a1 a2 a3) H := hP
  have hD : va_D A (wW_X11_read G h0 h1 h2 h3 y0_3 y0_4 y0_6 y0_18 y0_21 y0_22 y0_23 y0_24 y0_25 y0_26 y0_33 y0_34 y0_38 y0_39 y0_40 y0_41 y0_42 y0_43 y0_45 y0_46 y0_47 y0_48 x0_5 x0_7 x0_8 x0_9 x0_10 x0_11 x0_12 x0_13 x0_14 x0_15 x0_16 x0_17 x0_19 x0_20 x0_27 x0_28 x0_29 x0_30 b1 x0_32 x0_35 x0_36 x0_37 x0_44 x0_49 x0_50 a1 a2 a3) := hD
  refine lv_aload_n hx hb dX11_read_5 rfl (lv_at hl 0 rfl) ?_
  refine lv_iload_n hx hb dX11_read_6 rfl (lv_at hl 2 rfl) ?_
  refine va_put (ci := 11) (v := .int b2) (ty := .int) (C := RX11) (T := TX11) (N := 51) hx hb ht0 iX11 tyX11 tyX11_ok nmX11 hown hK hP hD hS 0 rfl rfl 32 (by decide) (ht0 _ wd_1438) (fun _ h9 => h9) rfl rfl rfl rfl (Nat.le_of_ble_eq_true rfl) dX11_read_7 (fun H locs hP hD hS => ?_)
  have hP : va_P G.1 vwCl (wW_X11_read G h0 h1 h2 h3 y0_3 y0_4 y0_6 y0_18 y0_21 y0_22 y0_23 y0_24 y0_25 y0_26 y0_33 y0_34 y0_38 y0_39 y0_40 y0_41 y0_42 y0_43 y0_45 y0_46 y0_47 y0_48 x0_5 x0_7 x0_8 x0_9 x0_10 x0_11 x0_12 x0_13 x0_14 x0_15 x0_16 x0_17 x0_19 x0_20 x0_27 x0_28 x0_29 x0_30 b1 b2 x0_35 x0_36 x0_37 x0_44 x0_49 x0_50 a1 a2 a3) H := hP
  have hD : va_D A (wW_X11_read G h0 h1 h2 h3 y0_3 y0_4 y0_6 y0_18 y0_21 y0_22 y0_23 y0_24 y0_25 y0_26 y0_33 y0_34 y0_38 y0_39 y0_40 y0_41 y0_42 y0_43 y0_45 y0_46 y0_47 y0_48 x0_5 x0_7 x0_8 x0_9 x0_10 x0_11 x0_12 x0_13 x0_14 x0_15 x0_16 x0_17 x0_19 x0_20 x0_27 x0_28 x0_29 x0_30 b1 b2 x0_35 x0_36 x0_37 x0_44 x0_49 x0_50 a1 a2 a3) := hD
  refine lv_aload_n hx hb dX11_read_10 rfl (lv_at hl 0 rfl) ?_
  refine lv_iload_n hx hb dX11_read_11 rfl (lv_at hl 1 rfl) ?_
  refine lv_iload_n hx hb dX11_read_12 rfl (lv_at hl 2 rfl) ?_
  obtain ⟨r_13_11, hc_r_13_11, hf⟩ := of_bnd hf
  refine cl_Vi (w2 := (wW_X11_read G h0 h1 h2 h3 y0_3 y0_4 y0_6 y0_18 y0_21 y0_22 y0_23 y0_24 y0_25 y0_26 y0_33 y0_34 y0_38 y0_39 y0_40 y0_41 y0_42 y0_43 y0_45 y0_46 y0_47 y0_48 x0_5 x0_7 x0_8 x0_9 x0_10 x0_11 x0_12 x0_13 x0_14 x0_15 x0_16 x0_17 x0_19 x0_20 x0_27 x0_28 x0_29 x0_30 b1 b2 x0_35 x0_36 x0_37 x0_44 x0_49 x0_50 a1 a2 a3)) (As := [.int b1, .int b2]) (rest := []) ⟨hx, hb, hml, hown, ht0⟩ (c_X11_syndromeOf l G h0 h1 h2 h3 y0_3 y0_4 y0_6 y0_18 y0_21 y0_22 y0_23 y0_24 y0_25 y0_26 y0_33 y0_34 y0_38 y0_39 y0_40 y0_41 y0_42 y0_43 y0_45 y0_46 y0_47 y0_48 _ x0_5 x0_7 x0_8 x0_9 x0_10 x0_11 x0_12 x0_13 x0_14 x0_15 x0_16 x0_17 x0_19 x0_20 x0_27 x0_28 x0_29 x0_30 b1 b2 x0_35 x0_36 x0_37 x0_44 x0_49 x0_50 a1 a2 F b1 b2 _ hc_r_13_11) yk_X11_syndromeOf wd_1635 ⟨rfl, rfl, by decide, by decide⟩ ⟨Nat.le_refl _, Nat.le_refl _⟩ hX hK hP hD hS hA [0, 1, 2] [3] [1, 2, 3, 0] (va_recv hK hP (ci := 11) (q0 := 0) rfl rfl) rfl rfl (by decide) rfl rfl rfl rfl rfl hl.1 rfl (Nat.le_of_ble_eq_true rfl) dX11_read_13 (fun H locs hP hD hS => ?_)
  refine lv_istore (lv' := [(5, .int r_13_11), (0, .ref h0), (1, .int b1), (2, .int b2), (3, .int b3), (4, .int b4)]) hx hb dX11_read_16 hl (by decide) rfl (fun ls hl => ?_)
  refine lv_iload hx hb dX11_read_18 (lv_at hl 0 rfl) ?_
  refine lv_if_ne (tgt := 34) hx hb dX11_read_20 (by decide) (fun c13 => ?_) (fun c13 => ?_)
  · have hf := of_neg hf c13
    refine lv_iload_n hx hb dX11_read_34 rfl (lv_at hl 4 rfl) ?_
    refine lv_if_lt (tgt := 59) hx hb dX11_read_35 (by decide) (fun c14 => ?_) (fun c14 => ?_)
    · have hf := of_pos hf c14
      exact kJ59 _ _ _ _ _ _ _ hf _ _ hP hD hS _ (lv_sub hl [1, 4, 5, 0] rfl)
    · have hf := of_neg hf c14
      refine lv_iload hx hb dX11_read_38 (lv_at hl 0 rfl) ?_
      refine lv_aload_n hx hb dX11_read_40 rfl (lv_at hl 1 rfl) ?_
      refine lv_iload_n hx hb dX11_read_41 rfl (lv_at hl 4 rfl) ?_
      obtain ⟨r_42_14, hc_r_42_14, hf⟩ := of_bnd hf
      refine cl_Vi (w2 := (wW_X11_read G h0 h1 h2 h3 y0_3 y0_4 y0_6 y0_18 y0_21 y0_22 y0_23 y0_24 y0_25 y0_26 y0_33 y0_34 y0_38 y0_39 y0_40 y0_41 y0_42 y0_43 y0_45 y0_46 y0_47 y0_48 x0_5 x0_7 x0_8 x0_9 x0_10 x0_11 x0_12 x0_13 x0_14 x0_15 x0_16 x0_17 x0_19 x0_20 x0_27 x0_28 x0_29 x0_30 b1 b2 x0_35 x0_36 x0_37 x0_44 x0_49 x0_50 a1 a2 a3)) (As := [.int b3]) (rest := [.int r_13_11]) ⟨hx, hb, hml, hown, ht0⟩ (c_X11_columnAt l G h0 h1 h2 h3 y0_3 y0_4 y0_6 y0_18 y0_21 y0_22 y0_23 y0_24 y0_25 y0_26 y0_33 y0_34 y0_38 y0_39 y0_40 y0_41 y0_42 y0_43 y0_45 y0_46 y0_47 y0_48 _ x0_5 x0_7 x0_8 x0_9 x0_10 x0_11 x0_12 x0_13 x0_14 x0_15 x0_16 x0_17 x0_19 x0_20 x0_27 x0_28 x0_29 x0_30 b1 b2 x0_35 x0_36 x0_37 x0_44 x0_49 x0_50 a1 F b3 _ hc_r_42_14) yk_X11_columnAt wd_1402 ⟨rfl, rfl, by decide, by decide⟩ ⟨Nat.le_refl _, Nat.le_refl _⟩ hX hK hP hD hS hA [0, 1] [2, 3] [2, 3, 0, 1] (va_recv hK hP (ci := 11) (q0 := 0) rfl rfl) rfl rfl (by decide) rfl rfl rfl rfl rfl hl.1 rfl (Nat.le_of_ble_eq_true rfl) dX11_read_42 (fun H locs hP hD hS => ?_)
      refine lv_icmp_ne (tgt := 59) hx hb dX11_read_45 (by decide) (fun c16 => ?_) (fun c16 => ?_)
      · have hf := of_neg hf c16
        exact kJ59 _ _ _ _ _ _ _ hf _ _ hP hD hS _ (lv_sub hl [1, 4, 5, 0] rfl)
      · have hf := of_pos hf c16
        refine lv_aload_n hx hb dX11_read_48 rfl (lv_at hl 1 rfl) ?_
        refine lv_iconst (v := (5 : Int32)) hx hb dX11_read_49 (by decide) ?_
        refine lv_iconst (v := (-1 : Int32)) hx hb dX11_read_50 (by decide) ?_
        refine lv_iload_n hx hb dX11_read_51 rfl (lv_at hl 4 rfl) ?_
        refine lv_iconst (v := (-1 : Int32)) hx hb dX11_read_52 (by decide) ?_
        obtain ⟨⟨r_53_16_x0_29, r_53_16_x0_30, r_53_16_x0_31, r_53_16_x0_32⟩, hc_r_53_16, hf⟩ := of_bnd hf
        refine cl_Vv (w2 := (wW_X11_read G h0 h1 h2 h3 y0_3 y0_4 y0_6 y0_18 y0_21 y0_22 y0_23 y0_24 y0_25 y0_26 y0_33 y0_34 y0_38 y0_39 y0_40 y0_41 y0_42 y0_43 y0_45 y0_46 y0_47 y0_48 x0_5 x0_7 x0_8 x0_9 x0_10 x0_11 x0_12 x0_13 x0_14 x0_15 x0_16 x0_17 x0_19 x0_20 x0_27 x0_28 r_53_16_x0_29 r_53_16_x0_30 r_53_16_x0_31 r_53_16_x0_32 x0_35 x0_36 x0_37 x0_44 x0_49 x0_50 a1 a2 a3)) (As := [.int (5 : Int32), .int (-1 : Int32), .int b3, .int (-1 : Int32)]) (rest := []) ⟨hx, hb, hml, hown, ht0⟩ (c_X11_told l G h0 h2 h1 h3 y0_3 y0_4 y0_6 y0_18 y0_21 y0_22 y0_23 y0_24 y0_25 y0_26 y0_33 y0_34 y0_38 y0_39 y0_40 y0_41 y0_42 y0_43 y0_45 y0_46 y0_47 y0_48 _ x0_5 x0_7 x0_8 x0_9 x0_10 x0_11 x0_12 x0_13 x0_14 x0_15 x0_16 x0_17 x0_19 x0_20 x0_27 x0_28 x0_29 x0_30 b1 b2 x0_35 x0_36 x0_37 x0_44 x0_49 x0_50 a2 F (5 : Int32) (-1 : Int32) b3 (-1 : Int32) _ _ _ _ hc_r_53_16) yk_X11_told wd_1639 ⟨rfl, rfl, by decide, by decide⟩ ⟨Nat.le_refl _, Nat.le_refl _⟩ hX hK hP hD hS hA [0, 2] [1, 3] [2, 0, 3, 1] (va_recv hK hP (ci := 11) (q0 := 0) rfl rfl) rfl rfl (by decide) rfl rfl rfl rfl rfl hl.1 rfl (Nat.le_of_ble_eq_true rfl) dX11_read_53 (fun H locs hP hD hS => ?_)
        refine lv_goto (tgt := 134) hx hb dX11_read_56 (by decide) ?_
        cases hf
        exact ret_v hx hb hr hlk hK hP hD hS dX11_read_134
  · have hf := of_pos hf c13
    refine lv_aload_n hx hb dX11_read_23 rfl (lv_at hl 1 rfl) ?_
    refine lv_iconst (v := (0 : Int32)) hx hb dX11_read_24 (by decide) ?_
    refine lv_iconst (v := (-1 : Int32)) hx hb dX11_read_25 (by decide) ?_
    refine lv_iconst (v := (-1 : Int32)) hx hb dX11_read_26 (by decide) ?_
    refine lv_iconst (v := (-1 : Int32)) hx hb dX11_read_27 (by decide) ?_
    obtain ⟨⟨r_28_17_x0_29, r_28_17_x0_30, r_28_17_x0_31, r_28_17_x0_32⟩, hc_r_28_17, hf⟩ := of_bnd hf
    refine cl_Vv (w2 := (wW_X11_read G h0 h1 h2 h3 y0_3 y0_4 y0_6 y0_18 y0_21 y0_22 y0_23 y0_24 y0_25 y0_26 y0_33 y0_34 y0_38 y0_39 y0_40 y0_41 y0_42 y0_43 y0_45 y0_46 y0_47 y0_48 x0_5 x0_7 x0_8 x0_9 x0_10 x0_11 x0_12 x0_13 x0_14 x0_15 x0_16 x0_17 x0_19 x0_20 x0_27 x0_28 r_28_17_x0_29 r_28_17_x0_30 r_28_17_x0_31 r_28_17_x0_32 x0_35 x0_36 x0_37 x0_44 x0_49 x0_50 a1 a2 a3)) (As := [.int (0 : Int32), .int (-1 : Int32), .int (-1 : Int32), .int (-1 : Int32)]) (rest := []) ⟨hx, hb, hml, hown, ht0⟩ (c_X11_told l G h0 h2 h1 h3 y0_3 y0_4 y0_6 y0_18 y0_21 y0_22 y0_23 y0_24 y0_25 y0_26 y0_33 y0_34 y0_38 y0_39 y0_40 y0_41 y0_42 y0_43 y0_45 y0_46 y0_47 y0_48 _ x0_5 x0_7 x0_8 x0_9 x0_10 x0_11 x0_12 x0_13 x0_14 x0_15 x0_16 x0_17 x0_19 x0_20 x0_27 x0_28 x0_29 x0_30 b1 b2 x0_35 x0_36 x0_37 x0_44 x0_49 x0_50 a2 F (0 : Int32) (-1 : Int32) (-1 : Int32) (-1 : Int32) _ _ _ _ hc_r_28_17) yk_X11_told wd_1639 ⟨rfl, rfl, by decide, by decide⟩ ⟨Nat.le_refl _, Nat.le_refl _⟩ hX hK hP hD hS hA [0, 2] [1, 3] [2, 0, 3, 1] (va_recv hK hP (ci := 11) (q0 := 0) rfl rfl) rfl rfl (by decide) rfl rfl rfl rfl rfl hl.1 rfl (Nat.le_of_ble_eq_true rfl) dX11_read_28 (fun H locs hP hD hS => ?_)
    refine lv_goto (tgt := 134) hx hb dX11_read_31 (by decide) ?_
    cases hf
    exact ret_v hx hb hr hlk hK hP hD hS dX11_read_134
theorem yk_X11_read : ykV yX11_read RX11 cX11_read 6 none 4 := ⟨wd_1633, wd_81, wd_142, wd_1634, rfl, by decide +kernel, by decide +kernel, by decide +kernel⟩
theorem dX11_isTold_0 : decode cX11_isTold 0 = .ok (.aload_n 0, 1) := by decide +kernel
theorem dX11_isTold_1 : decode cX11_isTold 1 = .ok (.getfield 296, 3) := by decide +kernel
theorem dX11_isTold_4 : decode cX11_isTold 4 = .ok (.iconst 3, 1) := by decide +kernel
theorem dX11_isTold_5 : decode cX11_isTold 5 = .ok (.if_icmp .eq 11, 3) := by decide +kernel
theorem dX11_isTold_8 : decode cX11_isTold 8 = .ok (.aload_n 0, 1) := by decide +kernel
theorem dX11_isTold_9 : decode cX11_isTold 9 = .ok (.getfield 296, 3) := by decide +kernel
theorem dX11_isTold_12 : decode cX11_isTold 12 = .ok (.iconst 4, 1) := by decide +kernel
theorem dX11_isTold_13 : decode cX11_isTold 13 = .ok (.if_icmp .ne 7, 3) := by decide +kernel
theorem dX11_isTold_16 : decode cX11_isTold 16 = .ok (.iconst 1, 1) := by decide +kernel
theorem dX11_isTold_17 : decode cX11_isTold 17 = .ok (.goto 4, 3) := by decide +kernel
theorem dX11_isTold_20 : decode cX11_isTold 20 = .ok (.iconst 0, 1) := by decide +kernel
theorem dX11_isTold_21 : decode cX11_isTold 21 = .ok (.ireturn, 1) := by decide +kernel
def wW_X11_isTold (G : GG) (h0 y0_0 y0_1 y0_2 y0_3 y0_4 y0_6 y0_18 y0_21 y0_22 y0_23 y0_24 y0_25 y0_26 y0_33 y0_34 y0_38 y0_39 y0_40 y0_41 y0_42 y0_43 y0_45 y0_46 y0_47 y0_48 : Nat) (x0_5 : Int32) (x0_7 : Int32) (x0_8 : Int32) (x0_9 : Int32) (x0_10 : Int32) (x0_11 : Int32) (x0_12 : Int32) (x0_13 : Int32) (x0_14 : Int32) (x0_15 : Int32) (x0_16 : Int32) (x0_17 : Int32) (x0_19 : Int32) (x0_20 : Int32) (x0_27 : Int32) (x0_28 : Int32) (x0_29 : Int32) (x0_30 : Int32) (x0_31 : Int32) (x0_32 : Int32) (x0_35 : Int32) (x0_36 : Int32) (x0_37 : Int32) (x0_44 : Int32) (x0_49 : Int32) (x0_50 : Int32) : va_W := [(h0, .inr (11, [.ref y0_0, .ref y0_1, .ref y0_2, .ref y0_3, .ref y0_4, .int x0_5, .ref y0_6, .int x0_7, .int x0_8, .int x0_9, .int x0_10, .int x0_11, .int x0_12, .int x0_13, .int x0_14, .int x0_15, .int x0_16, .int x0_17, .ref y0_18, .int x0_19, .int x0_20, .ref y0_21, .ref y0_22, .ref y0_23, .ref y0_24, .ref y0_25, .ref y0_26, .int x0_27, .int x0_28, .int x0_29, .int x0_30, .int x0_31, .int x0_32, .ref y0_33, .ref y0_34, .int x0_35, .int x0_36, .int x0_37, .ref y0_38, .ref y0_39, .ref y0_40, .ref y0_41, .ref y0_42, .ref y0_43, .int x0_44, .ref y0_45, .ref y0_46, .ref y0_47, .ref y0_48, .int x0_49, .int x0_50]))]
set_option maxHeartbeats 4000000 in
set_option maxRecDepth 100000 in
theorem c_X11_isTold (l : Launch) (G : GG) (h0 y0_0 y0_1 y0_2 y0_3 y0_4 y0_6 y0_18 y0_21 y0_22 y0_23 y0_24 y0_25 y0_26 y0_33 y0_34 y0_38 y0_39 y0_40 y0_41 y0_42 y0_43 y0_45 y0_46 y0_47 y0_48 : Nat) (sz : Nat) (x0_5 : Int32) (x0_7 : Int32) (x0_8 : Int32) (x0_9 : Int32) (x0_10 : Int32) (x0_11 : Int32) (x0_12 : Int32) (x0_13 : Int32) (x0_14 : Int32) (x0_15 : Int32) (x0_16 : Int32) (x0_17 : Int32) (x0_19 : Int32) (x0_20 : Int32) (x0_27 : Int32) (x0_28 : Int32) (x0_29 : Int32) (x0_30 : Int32) (x0_31 : Int32) (x0_32 : Int32) (x0_35 : Int32) (x0_36 : Int32) (x0_37 : Int32) (x0_44 : Int32) (x0_49 : Int32) (x0_50 : Int32) (F : Nat)   (r0 : Int32) (hf : p_X11_isTold F x0_29  = some r0) : Met l yX11_isTold (.code yX11_isTold cX11_isTold 1 (some .boolean) :: gtbl) ({ frames := 0, cells := 0, slots := 0, locals := 0 } : Room) (PcS G [.ref h0] (wW_X11_isTold G h0 y0_0 y0_1 y0_2 y0_3 y0_4 y0_6 y0_18 y0_21 y0_22 y0_23 y0_24 y0_25 y0_26 y0_33 y0_34 y0_38 y0_39 y0_40 y0_41 y0_42 y0_43 y0_45 y0_46 y0_47 y0_48 x0_5 x0_7 x0_8 x0_9 x0_10 x0_11 x0_12 x0_13 x0_14 x0_15 x0_16 x0_17 x0_19 x0_20 x0_27 x0_28 x0_29 x0_30 x0_31 x0_32 x0_35 x0_36 x0_37 x0_44 x0_49 x0_50) sz) (QiS G r0 (va_A (wW_X11_isTold G h0 y0_0 y0_1 y0_2 y0_3 y0_4 y0_6 y0_18 y0_21 y0_22 y0_23 y0_24 y0_25 y0_26 y0_33 y0_34 y0_38 y0_39 y0_40 y0_41 y0_42 y0_43 y0_45 y0_46 y0_47 y0_48 x0_5 x0_7 x0_8 x0_9 x0_10 x0_11 x0_12 x0_13 x0_14 x0_15 x0_16 x0_17 x0_19 x0_20 x0_27 x0_28 x0_29 x0_30 x0_31 x0_32 x0_35 x0_36 x0_37 x0_44 x0_49 x0_50) sz) (wW_X11_isTold G h0 y0_0 y0_1 y0_2 y0_3 y0_4 y0_6 y0_18 y0_21 y0_22 y0_23 y0_24 y0_25 y0_26 y0_33 y0_34 y0_38 y0_39 y0_40 y0_41 y0_42 y0_43 y0_45 y0_46 y0_47 y0_48 x0_5 x0_7 x0_8 x0_9 x0_10 x0_11 x0_12 x0_13 x0_14 x0_15 x0_16 x0_17 x0_19 x0_20 x0_27 x0_28 x0_29 x0_30 x0_31 x0_32 x0_35 x0_36 x0_37 x0_44 x0_49 x0_50)) 0 0 (va_A (wW_X11_isTold G h0 y0_0 y0_1 y0_2 y0_3 y0_4 y0_6 y0_18 y0_21 y0_22 y0_23 y0_24 y0_25 y0_26 y0_33 y0_34 y0_38 y0_39 y0_40 y0_41 y0_42 y0_43 y0_45 y0_46 y0_47 y0_48 x0_5 x0_7 x0_8 x0_9 x0_10 x0_11 x0_12 x0_13 x0_14 x0_15 x0_16 x0_17 x0_19 x0_20 x0_27 x0_28 x0_29 x0_30 x0_31 x0_32 x0_35 x0_36 x0_37 x0_44 x0_49 x0_50) sz) := by
  refine met_start (by decide) (Nat.le_of_ble_eq_true rfl) ?_
  intro p e s m below meth c hC hr hlk hnm hK hP hD hA hS hX ls hl
  obtain ⟨hx, hb, hml, hown, ht0⟩ := hC
  have hown : s.vm.findClass RX11 = some m.cls := hown
  generalize va_A (wW_X11_isTold G h0 y0_0 y0_1 y0_2 y0_3 y0_4 y0_6 y0_18 y0_21 y0_22 y0_23 y0_24 y0_25 y0_26 y0_33 y0_34 y0_38 y0_39 y0_40 y0_41 y0_42 y0_43 y0_45 y0_46 y0_47 y0_48 x0_5 x0_7 x0_8 x0_9 x0_10 x0_11 x0_12 x0_13 x0_14 x0_15 x0_16 x0_17 x0_19 x0_20 x0_27 x0_28 x0_29 x0_30 x0_31 x0_32 x0_35 x0_36 x0_37 x0_44 x0_49 x0_50) sz = A at hD hA hS hX ⊢
  have hl : lv_has ls 1 [(0, .ref h0)] := hl
  have hf : p_X11_isTold F x0_29  = some r0 := hf
  refine lv_aload_n hx hb dX11_isTold_0 rfl (lv_at hl 0 rfl) ?_
  refine va_get (ci := 11) (v := .int x0_29) (C := RX11) (T := TX11) (N := 51) hx hb ht0 iX11 hown hK hP 0 rfl rfl 29 (by decide) (ht0 _ wd_1435) (fun _ h9 => h9) rfl dX11_isTold_1 ?_
  refine lv_iconst (v := (3 : Int32)) hx hb dX11_isTold_4 (by decide) ?_
  refine lv_icmp_eq (tgt := 16) hx hb dX11_isTold_5 (by decide) (fun c1 => ?_) (fun c1 => ?_)
  · have hf := of_pos hf c1
    refine lv_iconst (v := (1 : Int32)) hx hb dX11_isTold_16 (by decide) ?_
    refine lv_goto (tgt := 21) hx hb dX11_isTold_17 (by decide) ?_
    cases hf
    exact ret_z hx hb hr hlk hK hP hD hS (by decide) dX11_isTold_21
  · have hf := of_neg hf c1
    refine lv_aload_n hx hb dX11_isTold_8 rfl (lv_at hl 0 rfl) ?_
    refine va_get (ci := 11) (v := .int x0_29) (C := RX11) (T := TX11) (N := 51) hx hb ht0 iX11 hown hK hP 0 rfl rfl 29 (by decide) (ht0 _ wd_1435) (fun _ h9 => h9) rfl dX11_isTold_9 ?_
    refine lv_iconst (v := (4 : Int32)) hx hb dX11_isTold_12 (by decide) ?_
    refine lv_icmp_ne (tgt := 20) hx hb dX11_isTold_13 (by decide) (fun c2 => ?_) (fun c2 => ?_)
    · have hf := of_neg hf c2
      refine lv_iconst (v := (0 : Int32)) hx hb dX11_isTold_20 (by decide) ?_
      cases hf
      exact ret_z hx hb hr hlk hK hP hD hS (by decide) dX11_isTold_21
    · have hf := of_pos hf c2
      refine lv_iconst (v := (1 : Int32)) hx hb dX11_isTold_16 (by decide) ?_
      refine lv_goto (tgt := 21) hx hb dX11_isTold_17 (by decide) ?_
      cases hf
      exact ret_z hx hb hr hlk hK hP hD hS (by decide) dX11_isTold_21
theorem yk_X11_isTold : ykV yX11_isTold RX11 cX11_isTold 1 (some .boolean) 0 := ⟨wd_1661, wd_88, wd_142, wd_1662, rfl, by decide +kernel, by decide +kernel, by decide +kernel⟩
theorem dX11_readWordNow_0 : decode cX11_readWordNow 0 = .ok (.aload_n 0, 1) := by decide +kernel
theorem dX11_readWordNow_1 : decode cX11_readWordNow 1 = .ok (.iload_n 1, 1) := by decide +kernel
theorem dX11_readWordNow_2 : decode cX11_readWordNow 2 = .ok (.iconst 0, 1) := by decide +kernel
theorem dX11_readWordNow_3 : decode cX11_readWordNow 3 = .ok (.invokevirtual 278, 3) := by decide +kernel
theorem dX11_readWordNow_6 : decode cX11_readWordNow 6 = .ok (.istore_n 2, 1) := by decide +kernel
theorem dX11_readWordNow_7 : decode cX11_readWordNow 7 = .ok (.aload_n 0, 1) := by decide +kernel
theorem dX11_readWordNow_8 : decode cX11_readWordNow 8 = .ok (.iload_n 1, 1) := by decide +kernel
theorem dX11_readWordNow_9 : decode cX11_readWordNow 9 = .ok (.iconst 1, 1) := by decide +kernel
theorem dX11_readWordNow_10 : decode cX11_readWordNow 10 = .ok (.invokevirtual 278, 3) := by decide +kernel
theorem dX11_readWordNow_13 : decode cX11_readWordNow 13 = .ok (.istore_n 3, 1) := by decide +kernel
theorem dX11_readWordNow_14 : decode cX11_readWordNow 14 = .ok (.iload_n 3, 1) := by decide +kernel
theorem dX11_readWordNow_15 : decode cX11_readWordNow 15 = .ok (.ifCond .lt 35, 3) := by decide +kernel
theorem dX11_readWordNow_18 : decode cX11_readWordNow 18 = .ok (.iload_n 3, 1) := by decide +kernel
theorem dX11_readWordNow_19 : decode cX11_readWordNow 19 = .ok (.iload_n 2, 1) := by decide +kernel
theorem dX11_readWordNow_20 : decode cX11_readWordNow 20 = .ok (.if_icmp .ge 30, 3) := by decide +kernel
theorem dX11_readWordNow_23 : decode cX11_readWordNow 23 = .ok (.aload_n 0, 1) := by decide +kernel
theorem dX11_readWordNow_24 : decode cX11_readWordNow 24 = .ok (.aload_n 0, 1) := by decide +kernel
theorem dX11_readWordNow_25 : decode cX11_readWordNow 25 = .ok (.getfield 7, 3) := by decide +kernel
theorem dX11_readWordNow_28 : decode cX11_readWordNow 28 = .ok (.bipush 33, 2) := by decide +kernel
theorem dX11_readWordNow_30 : decode cX11_readWordNow 30 = .ok (.iload_n 1, 1) := by decide +kernel
theorem dX11_readWordNow_31 : decode cX11_readWordNow 31 = .ok (.iadd, 1) := by decide +kernel
theorem dX11_readWordNow_32 : decode cX11_readWordNow 32 = .ok (.iaload, 1) := by decide +kernel
theorem dX11_readWordNow_33 : decode cX11_readWordNow 33 = .ok (.aload_n 0, 1) := by decide +kernel
theorem dX11_readWordNow_34 : decode cX11_readWordNow 34 = .ok (.getfield 7, 3) := by decide +kernel
theorem dX11_readWordNow_37 : decode cX11_readWordNow 37 = .ok (.bipush 49, 2) := by decide +kernel
theorem dX11_readWordNow_39 : decode cX11_readWordNow 39 = .ok (.iload_n 1, 1) := by decide +kernel
theorem dX11_readWordNow_40 : decode cX11_readWordNow 40 = .ok (.iadd, 1) := by decide +kernel
theorem dX11_readWordNow_41 : decode cX11_readWordNow 41 = .ok (.iaload, 1) := by decide +kernel
theorem dX11_readWordNow_42 : decode cX11_readWordNow 42 = .ok (.iload_n 3, 1) := by decide +kernel
theorem dX11_readWordNow_43 : decode cX11_readWordNow 43 = .ok (.iload_n 2, 1) := by decide +kernel
theorem dX11_readWordNow_44 : decode cX11_readWordNow 44 = .ok (.invokevirtual 320, 3) := by decide +kernel
theorem dX11_readWordNow_47 : decode cX11_readWordNow 47 = .ok (.goto 27, 3) := by decide +kernel
theorem dX11_readWordNow_50 : decode cX11_readWordNow 50 = .ok (.aload_n 0, 1) := by decide +kernel
theorem dX11_readWordNow_51 : decode cX11_readWordNow 51 = .ok (.aload_n 0, 1) := by decide +kernel
theorem dX11_readWordNow_52 : decode cX11_readWordNow 52 = .ok (.getfield 7, 3) := by decide +kernel
theorem dX11_readWordNow_55 : decode cX11_readWordNow 55 = .ok (.bipush 33, 2) := by decide +kernel
theorem dX11_readWordNow_57 : decode cX11_readWordNow 57 = .ok (.iload_n 1, 1) := by decide +kernel
theorem dX11_readWordNow_58 : decode cX11_readWordNow 58 = .ok (.iadd, 1) := by decide +kernel
theorem dX11_readWordNow_59 : decode cX11_readWordNow 59 = .ok (.iaload, 1) := by decide +kernel
theorem dX11_readWordNow_60 : decode cX11_readWordNow 60 = .ok (.aload_n 0, 1) := by decide +kernel
theorem dX11_readWordNow_61 : decode cX11_readWordNow 61 = .ok (.getfield 7, 3) := by decide +kernel
theorem dX11_readWordNow_64 : decode cX11_readWordNow 64 = .ok (.bipush 49, 2) := by decide +kernel
theorem dX11_readWordNow_66 : decode cX11_readWordNow 66 = .ok (.iload_n 1, 1) := by decide +kernel
theorem dX11_readWordNow_67 : decode cX11_readWordNow 67 = .ok (.iadd, 1) := by decide +kernel
theorem dX11_readWordNow_68 : decode cX11_readWordNow 68 = .ok (.iaload, 1) := by decide +kernel
theorem dX11_readWordNow_69 : decode cX11_readWordNow 69 = .ok (.iload_n 2, 1) := by decide +kernel
theorem dX11_readWordNow_70 : decode cX11_readWordNow 70 = .ok (.iload_n 3, 1) := by decide +kernel
theorem dX11_readWordNow_71 : decode cX11_readWordNow 71 = .ok (.invokevirtual 320, 3) := by decide +kernel
theorem dX11_readWordNow_74 : decode cX11_readWordNow 74 = .ok (.return_, 1) := by decide +kernel
def wW_X11_readWordNow (G : GG) (h0 h1 h2 h3 y0_3 y0_4 y0_6 y0_18 y0_21 y0_22 y0_23 y0_24 y0_25 y0_26 y0_33 y0_34 y0_38 y0_39 y0_40 y0_41 y0_42 y0_43 y0_45 y0_46 y0_47 y0_48 : Nat) (x0_5 : Int32) (x0_7 : Int32) (x0_8 : Int32) (x0_9 : Int32) (x0_10 : Int32) (x0_11 : Int32) (x0_12 : Int32) (x0_13 : Int32) (x0_14 : Int32) (x0_15 : Int32) (x0_16 : Int32) (x0_17 : Int32) (x0_19 : Int32) (x0_20 : Int32) (x0_27 : Int32) (x0_28 : Int32) (x0_29 : Int32) (x0_30 : Int32) (x0_31 : Int32) (x0_32 : Int32) (x0_35 : Int32) (x0_36 : Int32) (x0_37 : Int32) (x0_44 : Int32) (x0_49 : Int32) (x0_50 : Int32) (a1 : Nat → Int32) (a2 : Nat → Int32) (a3 : Nat → Int32) : va_W := [(h0, .inr (11, [.ref h1, .ref h2, .ref h3, .ref y0_3, .ref y0_4, .int x0_5, .ref y0_6, .int x0_7, .int x0_8, .int x0_9, .int x0_10, .int x0_11, .int x0_12, .int x0_13, .int x0_14, .int x0_15, .int x0_16, .int x0_17, .ref y0_18, .int x0_19, .int x0_20, .ref y0_21, .ref y0_22, .ref y0_23, .ref y0_24, .ref y0_25, .ref y0_26, .int x0_27, .int x0_28, .int x0_29, .int x0_30, .int x0_31, .int x0_32, .ref y0_33, .ref y0_34, .int x0_35, .int x0_36, .int x0_37, .ref y0_38, .ref y0_39, .ref y0_40, .ref y0_41, .ref y0_42, .ref y0_43, .int x0_44, .ref y0_45, .ref y0_46, .ref y0_47, .ref y0_48, .int x0_49, .int x0_50])), (h1, .inl (G.2.1, 121, .inl a1)), (h2, .inl (G.2.1, 2, .inl a2)), (h3, .inl (G.2.1, 2, .inl a3))]
set_option maxHeartbeats 4000000 in
set_option maxRecDepth 100000 in
theorem c_X11_readWordNow (l : Launch) (G : GG) (h0 h1 h2 h3 y0_3 y0_4 y0_6 y0_18 y0_21 y0_22 y0_23 y0_24 y0_25 y0_26 y0_33 y0_34 y0_38 y0_39 y0_40 y0_41 y0_42 y0_43 y0_45 y0_46 y0_47 y0_48 : Nat) (sz : Nat) (x0_5 : Int32) (x0_7 : Int32) (x0_8 : Int32) (x0_9 : Int32) (x0_10 : Int32) (x0_11 : Int32) (x0_12 : Int32) (x0_13 : Int32) (x0_14 : Int32) (x0_15 : Int32) (x0_16 : Int32) (x0_17 : Int32) (x0_19 : Int32) (x0_20 : Int32) (x0_27 : Int32) (x0_28 : Int32) (x0_29 : Int32) (x0_30 : Int32) (x0_31 : Int32) (x0_32 : Int32) (x0_35 : Int32) (x0_36 : Int32) (x0_37 : Int32) (x0_44 : Int32) (x0_49 : Int32) (x0_50 : Int32) (a1 : Nat → Int32) (a2 : Nat → Int32) (a3 : Nat → Int32) (F : Nat) (b1 : Int32)  (e_x0_29 : Int32) (e_x0_30 : Int32) (e_x0_31 : Int32) (e_x0_32 : Int32) (hf : p_X11_readWordNow F x0_5 x0_29 x0_30 x0_31 x0_32 a1 a2 a3 b1 = some (e_x0_29, e_x0_30, e_x0_31, e_x0_32)) : Met l yX11_readWordNow (.code yX11_readWordNow cX11_readWordNow 4 none :: gtbl) ({ frames := 6, cells := 0, slots := 0, locals := 140 } : Room) (PcS G [.ref h0, .int b1] (wW_X11_readWordNow G h0 h1 h2 h3 y0_3 y0_4 y0_6 y0_18 y0_21 y0_22 y0_23 y0_24 y0_25 y0_26 y0_33 y0_34 y0_38 y0_39 y0_40 y0_41 y0_42 y0_43 y0_45 y0_46 y0_47 y0_48 x0_5 x0_7 x0_8 x0_9 x0_10 x0_11 x0_12 x0_13 x0_14 x0_15 x0_16 x0_17 x0_19 x0_20 x0_27 x0_28 x0_29 x0_30 x0_31 x0_32 x0_35 x0_36 x0_37 x0_44 x0_49 x0_50 a1 a2 a3) sz) (QvS G (va_A (wW_X11_readWordNow G h0 h1 h2 h3 y0_3 y0_4 y0_6 y0_18 y0_21 y0_22 y0_23 y0_24 y0_25 y0_26 y0_33 y0_34 y0_38 y0_39 y0_40 y0_41 y0_42 y0_43 y0_45 y0_46 y0_47 y0_48 x0_5 x0_7 x0_8 x0_9 x0_10 x0_11 x0_12 x0_13 x0_14 x0_15 x0_16 x0_17 x0_19 x0_20 x0_27 x0_28 x0_29 x0_30 x0_31 x0_32 x0_35 x0_36 x0_37 x0_44 x0_49 x0_50 a1 a2 a3) sz) (wW_X11_readWordNow G h0 h1 h2 h3 y0_3 y0_4 y0_6 y0_18 y0_21 y0_22 y0_23 y0_24 y0_25 y0_26 y0_33 y0_34 y0_38 y0_39 y0_40 y0_41 y0_42 y0_43 y0_45 y0_46 y0_47 y0_48 x0_5 x0_7 x0_8 x0_9 x0_10 x0_11 x0_12 x0_13 x0_14 x0_15 x0_16 x0_17 x0_19 x0_20 x0_27 x0_28 e_x0_29 e_x0_30 e_x0_31 e_x0_32 x0_35 x0_36 x0_37 x0_44 x0_49 x0_50 a1 a2 a3)) 0 0 (va_A (wW_X11_readWordNow G h0 h1 h2 h3 y0_3 y0_4 y0_6 y0_18 y0_21 y0_22 y0_23 y0_24 y0_25 y0_26 y0_33 y0_34 y0_38 y0_39 y0_40 y0_41 y0_42 y0_43 y0_45 y0_46 y0_47 y0_48 x0_5 x0_7 x0_8 x0_9 x0_10 x0_11 x0_12 x0_13 x0_14 x0_15 x0_16 x0_17 x0_19 x0_20 x0_27 x0_28 x0_29 x0_30 x0_31 x0_32 x0_35 x0_36 x0_37 x0_44 x0_49 x0_50 a1 a2 a3) sz) := by
  refine met_start (by decide) (Nat.le_of_ble_eq_true rfl) ?_
  intro p e s m below meth c hC hr hlk hnm hK hP hD hA hS hX ls hl
  obtain ⟨hx, hb, hml, hown, ht0⟩ := hC
  have hown : s.vm.findClass RX11 = some m.cls := hown
  generalize va_A (wW_X11_readWordNow G h0 h1 h2 h3 y0_3 y0_4 y0_6 y0_18 y0_21 y0_22 y0_23 y0_24 y0_25 y0_26 y0_33 y0_34 y0_38 y0_39 y0_40 y0_41 y0_42 y0_43 y0_45 y0_46 y0_47 y0_48 x0_5 x0_7 x0_8 x0_9 x0_10 x0_11 x0_12 x0_13 x0_14 x0_15 x0_16 x0_17 x0_19 x0_20 x0_27 x0_28 x0_29 x0_30 x0_31 x0_32 x0_35 x0_36 x0_37 x0_44 x0_49 x0_50 a1 a2 a3) sz = A at hD hA hS hX ⊢
  have hl : lv_has ls 4 [(0, .ref h0), (1, .int b1)] := hl
  have hf : p_X11_readWordNow F x0_5 x0_29 x0_30 x0_31 x0_32 a1 a2 a3 b1 = some (e_x0_29, e_x0_30, e_x0_31, e_x0_32) := hf
  have kJ50 : ∀ (u50_1 : Int32) (u50_2 : Int32) (u50_3 : Int32) (x0_29_50 : Int32) (x0_30_50 : Int32) (x0_31_50 : Int32) (x0_32_50 : Int32), p_X11_readWordNow_J50 F x0_5 a1 a2 a3 u50_1 u50_2 u50_3 x0_29_50 x0_30_50 x0_31_50 x0_32_50 = some (e_x0_29, e_x0_30, e_x0_31, e_x0_32) → ∀ (H : Heap) (locs : List Loc), va_P G.1 vwCl (wW_X11_readWordNow G h0 h1 h2 h3 y0_3 y0_4 y0_6 y0_18 y0_21 y0_22 y0_23 y0_24 y0_25 y0_26 y0_33 y0_34 y0_38 y0_39 y0_40 y0_41 y0_42 y0_43 y0_45 y0_46 y0_47 y0_48 x0_5 x0_7 x0_8 x0_9 x0_10 x0_11 x0_12 x0_13 x0_14 x0_15 x0_16 x0_17 x0_19 x0_20 x0_27 x0_28 x0_29_50 x0_30_50 x0_31_50 x0_32_50 x0_35 x0_36 x0_37 x0_44 x0_49 x0_50 a1 a2 a3) H → va_D A (wW_X11_readWordNow G h0 h1 h2 h3 y0_3 y0_4 y0_6 y0_18 y0_21 y0_22 y0_23 y0_24 y0_25 y0_26 y0_33 y0_34 y0_38 y0_39 y0_40 y0_41 y0_42 y0_43 y0_45 y0_46 y0_47 y0_48 x0_5 x0_7 x0_8 x0_9 x0_10 x0_11 x0_12 x0_13 x0_14 x0_15 x0_16 x0_17 x0_19 x0_20 x0_27 x0_28 x0_29_50 x0_30_50 x0_31_50 x0_32_50 x0_35 x0_36 x0_37 x0_44 x0_49 x0_50 a1 a2 a3) → va_S A s.heap H locs → ∀ ls : Array Slot, lv_has ls 4 [(0, .ref h0), (1, .int u50_1), (2, .int u50_2), (3, .int u50_3)] → W p l e ({ frames := 6, cells := 0, slots := 0, locals := 140 } : Room) s m (List.toArray [.ref h0, .int b1]) below meth c H locs 0 0 (MQ below (QvS G A (wW_X11_readWordNow G h0 h1 h2 h3 y0_3 y0_4 y0_6 y0_18 y0_21 y0_22 y0_23 y0_24 y0_25 y0_26 y0_33 y0_34 y0_38 y0_39 y0_40 y0_41 y0_42 y0_43 y0_45 y0_46 y0_47 y0_48 x0_5 x0_7 x0_8 x0_9 x0_10 x0_11 x0_12 x0_13 x0_14 x0_15 x0_16 x0_17 x0_19 x0_20 x0_27 x0_28 e_x0_29 e_x0_30 e_x0_31 e_x0_32 x0_35 x0_36 x0_37 x0_44 x0_49 x0_50 a1 a2 a3)) (List.toArray [.ref h0, .int b1]) s 0 0 A) (F0 m 50 ls []) := by
    intro u50_1 u50_2 u50_3 x0_29_50 x0_30_50 x0_31_50 x0_32_50 hf H locs hP hD hS ls hl
    refine lv_aload_n hx hb dX11_readWordNow_50 rfl (lv_at hl 0 rfl) ?_
    refine lv_aload_n hx hb dX11_readWordNow_51 rfl (lv_at hl 0 rfl) ?_
    refine va_get (ci := 11) (v := .ref h1) (C := RX11) (T := TX11) (N := 51) hx hb ht0 iX11 hown hK hP 0 rfl rfl 0 (by decide) (ht0 _ wd_1406) (fun _ h9 => h9) rfl dX11_readWordNow_52 ?_
    refine lv_bipush (v := (33 : Int32)) hx hb dX11_readWordNow_55 (by decide) ?_
    refine lv_iload_n hx hb dX11_readWordNow_57 rfl (lv_at hl 1 rfl) ?_
    refine lv_iadd hx hb dX11_readWordNow_58 ?_
    obtain ⟨g1, hf⟩ := of_grd hf
    refine va_iald hx hb hK hP 1 0 rfl rfl g1 dX11_readWordNow_59 ?_
    refine lv_aload_n hx hb dX11_readWordNow_60 rfl (lv_at hl 0 rfl) ?_
    refine va_get (ci := 11) (v := .ref h1) (C := RX11) (T := TX11) (N := 51) hx hb ht0 iX11 hown hK hP 0 rfl rfl 0 (by decide) (ht0 _ wd_1406) (fun _ h9 => h9) rfl dX11_readWordNow_61 ?_
    refine lv_bipush (v := (49 : Int32)) hx hb dX11_readWordNow_64 (by decide) ?_
    refine lv_iload_n hx hb dX11_readWordNow_66 rfl (lv_at hl 1 rfl) ?_
    refine lv_iadd hx hb dX11_readWordNow_67 ?_
    obtain ⟨g2, hf⟩ := of_grd hf
    refine va_iald hx hb hK hP 1 0 rfl rfl g2 dX11_readWordNow_68 ?_
    refine lv_iload_n hx hb dX11_readWordNow_69 rfl (lv_at hl 2 rfl) ?_
    refine lv_iload_n hx hb dX11_readWordNow_70 rfl (lv_at hl 3 rfl) ?_
    obtain ⟨⟨r_71_2_x0_29, r_71_2_x0_30, r_71_2_x0_31, r_71_2_x0_32⟩, hc_r_71_2, hf⟩ := of_bnd hf
    refine cl_Vv (w2 := (wW_X11_readWordNow G h0 h1 h2 h3 y0_3 y0_4 y0_6 y0_18 y0_21 y0_22 y0_23 y0_24 y0_25 y0_26 y0_33 y0_34 y0_38 y0_39 y0_40 y0_41 y0_42 y0_43 y0_45 y0_46 y0_47 y0_48 x0_5 x0_7 x0_8 x0_9 x0_10 x0_11 x0_12 x0_13 x0_14 x0_15 x0_16 x0_17 x0_19 x0_20 x0_27 x0_28 r_71_2_x0_29 r_71_2_x0_30 r_71_2_x0_31 r_71_2_x0_32 x0_35 x0_36 x0_37 x0_44 x0_49 x0_50 a1 a2 a3)) (As := [.int (a1 ((33 : Int32) + u50_1).toNatClampNeg), .int (a1 ((49 : Int32) + u50_1).toNatClampNeg), .int u50_2, .int u50_3]) (rest := []) ⟨hx, hb, hml, hown, ht0⟩ (c_X11_read l G h0 h1 h2 h3 y0_3 y0_4 y0_6 y0_18 y0_21 y0_22 y0_23 y0_24 y0_25 y0_26 y0_33 y0_34 y0_38 y0_39 y0_40 y0_41 y0_42 y0_43 y0_45 y0_46 y0_47 y0_48 _ x0_5 x0_7 x0_8 x0_9 x0_10 x0_11 x0_12 x0_13 x0_14 x0_15 x0_16 x0_17 x0_19 x0_20 x0_27 x0_28 x0_29_50 x0_30_50 x0_31_50 x0_32_50 x0_35 x0_36 x0_37 x0_44 x0_49 x0_50 a1 a2 a3 F (a1 ((33 : Int32) + u50_1).toNatClampNeg) (a1 ((49 : Int32) + u50_1).toNatClampNeg) u50_2 u50_3 _ _ _ _ hc_r_71_2) yk_X11_read wd_1631 ⟨rfl, rfl, by decide, by decide⟩ ⟨Nat.le_refl _, Nat.le_refl _⟩ hX hK hP hD hS hA [0, 1, 2, 3] [] [0, 1, 2, 3] (va_recv hK hP (ci := 11) (q0 := 0) rfl rfl) rfl rfl (by decide) rfl rfl rfl rfl rfl hl.1 rfl (Nat.le_of_ble_eq_true rfl) dX11_readWordNow_71 (fun H locs hP hD hS => ?_)
    cases hf
    exact ret_v hx hb hr hlk hK hP hD hS dX11_readWordNow_74
  refine lv_aload_n hx hb dX11_readWordNow_0 rfl (lv_at hl 0 rfl) ?_
  refine lv_iload_n hx hb dX11_readWordNow_1 rfl (lv_at hl 1 rfl) ?_
  refine lv_iconst (v := (0 : Int32)) hx hb dX11_readWordNow_2 (by decide) ?_
  obtain ⟨r_3_3, hc_r_3_3, hf⟩ := of_bnd hf
  refine cl_Vi (w2 := (wW_X11_readWordNow G h0 h1 h2 h3 y0_3 y0_4 y0_6 y0_18 y0_21 y0_22 y0_23 y0_24 y0_25 y0_26 y0_33 y0_34 y0_38 y0_39 y0_40 y0_41 y0_42 y0_43 y0_45 y0_46 y0_47 y0_48 x0_5 x0_7 x0_8 x0_9 x0_10 x0_11 x0_12 x0_13 x0_14 x0_15 x0_16 x0_17 x0_19 x0_20 x0_27 x0_28 x0_29 x0_30 x0_31 x0_32 x0_35 x0_36 x0_37 x0_44 x0_49 x0_50 a1 a2 a3)) (As := [.int b1, .int (0 : Int32)]) (rest := []) ⟨hx, hb, hml, hown, ht0⟩ (c_X11_stuckAt l G h0 h1 h2 h3 y0_3 y0_4 y0_6 y0_18 y0_21 y0_22 y0_23 y0_24 y0_25 y0_26 y0_33 y0_34 y0_38 y0_39 y0_40 y0_41 y0_42 y0_43 y0_45 y0_46 y0_47 y0_48 _ x0_5 x0_7 x0_8 x0_9 x0_10 x0_11 x0_12 x0_13 x0_14 x0_15 x0_16 x0_17 x0_19 x0_20 x0_27 x0_28 x0_29 x0_30 x0_31 x0_32 x0_35 x0_36 x0_37 x0_44 x0_49 x0_50 a1 F b1 (0 : Int32) _ hc_r_3_3) yk_X11_stuckAt wd_1607 ⟨rfl, rfl, by decide, by decide⟩ ⟨Nat.le_refl _, Nat.le_refl _⟩ hX hK hP hD hS hA [0, 1] [2, 3] [2, 3, 0, 1] (va_recv hK hP (ci := 11) (q0 := 0) rfl rfl) rfl rfl (by decide) rfl rfl rfl rfl rfl hl.1 rfl (Nat.le_of_ble_eq_true rfl) dX11_readWordNow_3 (fun H locs hP hD hS => ?_)
  refine lv_istore_n (lv' := [(2, .int r_3_3), (0, .ref h0), (1, .int b1)]) hx hb dX11_readWordNow_6 rfl hl (by decide) rfl (fun ls hl => ?_)
  refine lv_aload_n hx hb dX11_readWordNow_7 rfl (lv_at hl 1 rfl) ?_
  refine lv_iload_n hx hb dX11_readWordNow_8 rfl (lv_at hl 2 rfl) ?_
  refine lv_iconst (v := (1 : Int32)) hx hb dX11_readWordNow_9 (by decide) ?_
  obtain ⟨r_10_4, hc_r_10_4, hf⟩ := of_bnd hf
  refine cl_Vi (w2 := (wW_X11_readWordNow G h0 h1 h2 h3 y0_3 y0_4 y0_6 y0_18 y0_21 y0_22 y0_23 y0_24 y0_25 y0_26 y0_33 y0_34 y0_38 y0_39 y0_40 y0_41 y0_42 y0_43 y0_45 y0_46 y0_47 y0_48 x0_5 x0_7 x0_8 x0_9 x0_10 x0_11 x0_12 x0_13 x0_14 x0_15 x0_16 x0_17 x0_19 x0_20 x0_27 x0_28 x0_29 x0_30 x0_31 x0_32 x0_35 x0_36 x0_37 x0_44 x0_49 x0_50 a1 a2 a3)) (As := [.int b1, .int (1 : Int32)]) (rest := []) ⟨hx, hb, hml, hown, ht0⟩ (c_X11_stuckAt l G h0 h1 h2 h3 y0_3 y0_4 y0_6 y0_18 y0_21 y0_22 y0_23 y0_24 y0_25 y0_26 y0_33 y0_34 y0_38 y0_39 y0_40 y0_41 y0_42 y0_43 y0_45 y0_46 y0_47 y0_48 _ x0_5 x0_7 x0_8 x0_9 x0_10 x0_11 x0_12 x0_13 x0_14 x0_15 x0_16 x0_17 x0_19 x0_20 x0_27 x0_28 x0_29 x0_30 x0_31 x0_32 x0_35 x0_36 x0_37 x0_44 x0_49 x0_50 a1 F b1 (1 : Int32) _ hc_r_10_4) yk_X11_stuckAt wd_1607 ⟨rfl, rfl, by decide, by decide⟩ ⟨Nat.le_refl _, Nat.le_refl _⟩ hX hK hP hD hS hA [0, 1] [2, 3] [2, 3, 0, 1] (va_recv hK hP (ci := 11) (q0 := 0) rfl rfl) rfl rfl (by decide) rfl rfl rfl rfl rfl hl.1 rfl (Nat.le_of_ble_eq_true rfl) dX11_readWordNow_10 (fun H locs hP hD hS => ?_)
  refine lv_istore_n (lv' := [(3, .int r_10_4), (2, .int r_3_3), (0, .ref h0), (1, .int b1)]) hx hb dX11_readWordNow_13 rfl hl (by decide) rfl (fun ls hl => ?_)
  refine lv_iload_n hx hb dX11_readWordNow_14 rfl (lv_at hl 0 rfl) ?_
  refine lv_if_lt (tgt := 50) hx hb dX11_readWordNow_15 (by decide) (fun c6 => ?_) (fun c6 => ?_)
  · have hf := of_pos hf c6
    exact kJ50 _ _ _ _ _ _ _ hf _ _ hP hD hS _ (lv_sub hl [2, 3, 1, 0] rfl)
  · have hf := of_neg hf c6
    refine lv_iload_n hx hb dX11_readWordNow_18 rfl (lv_at hl 0 rfl) ?_
    refine lv_iload_n hx hb dX11_readWordNow_19 rfl (lv_at hl 1 rfl) ?_
    refine lv_icmp_ge (tgt := 50) hx hb dX11_readWordNow_20 (by decide) (fun c7 => ?_) (fun c7 => ?_)
    · have hf := of_pos hf c7
      exact kJ50 _ _ _ _ _ _ _ hf _ _ hP hD hS _ (lv_sub hl [2, 3, 1, 0] rfl)
    · have hf := of_neg hf c7
      refine lv_aload_n hx hb dX11_readWordNow_23 rfl (lv_at hl 2 rfl) ?_
      refine lv_aload_n hx hb dX11_readWordNow_24 rfl (lv_at hl 2 rfl) ?_
      refine va_get (ci := 11) (v := .ref h1) (C := RX11) (T := TX11) (N := 51) hx hb ht0 iX11 hown hK hP 0 rfl rfl 0 (by decide) (ht0 _ wd_1406) (fun _ h9 => h9) rfl dX11_readWordNow_25 ?_
      refine lv_bipush (v := (33 : Int32)) hx hb dX11_readWordNow_28 (by decide) ?_
      refine lv_iload_n hx hb dX11_readWordNow_30 rfl (lv_at hl 3 rfl) ?_
      refine lv_iadd hx hb dX11_readWordNow_31 ?_
      obtain ⟨g8, hf⟩ := of_grd hf
      refine va_iald hx hb hK hP 1 0 rfl rfl g8 dX11_readWordNow_32 ?_
      refine lv_aload_n hx hb dX11_readWordNow_33 rfl (lv_at hl 2 rfl) ?_
      refine va_get (ci := 11) (v := .ref h1) (C := RX11) (T := TX11) (N := 51) hx hb ht0 iX11 hown hK hP 0 rfl rfl 0 (by decide) (ht0 _ wd_1406) (fun _ h9 => h9) rfl dX11_readWordNow_34 ?_
      refine lv_bipush (v := (49 : Int32)) hx hb dX11_readWordNow_37 (by decide) ?_
      refine lv_iload_n hx hb dX11_readWordNow_39 rfl (lv_at hl 3 rfl) ?_
      refine lv_iadd hx hb dX11_readWordNow_40 ?_
      obtain ⟨g9, hf⟩ := of_grd hf
      refine va_iald hx hb hK hP 1 0 rfl rfl g9 dX11_readWordNow_41 ?_
      refine lv_iload_n hx hb dX11_readWordNow_42 rfl (lv_at hl 0 rfl) ?_
      refine lv_iload_n hx hb dX11_readWordNow_43 rfl (lv_at hl 1 rfl) ?_
      obtain ⟨⟨r_44_9_x0_29, r_44_9_x0_30, r_44_9_x0_31, r_44_9_x0_32⟩, hc_r_44_9, hf⟩ := of_bnd hf
      refine cl_Vv (w2 := (wW_X11_readWordNow G h0 h1 h2 h3 y0_3 y0_4 y0_6 y0_18 y0_21 y0_22 y0_23 y0_24 y0_25 y0_26 y0_33 y0_34 y0_38 y0_39 y0_40 y0_41 y0_42 y0_43 y0_45 y0_46 y0_47 y0_48 x0_5 x0_7 x0_8 x0_9 x0_10 x0_11 x0_12 x0_13 x0_14 x0_15 x0_16 x0_17 x0_19 x0_20 x0_27 x0_28 r_44_9_x0_29 r_44_9_x0_30 r_44_9_x0_31 r_44_9_x0_32 x0_35 x0_36 x0_37 x0_44 x0_49 x0_50 a1 a2 a3)) (As := [.int (a1 ((33 : Int32) + b1).toNatClampNeg), .int (a1 ((49 : Int32) + b1).toNatClampNeg), .int r_10_4, .int r_3_3]) (rest := []) ⟨hx, hb, hml, hown, ht0⟩ (c_X11_read l G h0 h1 h2 h3 y0_3 y0_4 y0_6 y0_18 y0_21 y0_22 y0_23 y0_24 y0_25 y0_26 y0_33 y0_34 y0_38 y0_39 y0_40 y0_41 y0_42 y0_43 y0_45 y0_46 y0_47 y0_48 _ x0_5 x0_7 x0_8 x0_9 x0_10 x0_11 x0_12 x0_13 x0_14 x0_15 x0_16 x0_17 x0_19 x0_20 x0_27 x0_28 x0_29 x0_30 x0_31 x0_32 x0_35 x0_36 x0_37 x0_44 x0_49 x0_50 a1 a2 a3 F (a1 ((33 : Int32) + b1).toNatClampNeg) (a1 ((49 : Int32) + b1).toNatClampNeg) r_10_4 r_3_3 _ _ _ _ hc_r_44_9) yk_X11_read wd_1631 ⟨rfl, rfl, by decide, by decide⟩ ⟨Nat.le_refl _, Nat.le_refl _⟩ hX hK hP hD hS hA [0, 1, 2, 3] [] [0, 1, 2, 3] (va_recv hK hP (ci := 11) (q0 := 0) rfl rfl) rfl rfl (by decide) rfl rfl rfl rfl rfl hl.1 rfl (Nat.le_of_ble_eq_true rfl) dX11_readWordNow_44 (fun H locs hP hD hS => ?_)
      refine lv_goto (tgt := 74) hx hb dX11_readWordNow_47 (by decide) ?_
      cases hf
      exact ret_v hx hb hr hlk hK hP hD hS dX11_readWordNow_74
theorem yk_X11_readWordNow : ykV yX11_readWordNow RX11 cX11_readWordNow 4 none 1 := ⟨wd_1629, wd_80, wd_142, wd_1630, rfl, by decide +kernel, by decide +kernel, by decide +kernel⟩
theorem dX11_isRight_0 : decode cX11_isRight 0 = .ok (.aload_n 0, 1) := by decide +kernel
theorem dX11_isRight_1 : decode cX11_isRight 1 = .ok (.getfield 290, 3) := by decide +kernel
theorem dX11_isRight_4 : decode cX11_isRight 4 = .ok (.aload_n 0, 1) := by decide +kernel
theorem dX11_isRight_5 : decode cX11_isRight 5 = .ok (.getfield 7, 3) := by decide +kernel
theorem dX11_isRight_8 : decode cX11_isRight 8 = .ok (.bipush 65, 2) := by decide +kernel
theorem dX11_isRight_10 : decode cX11_isRight 10 = .ok (.iload_n 1, 1) := by decide +kernel
theorem dX11_isRight_11 : decode cX11_isRight 11 = .ok (.iadd, 1) := by decide +kernel
theorem dX11_isRight_12 : decode cX11_isRight 12 = .ok (.iaload, 1) := by decide +kernel
theorem dX11_isRight_13 : decode cX11_isRight 13 = .ok (.if_icmp .ne 27, 3) := by decide +kernel
theorem dX11_isRight_16 : decode cX11_isRight 16 = .ok (.aload_n 0, 1) := by decide +kernel
theorem dX11_isRight_17 : decode cX11_isRight 17 = .ok (.getfield 293, 3) := by decide +kernel
theorem dX11_isRight_20 : decode cX11_isRight 20 = .ok (.aload_n 0, 1) := by decide +kernel
theorem dX11_isRight_21 : decode cX11_isRight 21 = .ok (.aload_n 0, 1) := by decide +kernel
theorem dX11_isRight_22 : decode cX11_isRight 22 = .ok (.getfield 7, 3) := by decide +kernel
theorem dX11_isRight_25 : decode cX11_isRight 25 = .ok (.bipush 65, 2) := by decide +kernel
theorem dX11_isRight_27 : decode cX11_isRight 27 = .ok (.iload_n 1, 1) := by decide +kernel
theorem dX11_isRight_28 : decode cX11_isRight 28 = .ok (.iadd, 1) := by decide +kernel
theorem dX11_isRight_29 : decode cX11_isRight 29 = .ok (.iaload, 1) := by decide +kernel
theorem dX11_isRight_30 : decode cX11_isRight 30 = .ok (.invokevirtual 227, 3) := by decide +kernel
theorem dX11_isRight_33 : decode cX11_isRight 33 = .ok (.if_icmp .ne 7, 3) := by decide +kernel
theorem dX11_isRight_36 : decode cX11_isRight 36 = .ok (.iconst 1, 1) := by decide +kernel
theorem dX11_isRight_37 : decode cX11_isRight 37 = .ok (.goto 4, 3) := by decide +kernel
theorem dX11_isRight_40 : decode cX11_isRight 40 = .ok (.iconst 0, 1) := by decide +kernel
theorem dX11_isRight_41 : decode cX11_isRight 41 = .ok (.ireturn, 1) := by decide +kernel
def wW_X11_isRight (G : GG) (h0 h1 h2 y0_2 y0_3 y0_4 y0_6 y0_18 y0_21 y0_22 y0_23 y0_24 y0_25 y0_26 y0_33 y0_34 y0_38 y0_39 y0_40 y0_41 y0_42 y0_43 y0_45 y0_46 y0_47 y0_48 : Nat) (x0_5 : Int32) (x0_7 : Int32) (x0_8 : Int32) (x0_9 : Int32) (x0_10 : Int32) (x0_11 : Int32) (x0_12 : Int32) (x0_13 : Int32) (x0_14 : Int32) (x0_15 : Int32) (x0_16 : Int32) (x0_17 : Int32) (x0_19 : Int32) (x0_20 : Int32) (x0_27 : Int32) (x0_28 : Int32) (x0_29 : Int32) (x0_30 : Int32) (x0_31 : Int32) (x0_32 : Int32) (x0_35 : Int32) (x0_36 : Int32) (x0_37 : Int32) (x0_44 : Int32) (x0_49 : Int32) (x0_50 : Int32) (a1 : Nat → Int32) (a2 : Nat → Int32) : va_W := [(h0, .inr (11, [.ref h1, .ref h2, .ref y0_2, .ref y0_3, .ref y0_4, .int x0_5, .ref y0_6, .int x0_7, .int x0_8, .int x0_9, .int x0_10, .int x0_11, .int x0_12, .int x0_13, .int x0_14, .int x0_15, .int x0_16, .int x0_17, .ref y0_18, .int x0_19, .int x0_20, .ref y0_21, .ref y0_22, .ref y0_23, .ref y0_24, .ref y0_25, .ref y0_26, .int x0_27, .int x0_28, .int x0_29, .int x0_30, .int x0_31, .int x0_32, .ref y0_33, .ref y0_34, .int x0_35, .int x0_36, .int x0_37, .ref y0_38, .ref y0_39, .ref y0_40, .ref y0_41, .ref y0_42, .ref y0_43, .int x0_44, .ref y0_45, .ref y0_46, .ref y0_47, .ref y0_48, .int x0_49, .int x0_50])), (h1, .inl (G.2.1, 121, .inl a1)), (h2, .inl (G.2.1, 2, .inl a2))]
set_option maxHeartbeats 4000000 in
set_option maxRecDepth 100000 in
theorem c_X11_isRight (l : Launch) (G : GG) (h0 h1 h2 y0_2 y0_3 y0_4 y0_6 y0_18 y0_21 y0_22 y0_23 y0_24 y0_25 y0_26 y0_33 y0_34 y0_38 y0_39 y0_40 y0_41 y0_42 y0_43 y0_45 y0_46 y0_47 y0_48 : Nat) (sz : Nat) (x0_5 : Int32) (x0_7 : Int32) (x0_8 : Int32) (x0_9 : Int32) (x0_10 : Int32) (x0_11 : Int32) (x0_12 : Int32) (x0_13 : Int32) (x0_14 : Int32) (x0_15 : Int32) (x0_16 : Int32) (x0_17 : Int32) (x0_19 : Int32) (x0_20 : Int32) (x0_27 : Int32) (x0_28 : Int32) (x0_29 : Int32) (x0_30 : Int32) (x0_31 : Int32) (x0_32 : Int32) (x0_35 : Int32) (x0_36 : Int32) (x0_37 : Int32) (x0_44 : Int32) (x0_49 : Int32) (x0_50 : Int32) (a1 : Nat → Int32) (a2 : Nat → Int32) (F : Nat) (b1 : Int32)  (r0 : Int32) (hf : p_X11_isRight F x0_5 x0_31 x0_32 a1 a2 b1 = some r0) : Met l yX11_isRight (.code yX11_isRight cX11_isRight 2 (some .boolean) :: gtbl) ({ frames := 2, cells := 0, slots := 0, locals := 44 } : Room) (PcS G [.ref h0, .int b1] (wW_X11_isRight G h0 h1 h2 y0_2 y0_3 y0_4 y0_6 y0_18 y0_21 y0_22 y0_23 y0_24 y0_25 y0_26 y0_33 y0_34 y0_38 y0_39 y0_40 y0_41 y0_42 y0_43 y0_45 y0_46 y0_47 y0_48 x0_5 x0_7 x0_8 x0_9 x0_10 x0_11 x0_12 x0_13 x0_14 x0_15 x0_16 x0_17 x0_19 x0_20 x0_27 x0_28 x0_29 x0_30 x0_31 x0_32 x0_35 x0_36 x0_37 x0_44 x0_49 x0_50 a1 a2) sz) (QiS G r0 (va_A (wW_X11_isRight G h0 h1 h2 y0_2 y0_3 y0_4 y0_6 y0_18 y0_21 y0_22 y0_23 y0_24 y0_25 y0_26 y0_33 y0_34 y0_38 y0_39 y0_40 y0_41 y0_42 y0_43 y0_45 y0_46 y0_47 y0_48 x0_5 x0_7 x0_8 x0_9 x0_10 x0_11 x0_12 x0_13 x0_14 x0_15 x0_16 x0_17 x0_19 x0_20 x0_27 x0_28 x0_29 x0_30 x0_31 x0_32 x0_35 x0_36 x0_37 x0_44 x0_49 x0_50 a1 a2) sz) (wW_X11_isRight G h0 h1 h2 y0_2 y0_3 y0_4 y0_6 y0_18 y0_21 y0_22 y0_23 y0_24 y0_25 y0_26 y0_33 y0_34 y0_38 y0_39 y0_40 y0_41 y0_42 y0_43 y0_45 y0_46 y0_47 y0_48 x0_5 x0_7 x0_8 x0_9 x0_10 x0_11 x0_12 x0_13 x0_14 x0_15 x0_16 x0_17 x0_19 x0_20 x0_27 x0_28 x0_29 x0_30 x0_31 x0_32 x0_35 x0_36 x0_37 x0_44 x0_49 x0_50 a1 a2)) 0 0 (va_A (wW_X11_isRight G h0 h1 h2 y0_2 y0_3 y0_4 y0_6 y0_18 y0_21 y0_22 y0_23 y0_24 y0_25 y0_26 y0_33 y0_34 y0_38 y0_39 y0_40 y0_41 y0_42 y0_43 y0_45 y0_46 y0_47 y0_48 x0_5 x0_7 x0_8 x0_9 x0_10 x0_11 x0_12 x0_13 x0_14 x0_15 x0_16 x0_17 x0_19 x0_20 x0_27 x0_28 x0_29 x0_30 x0_31 x0_32 x0_35 x0_36 x0_37 x0_44 x0_49 x0_50 a1 a2) sz) := by
  refine met_start (by decide) (Nat.le_of_ble_eq_true rfl) ?_
  intro p e s m below meth c hC hr hlk hnm hK hP hD hA hS hX ls hl
  obtain ⟨hx, hb, hml, hown, ht0⟩ := hC
  have hown : s.vm.findClass RX11 = some m.cls := hown
  generalize va_A (wW_X11_isRight G h0 h1 h2 y0_2 y0_3 y0_4 y0_6 y0_18 y0_21 y0_22 y0_23 y0_24 y0_25 y0_26 y0_33 y0_34 y0_38 y0_39 y0_40 y0_41 y0_42 y0_43 y0_45 y0_46 y0_47 y0_48 x0_5 x0_7 x0_8 x0_9 x0_10 x0_11 x0_12 x0_13 x0_14 x0_15 x0_16 x0_17 x0_19 x0_20 x0_27 x0_28 x0_29 x0_30 x0_31 x0_32 x0_35 x0_36 x0_37 x0_44 x0_49 x0_50 a1 a2) sz = A at hD hA hS hX ⊢
  have hl : lv_has ls 2 [(0, .ref h0), (1, .int b1)] := hl
  have hf : p_X11_isRight F x0_5 x0_31 x0_32 a1 a2 b1 = some r0 := hf
  refine lv_aload_n hx hb dX11_isRight_0 rfl (lv_at hl 0 rfl) ?_
  refine va_get (ci := 11) (v := .int x0_31) (C := RX11) (T := TX11) (N := 51) hx hb ht0 iX11 hown hK hP 0 rfl rfl 31 (by decide) (ht0 _ wd_1437) (fun _ h9 => h9) rfl dX11_isRight_1 ?_
  refine lv_aload_n hx hb dX11_isRight_4 rfl (lv_at hl 0 rfl) ?_
  refine va_get (ci := 11) (v := .ref h1) (C := RX11) (T := TX11) (N := 51) hx hb ht0 iX11 hown hK hP 0 rfl rfl 0 (by decide) (ht0 _ wd_1406) (fun _ h9 => h9) rfl dX11_isRight_5 ?_
  refine lv_bipush (v := (65 : Int32)) hx hb dX11_isRight_8 (by decide) ?_
  refine lv_iload_n hx hb dX11_isRight_10 rfl (lv_at hl 1 rfl) ?_
  refine lv_iadd hx hb dX11_isRight_11 ?_
  obtain ⟨g1, hf⟩ := of_grd hf
  refine va_iald hx hb hK hP 1 0 rfl rfl g1 dX11_isRight_12 ?_
  refine lv_icmp_ne (tgt := 40) hx hb dX11_isRight_13 (by decide) (fun c2 => ?_) (fun c2 => ?_)
  · have hf := of_neg hf c2
    refine lv_iconst (v := (0 : Int32)) hx hb dX11_isRight_40 (by decide) ?_
    cases hf
    exact ret_z hx hb hr hlk hK hP hD hS (by decide) dX11_isRight_41
  · have hf := of_pos hf c2
    refine lv_aload_n hx hb dX11_isRight_16 rfl (lv_at hl 0 rfl) ?_
    refine va_get (ci := 11) (v := .int x0_32) (C := RX11) (T := TX11) (N := 51) hx hb ht0 iX11 hown hK hP 0 rfl rfl 32 (by decide) (ht0 _ wd_1438) (fun _ h9 => h9) rfl dX11_isRight_17 ?_
    refine lv_aload_n hx hb dX11_isRight_20 rfl (lv_at hl 0 rfl) ?_
    refine lv_aload_n hx hb dX11_isRight_21 rfl (lv_at hl 0 rfl) ?_
    refine va_get (ci := 11) (v := .ref h1) (C := RX11) (T := TX11) (N := 51) hx hb ht0 iX11 hown hK hP 0 rfl rfl 0 (by decide) (ht0 _ wd_1406) (fun _ h9 => h9) rfl dX11_isRight_22 ?_
    refine lv_bipush (v := (65 : Int32)) hx hb dX11_isRight_25 (by decide) ?_
    refine lv_iload_n hx hb dX11_isRight_27 rfl (lv_at hl 1 rfl) ?_
    refine lv_iadd hx hb dX11_isRight_28 ?_
    obtain ⟨g3, hf⟩ := of_grd hf
    refine va_iald hx hb hK hP 1 0 rfl rfl g3 dX11_isRight_29 ?_
    obtain ⟨r_30_3, hc_r_30_3, hf⟩ := of_bnd hf
    refine cl_Vi (w2 := (wW_X11_isRight G h0 h1 h2 y0_2 y0_3 y0_4 y0_6 y0_18 y0_21 y0_22 y0_23 y0_24 y0_25 y0_26 y0_33 y0_34 y0_38 y0_39 y0_40 y0_41 y0_42 y0_43 y0_45 y0_46 y0_47 y0_48 x0_5 x0_7 x0_8 x0_9 x0_10 x0_11 x0_12 x0_13 x0_14 x0_15 x0_16 x0_17 x0_19 x0_20 x0_27 x0_28 x0_29 x0_30 x0_31 x0_32 x0_35 x0_36 x0_37 x0_44 x0_49 x0_50 a1 a2)) (As := [.int (a1 ((65 : Int32) + b1).toNatClampNeg)]) (rest := [.int x0_32]) ⟨hx, hb, hml, hown, ht0⟩ (c_X11_checksOf l G h0 h1 h2 y0_2 y0_3 y0_4 y0_6 y0_18 y0_21 y0_22 y0_23 y0_24 y0_25 y0_26 y0_33 y0_34 y0_38 y0_39 y0_40 y0_41 y0_42 y0_43 y0_45 y0_46 y0_47 y0_48 _ x0_5 x0_7 x0_8 x0_9 x0_10 x0_11 x0_12 x0_13 x0_14 x0_15 x0_16 x0_17 x0_19 x0_20 x0_27 x0_28 x0_29 x0_30 x0_31 x0_32 x0_35 x0_36 x0_37 x0_44 x0_49 x0_50 a1 a2 F (a1 ((65 : Int32) + b1).toNatClampNeg) _ hc_r_30_3) yk_X11_checksOf wd_1394 ⟨rfl, rfl, by decide, by decide⟩ ⟨Nat.le_refl _, Nat.le_refl _⟩ hX hK hP hD hS hA [0, 1, 2] [] [0, 1, 2] (va_recv hK hP (ci := 11) (q0 := 0) rfl rfl) rfl rfl (by decide) rfl rfl rfl rfl rfl hl.1 rfl (Nat.le_of_ble_eq_true rfl) dX11_isRight_30 (fun H locs hP hD hS => ?_)
    refine lv_icmp_ne (tgt := 40) hx hb dX11_isRight_33 (by decide) (fun c5 => ?_) (fun c5 => ?_)
    · have hf := of_neg hf c5
      refine lv_iconst (v := (0 : Int32)) hx hb dX11_isRight_40 (by decide) ?_
      cases hf
      exact ret_z hx hb hr hlk hK hP hD hS (by decide) dX11_isRight_41
    · have hf := of_pos hf c5
      refine lv_iconst (v := (1 : Int32)) hx hb dX11_isRight_36 (by decide) ?_
      refine lv_goto (tgt := 41) hx hb dX11_isRight_37 (by decide) ?_
      cases hf
      exact ret_z hx hb hr hlk hK hP hD hS (by decide) dX11_isRight_41
theorem yk_X11_isRight : ykV yX11_isRight RX11 cX11_isRight 2 (some .boolean) 1 := ⟨wd_1669, wd_90, wd_142, wd_1670, rfl, by decide +kernel, by decide +kernel, by decide +kernel⟩
theorem dX11_tallies_0 : decode cX11_tallies 0 = .ok (.aload_n 0, 1) := by decide +kernel
theorem dX11_tallies_1 : decode cX11_tallies 1 = .ok (.getfield 7, 3) := by decide +kernel
theorem dX11_tallies_4 : decode cX11_tallies 4 = .ok (.bipush 113, 2) := by decide +kernel
theorem dX11_tallies_6 : decode cX11_tallies 6 = .ok (.aload_n 0, 1) := by decide +kernel
theorem dX11_tallies_7 : decode cX11_tallies 7 = .ok (.getfield 296, 3) := by decide +kernel
theorem dX11_tallies_10 : decode cX11_tallies 10 = .ok (.iadd, 1) := by decide +kernel
theorem dX11_tallies_11 : decode cX11_tallies 11 = .ok (.dup2, 1) := by decide +kernel
theorem dX11_tallies_12 : decode cX11_tallies 12 = .ok (.iaload, 1) := by decide +kernel
theorem dX11_tallies_13 : decode cX11_tallies 13 = .ok (.iconst 1, 1) := by decide +kernel
theorem dX11_tallies_14 : decode cX11_tallies 14 = .ok (.iadd, 1) := by decide +kernel
theorem dX11_tallies_15 : decode cX11_tallies 15 = .ok (.iastore, 1) := by decide +kernel
theorem dX11_tallies_16 : decode cX11_tallies 16 = .ok (.aload_n 0, 1) := by decide +kernel
theorem dX11_tallies_17 : decode cX11_tallies 17 = .ok (.invokevirtual 323, 3) := by decide +kernel
theorem dX11_tallies_20 : decode cX11_tallies 20 = .ok (.ifCond .ne 22, 3) := by decide +kernel
theorem dX11_tallies_23 : decode cX11_tallies 23 = .ok (.aload_n 0, 1) := by decide +kernel
theorem dX11_tallies_24 : decode cX11_tallies 24 = .ok (.iload_n 1, 1) := by decide +kernel
theorem dX11_tallies_25 : decode cX11_tallies 25 = .ok (.invokevirtual 326, 3) := by decide +kernel
theorem dX11_tallies_28 : decode cX11_tallies 28 = .ok (.ifCond .ne 14, 3) := by decide +kernel
theorem dX11_tallies_31 : decode cX11_tallies 31 = .ok (.aload_n 0, 1) := by decide +kernel
theorem dX11_tallies_32 : decode cX11_tallies 32 = .ok (.getfield 7, 3) := by decide +kernel
theorem dX11_tallies_35 : decode cX11_tallies 35 = .ok (.bipush 119, 2) := by decide +kernel
theorem dX11_tallies_37 : decode cX11_tallies 37 = .ok (.dup2, 1) := by decide +kernel
theorem dX11_tallies_38 : decode cX11_tallies 38 = .ok (.iaload, 1) := by decide +kernel
theorem dX11_tallies_39 : decode cX11_tallies 39 = .ok (.iconst 1, 1) := by decide +kernel
theorem dX11_tallies_40 : decode cX11_tallies 40 = .ok (.iadd, 1) := by decide +kernel
theorem dX11_tallies_41 : decode cX11_tallies 41 = .ok (.iastore, 1) := by decide +kernel
theorem dX11_tallies_42 : decode cX11_tallies 42 = .ok (.return_, 1) := by decide +kernel
def wW_X11_tallies (G : GG) (h0 h1 h2 y0_2 y0_3 y0_4 y0_6 y0_18 y0_21 y0_22 y0_23 y0_24 y0_25 y0_26 y0_33 y0_34 y0_38 y0_39 y0_40 y0_41 y0_42 y0_43 y0_45 y0_46 y0_47 y0_48 : Nat) (x0_5 : Int32) (x0_7 : Int32) (x0_8 : Int32) (x0_9 : Int32) (x0_10 : Int32) (x0_11 : Int32) (x0_12 : Int32) (x0_13 : Int32) (x0_14 : Int32) (x0_15 : Int32) (x0_16 : Int32) (x0_17 : Int32) (x0_19 : Int32) (x0_20 : Int32) (x0_27 : Int32) (x0_28 : Int32) (x0_29 : Int32) (x0_30 : Int32) (x0_31 : Int32) (x0_32 : Int32) (x0_35 : Int32) (x0_36 : Int32) (x0_37 : Int32) (x0_44 : Int32) (x0_49 : Int32) (x0_50 : Int32) (a1 : Nat → Int32) (a2 : Nat → Int32) : va_W := [(h0, .inr (11, [.ref h1, .ref h2, .ref y0_2, .ref y0_3, .ref y0_4, .int x0_5, .ref y0_6, .int x0_7, .int x0_8, .int x0_9, .int x0_10, .int x0_11, .int x0_12, .int x0_13, .int x0_14, .int x0_15, .int x0_16, .int x0_17, .ref y0_18, .int x0_19, .int x0_20, .ref y0_21, .ref y0_22, .ref y0_23, .ref y0_24, .ref y0_25, .ref y0_26, .int x0_27, .int x0_28, .int x0_29, .int x0_30, .int x0_31, .int x0_32, .ref y0_33, .ref y0_34, .int x0_35, .int x0_36, .int x0_37, .ref y0_38, .ref y0_39, .ref y0_40, .ref y0_41, .ref y0_42, .ref y0_43, .int x0_44, .ref y0_45, .ref y0_46, .ref y0_47, .ref y0_48, .int x0_49, .int x0_50])), (h1, .inl (G.2.1, 121, .inl a1)), (h2, .inl (G.2.1, 2, .inl a2))]
set_option maxHeartbeats 4000000 in
set_option maxRecDepth 100000 in
theorem c_X11_tallies (l : Launch) (G : GG) (h0 h1 h2 y0_2 y0_3 y0_4 y0_6 y0_18 y0_21 y0_22 y0_23 y0_24 y0_25 y0_26 y0_33 y0_34 y0_38 y0_39 y0_40 y0_41 y0_42 y0_43 y0_45 y0_46 y0_47 y0_48 : Nat) (sz : Nat) (x0_5 : Int32) (x0_7 : Int32) (x0_8 : Int32) (x0_9 : Int32) (x0_10 : Int32) (x0_11 : Int32) (x0_12 : Int32) (x0_13 : Int32) (x0_14 : Int32) (x0_15 : Int32) (x0_16 : Int32) (x0_17 : Int32) (x0_19 : Int32) (x0_20 : Int32) (x0_27 : Int32) (x0_28 : Int32) (x0_29 : Int32) (x0_30 : Int32) (x0_31 : Int32) (x0_32 : Int32) (x0_35 : Int32) (x0_36 : Int32) (x0_37 : Int32) (x0_44 : Int32) (x0_49 : Int32) (x0_50 : Int32) (a1 : Nat → Int32) (a2 : Nat → Int32) (F : Nat) (b1 : Int32)  (e_a1 : Nat → Int32) (hf : p_X11_tallies F x0_5 x0_29 x0_31 x0_32 a1 a2 b1 = some e_a1) : Met l yX11_tallies (.code yX11_tallies cX11_tallies 2 none :: gtbl) ({ frames := 3, cells := 0, slots := 0, locals := 65 } : Room) (PcS G [.ref h0, .int b1] (wW_X11_tallies G h0 h1 h2 y0_2 y0_3 y0_4 y0_6 y0_18 y0_21 y0_22 y0_23 y0_24 y0_25 y0_26 y0_33 y0_34 y0_38 y0_39 y0_40 y0_41 y0_42 y0_43 y0_45 y0_46 y0_47 y0_48 x0_5 x0_7 x0_8 x0_9 x0_10 x0_11 x0_12 x0_13 x0_14 x0_15 x0_16 x0_17 x0_19 x0_20 x0_27 x0_28 x0_29 x0_30 x0_31 x0_32 x0_35 x0_36 x0_37 x0_44 x0_49 x0_50 a1 a2) sz) (QvS G (va_A (wW_X11_tallies G h0 h1 h2 y0_2 y0_3 y0_4 y0_6 y0_18 y0_21 y0_22 y0_23 y0_24 y0_25 y0_26 y0_33 y0_34 y0_38 y0_39 y0_40 y0_41 y0_42 y0_43 y0_45 y0_46 y0_47 y0_48 x0_5 x0_7 x0_8 x0_9 x0_10 x0_11 x0_12 x0_13 x0_14 x0_15 x0_16 x0_17 x0_19 x0_20 x0_27 x0_28 x0_29 x0_30 x0_31 x0_32 x0_35 x0_36 x0_37 x0_44 x0_49 x0_50 a1 a2) sz) (wW_X11_tallies G h0 h1 h2 y0_2 y0_3 y0_4 y0_6 y0_18 y0_21 y0_22 y0_23 y0_24 y0_25 y0_26 y0_33 y0_34 y0_38 y0_39 y0_40 y0_41 y0_42 y0_43 y0_45 y0_46 y0_47 y0_48 x0_5 x0_7 x0_8 x0_9 x0_10 x0_11 x0_12 x0_13 x0_14 x0_15 x0_16 x0_17 x0_19 x0_20 x0_27 x0_28 x0_29 x0_30 x0_31 x0_32 x0_35 x0_36 x0_37 x0_44 x0_49 x0_50 e_a1 a2)) 0 0 (va_A (wW_X11_tallies G h0 h1 h2 y0_2 y0_3 y0_4 y0_6 y0_18 y0_21 y0_22 y0_23 y0_24 y0_25 y0_26 y0_33 y0_34 y0_38 y0_39 y0_40 y0_41 y0_42 y0_43 y0_45 y0_46 y0_47 y0_48 x0_5 x0_7 x0_8 x0_9 x0_10 x0_11 x0_12 x0_13 x0_14 x0_15 x0_16 x0_17 x0_19 x0_20 x0_27 x0_28 x0_29 x0_30 x0_31 x0_32 x0_35 x0_36 x0_37 x0_44 x0_49 x0_50 a1 a2) sz) := by
  refine met_start (by decide) (Nat.le_of_ble_eq_true rfl) ?_
  intro p e s m below meth c hC hr hlk hnm hK hP hD hA hS hX ls hl
  obtain ⟨hx, hb, hml, hown, ht0⟩ := hC
  have hown : s.vm.findClass RX11 = some m.cls := hown
  generalize va_A (wW_X11_tallies G h0 h1 h2 y0_2 y0_3 y0_4 y0_6 y0_18 y0_21 y0_22 y0_23 y0_24 y0_25 y0_26 y0_33 y0_34 y0_38 y0_39 y0_40 y0_41 y0_42 y0_43 y0_45 y0_46 y0_47 y0_48 x0_5 x0_7 x0_8 x0_9 x0_10 x0_11 x0_12 x0_13 x0_14 x0_15 x0_16 x0_17 x0_19 x0_20 x0_27 x0_28 x0_29 x0_30 x0_31 x0_32 x0_35 x0_36 x0_37 x0_44 x0_49 x0_50 a1 a2) sz = A at hD hA hS hX ⊢
  have hl : lv_has ls 2 [(0, .ref h0), (1, .int b1)] := hl
  have hf : p_X11_tallies F x0_5 x0_29 x0_31 x0_32 a1 a2 b1 = some e_a1 := hf
  refine lv_aload_n hx hb dX11_tallies_0 rfl (lv_at hl 0 rfl) ?_
  refine va_get (ci := 11) (v := .ref h1) (C := RX11) (T := TX11) (N := 51) hx hb ht0 iX11 hown hK hP 0 rfl rfl 0 (by decide) (ht0 _ wd_1406) (fun _ h9 => h9) rfl dX11_tallies_1 ?_
  refine lv_bipush (v := (113 : Int32)) hx hb dX11_tallies_4 (by decide) ?_
  refine lv_aload_n hx hb dX11_tallies_6 rfl (lv_at hl 0 rfl) ?_
  refine va_get (ci := 11) (v := .int x0_29) (C := RX11) (T := TX11) (N := 51) hx hb ht0 iX11 hown hK hP 0 rfl rfl 29 (by decide) (ht0 _ wd_1435) (fun _ h9 => h9) rfl dX11_tallies_7 ?_
  refine lv_iadd hx hb dX11_tallies_10 ?_
  refine lv_dup2_11 hx hb dX11_tallies_11 rfl rfl ?_
  obtain ⟨g1, hf⟩ := of_grd hf
  refine va_iald hx hb hK hP 1 0 rfl rfl g1 dX11_tallies_12 ?_
  refine lv_iconst (v := (1 : Int32)) hx hb dX11_tallies_13 (by decide) ?_
  refine lv_iadd hx hb dX11_tallies_14 ?_
  obtain ⟨g2, hf⟩ := of_grd hf
  refine va_iast hx hb hK hP hD hS 1 0 rfl rfl g2 dX11_tallies_15 (fun H locs hP hD hS => ?_)
  have hP : va_P G.1 vwCl (wW_X11_tallies G h0 h1 h2 y0_2 y0_3 y0_4 y0_6 y0_18 y0_21 y0_22 y0_23 y0_24 y0_25 y0_26 y0_33 y0_34 y0_38 y0_39 y0_40 y0_41 y0_42 y0_43 y0_45 y0_46 y0_47 y0_48 x0_5 x0_7 x0_8 x0_9 x0_10 x0_11 x0_12 x0_13 x0_14 x0_15 x0_16 x0_17 x0_19 x0_20 x0_27 x0_28 x0_29 x0_30 x0_31 x0_32 x0_35 x0_36 x0_37 x0_44 x0_49 x0_50 (upd a1 ((113 : Int32) + x0_29).toNatClampNeg ((a1 ((113 : Int32) + x0_29).toNatClampNeg) + (1 : Int32))) a2) H := hP
  have hD : va_D A (wW_X11_tallies G h0 h1 h2 y0_2 y0_3 y0_4 y0_6 y0_18 y0_21 y0_22 y0_23 y0_24 y0_25 y0_26 y0_33 y0_34 y0_38 y0_39 y0_40 y0_41 y0_42 y0_43 y0_45 y0_46 y0_47 y0_48 x0_5 x0_7 x0_8 x0_9 x0_10 x0_11 x0_12 x0_13 x0_14 x0_15 x0_16 x0_17 x0_19 x0_20 x0_27 x0_28 x0_29 x0_30 x0_31 x0_32 x0_35 x0_36 x0_37 x0_44 x0_49 x0_50 (upd a1 ((113 : Int32) + x0_29).toNatClampNeg ((a1 ((113 : Int32) + x0_29).toNatClampNeg) + (1 : Int32))) a2) := hD
  refine lv_aload_n hx hb dX11_tallies_16 rfl (lv_at hl 0 rfl) ?_
  obtain ⟨r_17_2, hc_r_17_2, hf⟩ := of_bnd hf
  refine cl_Vi (w2 := (wW_X11_tallies G h0 h1 h2 y0_2 y0_3 y0_4 y0_6 y0_18 y0_21 y0_22 y0_23 y0_24 y0_25 y0_26 y0_33 y0_34 y0_38 y0_39 y0_40 y0_41 y0_42 y0_43 y0_45 y0_46 y0_47 y0_48 x0_5 x0_7 x0_8 x0_9 x0_10 x0_11 x0_12 x0_13 x0_14 x0_15 x0_16 x0_17 x0_19 x0_20 x0_27 x0_28 x0_29 x0_30 x0_31 x0_32 x0_35 x0_36 x0_37 x0_44 x0_49 x0_50 (upd a1 ((113 : Int32) + x0_29).toNatClampNeg ((a1 ((113 : Int32) + x0_29).toNatClampNeg) + (1 : Int32))) a2)) (As := []) (rest := []) ⟨hx, hb, hml, hown, ht0⟩ (c_X11_isTold l G h0 h1 h2 y0_2 y0_3 y0_4 y0_6 y0_18 y0_21 y0_22 y0_23 y0_24 y0_25 y0_26 y0_33 y0_34 y0_38 y0_39 y0_40 y0_41 y0_42 y0_43 y0_45 y0_46 y0_47 y0_48 _ x0_5 x0_7 x0_8 x0_9 x0_10 x0_11 x0_12 x0_13 x0_14 x0_15 x0_16 x0_17 x0_19 x0_20 x0_27 x0_28 x0_29 x0_30 x0_31 x0_32 x0_35 x0_36 x0_37 x0_44 x0_49 x0_50 F _ hc_r_17_2) yk_X11_isTold wd_1659 ⟨rfl, rfl, by decide, by decide⟩ ⟨Nat.le_refl _, Nat.le_refl _⟩ hX hK hP hD hS hA [0] [1, 2] [2, 0, 1] (va_recv hK hP (ci := 11) (q0 := 0) rfl rfl) rfl rfl (by decide) rfl rfl rfl rfl rfl hl.1 rfl (Nat.le_of_ble_eq_true rfl) dX11_tallies_17 (fun H locs hP hD hS => ?_)
  refine lv_if_ne (tgt := 42) hx hb dX11_tallies_20 (by decide) (fun c4 => ?_) (fun c4 => ?_)
  · have hf := of_neg hf c4
    cases hf
    exact ret_v hx hb hr hlk hK hP hD hS dX11_tallies_42
  · have hf := of_pos hf c4
    refine lv_aload_n hx hb dX11_tallies_23 rfl (lv_at hl 0 rfl) ?_
    refine lv_iload_n hx hb dX11_tallies_24 rfl (lv_at hl 1 rfl) ?_
    obtain ⟨r_25_4, hc_r_25_4, hf⟩ := of_bnd hf
    refine cl_Vi (w2 := (wW_X11_tallies G h0 h1 h2 y0_2 y0_3 y0_4 y0_6 y0_18 y0_21 y0_22 y0_23 y0_24 y0_25 y0_26 y0_33 y0_34 y0_38 y0_39 y0_40 y0_41 y0_42 y0_43 y0_45 y0_46 y0_47 y0_48 x0_5 x0_7 x0_8 x0_9 x0_10 x0_11 x0_12 x0_13 x0_14 x0_15 x0_16 x0_17 x0_19 x0_20 x0_27 x0_28 x0_29 x0_30 x0_31 x0_32 x0_35 x0_36 x0_37 x0_44 x0_49 x0_50 (upd a1 ((113 : Int32) + x0_29).toNatClampNeg ((a1 ((113 : Int32) + x0_29).toNatClampNeg) + (1 : Int32))) a2)) (As := [.int b1]) (rest := []) ⟨hx, hb, hml, hown, ht0⟩ (c_X11_isRight l G h0 h1 h2 y0_2 y0_3 y0_4 y0_6 y0_18 y0_21 y0_22 y0_23 y0_24 y0_25 y0_26 y0_33 y0_34 y0_38 y0_39 y0_40 y0_41 y0_42 y0_43 y0_45 y0_46 y0_47 y0_48 _ x0_5 x0_7 x0_8 x0_9 x0_10 x0_11 x0_12 x0_13 x0_14 x0_15 x0_16 x0_17 x0_19 x0_20 x0_27 x0_28 x0_29 x0_30 x0_31 x0_32 x0_35 x0_36 x0_37 x0_44 x0_49 x0_50 (upd a1 ((113 : Int32) + x0_29).toNatClampNeg ((a1 ((113 : Int32) + x0_29).toNatClampNeg) + (1 : Int32))) a2 F b1 _ hc_r_25_4) yk_X11_isRight wd_1667 ⟨rfl, rfl, by decide, by decide⟩ ⟨Nat.le_refl _, Nat.le_refl _⟩ hX hK hP hD hS hA [0, 1, 2] [] [0, 1, 2] (va_recv hK hP (ci := 11) (q0 := 0) rfl rfl) rfl rfl (by decide) rfl rfl rfl rfl rfl hl.1 rfl (Nat.le_of_ble_eq_true rfl) dX11_tallies_25 (fun H locs hP hD hS => ?_)
    refine lv_if_ne (tgt := 42) hx hb dX11_tallies_28 (by decide) (fun c6 => ?_) (fun c6 => ?_)
    · have hf := of_neg hf c6
      cases hf
      exact ret_v hx hb hr hlk hK hP hD hS dX11_tallies_42
    · have hf := of_pos hf c6
      refine lv_aload_n hx hb dX11_tallies_31 rfl (lv_at hl 0 rfl) ?_
      refine va_get (ci := 11) (v := .ref h1) (C := RX11) (T := TX11) (N := 51) hx hb ht0 iX11 hown hK hP 0 rfl rfl 0 (by decide) (ht0 _ wd_1406) (fun _ h9 => h9) rfl dX11_tallies_32 ?_
      refine lv_bipush (v := (119 : Int32)) hx hb dX11_tallies_35 (by decide) ?_
      refine lv_dup2_11 hx hb dX11_tallies_37 rfl rfl ?_
      refine va_iald hx hb hK hP 1 0 rfl rfl (show ¬ ixBad (119 : Int32) 121 by decide) dX11_tallies_38 ?_
      refine lv_iconst (v := (1 : Int32)) hx hb dX11_tallies_39 (by decide) ?_
      refine lv_iadd hx hb dX11_tallies_40 ?_
      refine va_iast hx hb hK hP hD hS 1 0 rfl rfl (show ¬ ixBad (119 : Int32) 121 by decide) dX11_tallies_41 (fun H locs hP hD hS => ?_)
      have hP : va_P G.1 vwCl (wW_X11_tallies G h0 h1 h2 y0_2 y0_3 y0_4 y0_6 y0_18 y0_21 y0_22 y0_23 y0_24 y0_25 y0_26 y0_33 y0_34 y0_38 y0_39 y0_40 y0_41 y0_42 y0_43 y0_45 y0_46 y0_47 y0_48 x0_5 x0_7 x0_8 x0_9 x0_10 x0_11 x0_12 x0_13 x0_14 x0_15 x0_16 x0_17 x0_19 x0_20 x0_27 x0_28 x0_29 x0_30 x0_31 x0_32 x0_35 x0_36 x0_37 x0_44 x0_49 x0_50 (upd (upd a1 ((113 : Int32) + x0_29).toNatClampNeg ((a1 ((113 : Int32) + x0_29).toNatClampNeg) + (1 : Int32))) (119 : Int32).toNatClampNeg (((upd a1 ((113 : Int32) + x0_29).toNatClampNeg ((a1 ((113 : Int32) + x0_29).toNatClampNeg) + (1 : Int32))) (119 : Int32).toNatClampNeg) + (1 : Int32))) a2) H := hP
      have hD : va_D A (wW_X11_tallies G h0 h1 h2 y0_2 y0_3 y0_4 y0_6 y0_18 y0_21 y0_22 y0_23 y0_24 y0_25 y0_26 y0_33 y0_34 y0_38 y0_39 y0_40 y0_41 y0_42 y0_43 y0_45 y0_46 y0_47 y0_48 x0_5 x0_7 x0_8 x0_9 x0_10 x0_11 x0_12 x0_13 x0_14 x0_15 x0_16 x0_17 x0_19 x0_20 x0_27 x0_28 x0_29 x0_30 x0_31 x0_32 x0_35 x0_36 x0_37 x0_44 x0_49 x0_50 (upd (upd a1 ((113 : Int32) + x0_29).toNatClampNeg ((a1 ((113 : Int32) + x0_29).toNatClampNeg) + (1 : Int32))) (119 : Int32).toNatClampNeg (((upd a1 ((113 : Int32) + x0_29).toNatClampNeg ((a1 ((113 : Int32) + x0_29).toNatClampNeg) + (1 : Int32))) (119 : Int32).toNatClampNeg) + (1 : Int32))) a2) := hD
      cases hf
      exact ret_v hx hb hr hlk hK hP hD hS dX11_tallies_42
theorem yk_X11_tallies : ykV yX11_tallies RX11 cX11_tallies 2 none 1 := ⟨wd_1665, wd_89, wd_142, wd_1666, rfl, by decide +kernel, by decide +kernel, by decide +kernel⟩
theorem dX11_mendNow_0 : decode cX11_mendNow 0 = .ok (.aload_n 0, 1) := by decide +kernel
theorem dX11_mendNow_1 : decode cX11_mendNow 1 = .ok (.iload_n 1, 1) := by decide +kernel
theorem dX11_mendNow_2 : decode cX11_mendNow 2 = .ok (.invokevirtual 329, 3) := by decide +kernel
theorem dX11_mendNow_5 : decode cX11_mendNow 5 = .ok (.aload_n 0, 1) := by decide +kernel
theorem dX11_mendNow_6 : decode cX11_mendNow 6 = .ok (.iload_n 1, 1) := by decide +kernel
theorem dX11_mendNow_7 : decode cX11_mendNow 7 = .ok (.invokevirtual 332, 3) := by decide +kernel
theorem dX11_mendNow_10 : decode cX11_mendNow 10 = .ok (.aload_n 0, 1) := by decide +kernel
theorem dX11_mendNow_11 : decode cX11_mendNow 11 = .ok (.getfield 296, 3) := by decide +kernel
theorem dX11_mendNow_14 : decode cX11_mendNow 14 = .ok (.istore_n 2, 1) := by decide +kernel
theorem dX11_mendNow_15 : decode cX11_mendNow 15 = .ok (.aload_n 0, 1) := by decide +kernel
theorem dX11_mendNow_16 : decode cX11_mendNow 16 = .ok (.invokevirtual 323, 3) := by decide +kernel
theorem dX11_mendNow_19 : decode cX11_mendNow 19 = .ok (.ifCond .ne 16, 3) := by decide +kernel
theorem dX11_mendNow_22 : decode cX11_mendNow 22 = .ok (.aload_n 0, 1) := by decide +kernel
theorem dX11_mendNow_23 : decode cX11_mendNow 23 = .ok (.iload_n 1, 1) := by decide +kernel
theorem dX11_mendNow_24 : decode cX11_mendNow 24 = .ok (.aload_n 0, 1) := by decide +kernel
theorem dX11_mendNow_25 : decode cX11_mendNow 25 = .ok (.getfield 290, 3) := by decide +kernel
theorem dX11_mendNow_28 : decode cX11_mendNow 28 = .ok (.aload_n 0, 1) := by decide +kernel
theorem dX11_mendNow_29 : decode cX11_mendNow 29 = .ok (.getfield 293, 3) := by decide +kernel
theorem dX11_mendNow_32 : decode cX11_mendNow 32 = .ok (.invokevirtual 284, 3) := by decide +kernel
theorem dX11_mendNow_35 : decode cX11_mendNow 35 = .ok (.iload_n 2, 1) := by decide +kernel
theorem dX11_mendNow_36 : decode cX11_mendNow 36 = .ok (.ireturn, 1) := by decide +kernel
def wW_X11_mendNow (G : GG) (h0 h1 h2 h3 y0_3 y0_4 y0_6 y0_18 y0_21 y0_22 y0_23 y0_24 y0_25 y0_26 y0_33 y0_34 y0_38 y0_39 y0_40 y0_41 y0_42 y0_43 y0_45 y0_46 y0_47 y0_48 : Nat) (x0_5 : Int32) (x0_7 : Int32) (x0_8 : Int32) (x0_9 : Int32) (x0_10 : Int32) (x0_11 : Int32) (x0_12 : Int32) (x0_13 : Int32) (x0_14 : Int32) (x0_15 : Int32) (x0_16 : Int32) (x0_17 : Int32) (x0_19 : Int32) (x0_20 : Int32) (x0_27 : Int32) (x0_28 : Int32) (x0_29 : Int32) (x0_30 : Int32) (x0_31 : Int32) (x0_32 : Int32) (x0_35 : Int32) (x0_36 : Int32) (x0_37 : Int32) (x0_44 : Int32) (x0_49 : Int32) (x0_50 : Int32) (a1 : Nat → Int32) (a2 : Nat → Int32) (a3 : Nat → Int32) : va_W := [(h0, .inr (11, [.ref h1, .ref h2, .ref h3, .ref y0_3, .ref y0_4, .int x0_5, .ref y0_6, .int x0_7, .int x0_8, .int x0_9, .int x0_10, .int x0_11, .int x0_12, .int x0_13, .int x0_14, .int x0_15, .int x0_16, .int x0_17, .ref y0_18, .int x0_19, .int x0_20, .ref y0_21, .ref y0_22, .ref y0_23, .ref y0_24, .ref y0_25, .ref y0_26, .int x0_27, .int x0_28, .int x0_29, .int x0_30, .int x0_31, .int x0_32, .ref y0_33, .ref y0_34, .int x0_35, .int x0_36, .int x0_37, .ref y0_38, .ref y0_39, .ref y0_40, .ref y0_41, .ref y0_42, .ref y0_43, .int x0_44, .ref y0_45, .ref y0_46, .ref y0_47, .ref y0_48, .int x0_49, .int x0_50])), (h1, .inl (G.2.1, 121, .inl a1)), (h2, .inl (G.2.1, 2, .inl a2)), (h3, .inl (G.2.1, 2, .inl a3))]
set_option maxHeartbeats 4000000 in
set_option maxRecDepth 100000 in
theorem c_X11_mendNow (l : Launch) (G : GG) (h0 h1 h2 h3 y0_3 y0_4 y0_6 y0_18 y0_21 y0_22 y0_23 y0_24 y0_25 y0_26 y0_33 y0_34 y0_38 y0_39 y0_40 y0_41 y0_42 y0_43 y0_45 y0_46 y0_47 y0_48 : Nat) (sz : Nat) (x0_5 : Int32) (x0_7 : Int32) (x0_8 : Int32) (x0_9 : Int32) (x0_10 : Int32) (x0_11 : Int32) (x0_12 : Int32) (x0_13 : Int32) (x0_14 : Int32) (x0_15 : Int32) (x0_16 : Int32) (x0_17 : Int32) (x0_19 : Int32) (x0_20 : Int32) (x0_27 : Int32) (x0_28 : Int32) (x0_29 : Int32) (x0_30 : Int32) (x0_31 : Int32) (x0_32 : Int32) (x0_35 : Int32) (x0_36 : Int32) (x0_37 : Int32) (x0_44 : Int32) (x0_49 : Int32) (x0_50 : Int32) (a1 : Nat → Int32) (a2 : Nat → Int32) (a3 : Nat → Int32) (F : Nat) (b1 : Int32)  (r0 : Int32) (e_x0_29 : Int32) (e_x0_30 : Int32) (e_x0_31 : Int32) (e_x0_32 : Int32) (e_a1 : Nat → Int32) (hf : p_X11_mendNow F x0_5 x0_29 x0_30 x0_31 x0_32 a1 a2 a3 b1 = some (r0, e_x0_29, e_x0_30, e_x0_31, e_x0_32, e_a1)) : Met l yX11_mendNow (.code yX11_mendNow cX11_mendNow 3 (some .int) :: gtbl) ({ frames := 7, cells := 0, slots := 0, locals := 163 } : Room) (PcS G [.ref h0, .int b1] (wW_X11_mendNow G h0 h1 h2 h3 y0_3 y0_4 y0_6 y0_18 y0_21 y0_22 y0_23 y0_24 y0_25 y0_26 y0_33 y0_34 y0_38 y0_39 y0_40 y0_41 y0_42 y0_43 y0_45 y0_46 y0_47 y0_48 x0_5 x0_7 x0_8 x0_9 x0_10 x0_11 x0_12 x0_13 x0_14 x0_15 x0_16 x0_17 x0_19 x0_20 x0_27 x0_28 x0_29 x0_30 x0_31 x0_32 x0_35 x0_36 x0_37 x0_44 x0_49 x0_50 a1 a2 a3) sz) (QiS G r0 (va_A (wW_X11_mendNow G h0 h1 h2 h3 y0_3 y0_4 y0_6 y0_18 y0_21 y0_22 y0_23 y0_24 y0_25 y0_26 y0_33 y0_34 y0_38 y0_39 y0_40 y0_41 y0_42 y0_43 y0_45 y0_46 y0_47 y0_48 x0_5 x0_7 x0_8 x0_9 x0_10 x0_11 x0_12 x0_13 x0_14 x0_15 x0_16 x0_17 x0_19 x0_20 x0_27 x0_28 x0_29 x0_30 x0_31 x0_32 x0_35 x0_36 x0_37 x0_44 x0_49 x0_50 a1 a2 a3) sz) (wW_X11_mendNow G h0 h1 h2 h3 y0_3 y0_4 y0_6 y0_18 y0_21 y0_22 y0_23 y0_24 y0_25 y0_26 y0_33 y0_34 y0_38 y0_39 y0_40 y0_41 y0_42 y0_43 y0_45 y0_46 y0_47 y0_48 x0_5 x0_7 x0_8 x0_9 x0_10 x0_11 x0_12 x0_13 x0_14 x0_15 x0_16 x0_17 x0_19 x0_20 x0_27 x0_28 e_x0_29 e_x0_30 e_x0_31 e_x0_32 x0_35 x0_36 x0_37 x0_44 x0_49 x0_50 e_a1 a2 a3)) 0 0 (va_A (wW_X11_mendNow G h0 h1 h2 h3 y0_3 y0_4 y0_6 y0_18 y0_21 y0_22 y0_23 y0_24 y0_25 y0_26 y0_33 y0_34 y0_38 y0_39 y0_40 y0_41 y0_42 y0_43 y0_45 y0_46 y0_47 y0_48 x0_5 x0_7 x0_8 x0_9 x0_10 x0_11 x0_12 x0_13 x0_14 x0_15 x0_16 x0_17 x0_19 x0_20 x0_27 x0_28 x0_29 x0_30 x0_31 x0_32 x0_35 x0_36 x0_37 x0_44 x0_49 x0_50 a1 a2 a3) sz) := by
  refine met_start (by decide) (Nat.le_of_ble_eq_true rfl) ?_
  intro p e s m below meth c hC hr hlk hnm hK hP hD hA hS hX ls hl
  obtain ⟨hx, hb, hml, hown, ht0⟩ := hC
  have hown : s.vm.findClass RX11 = some m.cls := hown
  generalize va_A (wW_X11_mendNow G h0 h1 h2 h3 y0_3 y0_4 y0_6 y0_18 y0_21 y0_22 y0_23 y0_24 y0_25 y0_26 y0_33 y0_34 y0_38 y0_39 y0_40 y0_41 y0_42 y0_43 y0_45 y0_46 y0_47 y0_48 x0_5 x0_7 x0_8 x0_9 x0_10 x0_11 x0_12 x0_13 x0_14 x0_15 x0_16 x0_17 x0_19 x0_20 x0_27 x0_28 x0_29 x0_30 x0_31 x0_32 x0_35 x0_36 x0_37 x0_44 x0_49 x0_50 a1 a2 a3) sz = A at hD hA hS hX ⊢
  have hl : lv_has ls 3 [(0, .ref h0), (1, .int b1)] := hl
  have hf : p_X11_mendNow F x0_5 x0_29 x0_30 x0_31 x0_32 a1 a2 a3 b1 = some (r0, e_x0_29, e_x0_30, e_x0_31, e_x0_32, e_a1) := hf
  refine lv_aload_n hx hb dX11_mendNow_0 rfl (lv_at hl 0 rfl) ?_
  refine lv_iload_n hx hb dX11_mendNow_1 rfl (lv_at hl 1 rfl) ?_
  obtain ⟨⟨r_2_0_x0_29, r_2_0_x0_30, r_2_0_x0_31, r_2_0_x0_32⟩, hc_r_2_0, hf⟩ := of_bnd hf
  refine cl_Vv (w2 := (wW_X11_mendNow G h0 h1 h2 h3 y0_3 y0_4 y0_6 y0_18 y0_21 y0_22 y0_23 y0_24 y0_25 y0_26 y0_33 y0_34 y0_38 y0_39 y0_40 y0_41 y0_42 y0_43 y0_45 y0_46 y0_47 y0_48 x0_5 x0_7 x0_8 x0_9 x0_10 x0_11 x0_12 x0_13 x0_14 x0_15 x0_16 x0_17 x0_19 x0_20 x0_27 x0_28 r_2_0_x0_29 r_2_0_x0_30 r_2_0_x0_31 r_2_0_x0_32 x0_35 x0_36 x0_37 x0_44 x0_49 x0_50 a1 a2 a3)) (As := [.int b1]) (rest := []) ⟨hx, hb, hml, hown, ht0⟩ (c_X11_readWordNow l G h0 h1 h2 h3 y0_3 y0_4 y0_6 y0_18 y0_21 y0_22 y0_23 y0_24 y0_25 y0_26 y0_33 y0_34 y0_38 y0_39 y0_40 y0_41 y0_42 y0_43 y0_45 y0_46 y0_47 y0_48 _ x0_5 x0_7 x0_8 x0_9 x0_10 x0_11 x0_12 x0_13 x0_14 x0_15 x0_16 x0_17 x0_19 x0_20 x0_27 x0_28 x0_29 x0_30 x0_31 x0_32 x0_35 x0_36 x0_37 x0_44 x0_49 x0_50 a1 a2 a3 F b1 _ _ _ _ hc_r_2_0) yk_X11_readWordNow wd_1627 ⟨rfl, rfl, by decide, by decide⟩ ⟨Nat.le_refl _, Nat.le_refl _⟩ hX hK hP hD hS hA [0, 1, 2, 3] [] [0, 1, 2, 3] (va_recv hK hP (ci := 11) (q0 := 0) rfl rfl) rfl rfl (by decide) rfl rfl rfl rfl rfl hl.1 rfl (Nat.le_of_ble_eq_true rfl) dX11_mendNow_2 (fun H locs hP hD hS => ?_)
  refine lv_aload_n hx hb dX11_mendNow_5 rfl (lv_at hl 0 rfl) ?_
  refine lv_iload_n hx hb dX11_mendNow_6 rfl (lv_at hl 1 rfl) ?_
  obtain ⟨r_7_1_a1, hc_r_7_1, hf⟩ := of_bnd hf
  refine cl_Vv (w2 := (wW_X11_mendNow G h0 h1 h2 h3 y0_3 y0_4 y0_6 y0_18 y0_21 y0_22 y0_23 y0_24 y0_25 y0_26 y0_33 y0_34 y0_38 y0_39 y0_40 y0_41 y0_42 y0_43 y0_45 y0_46 y0_47 y0_48 x0_5 x0_7 x0_8 x0_9 x0_10 x0_11 x0_12 x0_13 x0_14 x0_15 x0_16 x0_17 x0_19 x0_20 x0_27 x0_28 r_2_0_x0_29 r_2_0_x0_30 r_2_0_x0_31 r_2_0_x0_32 x0_35 x0_36 x0_37 x0_44 x0_49 x0_50 r_7_1_a1 a2 a3)) (As := [.int b1]) (rest := []) ⟨hx, hb, hml, hown, ht0⟩ (c_X11_tallies l G h0 h1 h2 h3 y0_3 y0_4 y0_6 y0_18 y0_21 y0_22 y0_23 y0_24 y0_25 y0_26 y0_33 y0_34 y0_38 y0_39 y0_40 y0_41 y0_42 y0_43 y0_45 y0_46 y0_47 y0_48 _ x0_5 x0_7 x0_8 x0_9 x0_10 x0_11 x0_12 x0_13 x0_14 x0_15 x0_16 x0_17 x0_19 x0_20 x0_27 x0_28 r_2_0_x0_29 r_2_0_x0_30 r_2_0_x0_31 r_2_0_x0_32 x0_35 x0_36 x0_37 x0_44 x0_49 x0_50 a1 a2 F b1 _ hc_r_7_1) yk_X11_tallies wd_1663 ⟨rfl, rfl, by decide, by decide⟩ ⟨Nat.le_refl _, Nat.le_refl _⟩ hX hK hP hD hS hA [0, 1, 2] [3] [1, 2, 3, 0] (va_recv hK hP (ci := 11) (q0 := 0) rfl rfl) rfl rfl (by decide) rfl rfl rfl rfl rfl hl.1 rfl (Nat.le_of_ble_eq_true rfl) dX11_mendNow_7 (fun H locs hP hD hS => ?_)
  refine lv_aload_n hx hb dX11_mendNow_10 rfl (lv_at hl 0 rfl) ?_
  refine va_get (ci := 11) (v := .int r_2_0_x0_29) (C := RX11) (T := TX11) (N := 51) hx hb ht0 iX11 hown hK hP 0 rfl rfl 29 (by decide) (ht0 _ wd_1435) (fun _ h9 => h9) rfl dX11_mendNow_11 ?_
  refine lv_istore_n (lv' := [(2, .int r_2_0_x0_29), (0, .ref h0), (1, .int b1)]) hx hb dX11_mendNow_14 rfl hl (by decide) rfl (fun ls hl => ?_)
  refine lv_aload_n hx hb dX11_mendNow_15 rfl (lv_at hl 1 rfl) ?_
  obtain ⟨r_16_2, hc_r_16_2, hf⟩ := of_bnd hf
  refine cl_Vi (w2 := (wW_X11_mendNow G h0 h1 h2 h3 y0_3 y0_4 y0_6 y0_18 y0_21 y0_22 y0_23 y0_24 y0_25 y0_26 y0_33 y0_34 y0_38 y0_39 y0_40 y0_41 y0_42 y0_43 y0_45 y0_46 y0_47 y0_48 x0_5 x0_7 x0_8 x0_9 x0_10 x0_11 x0_12 x0_13 x0_14 x0_15 x0_16 x0_17 x0_19 x0_20 x0_27 x0_28 r_2_0_x0_29 r_2_0_x0_30 r_2_0_x0_31 r_2_0_x0_32 x0_35 x0_36 x0_37 x0_44 x0_49 x0_50 r_7_1_a1 a2 a3)) (As := []) (rest := []) ⟨hx, hb, hml, hown, ht0⟩ (c_X11_isTold l G h0 h1 h2 h3 y0_3 y0_4 y0_6 y0_18 y0_21 y0_22 y0_23 y0_24 y0_25 y0_26 y0_33 y0_34 y0_38 y0_39 y0_40 y0_41 y0_42 y0_43 y0_45 y0_46 y0_47 y0_48 _ x0_5 x0_7 x0_8 x0_9 x0_10 x0_11 x0_12 x0_13 x0_14 x0_15 x0_16 x0_17 x0_19 x0_20 x0_27 x0_28 r_2_0_x0_29 r_2_0_x0_30 r_2_0_x0_31 r_2_0_x0_32 x0_35 x0_36 x0_37 x0_44 x0_49 x0_50 F _ hc_r_16_2) yk_X11_isTold wd_1659 ⟨rfl, rfl, by decide, by decide⟩ ⟨Nat.le_refl _, Nat.le_refl _⟩ hX hK hP hD hS hA [0] [1, 2, 3] [3, 0, 1, 2] (va_recv hK hP (ci := 11) (q0 := 0) rfl rfl) rfl rfl (by decide) rfl rfl rfl rfl rfl hl.1 rfl (Nat.le_of_ble_eq_true rfl) dX11_mendNow_16 (fun H locs hP hD hS => ?_)
  refine lv_if_ne (tgt := 35) hx hb dX11_mendNow_19 (by decide) (fun c4 => ?_) (fun c4 => ?_)
  · have hf := of_neg hf c4
    refine lv_iload_n hx hb dX11_mendNow_35 rfl (lv_at hl 0 rfl) ?_
    cases hf
    exact ret_i hx hb hr hlk hK hP hD hS dX11_mendNow_36
  · have hf := of_pos hf c4
    refine lv_aload_n hx hb dX11_mendNow_22 rfl (lv_at hl 1 rfl) ?_
    refine lv_iload_n hx hb dX11_mendNow_23 rfl (lv_at hl 2 rfl) ?_
    refine lv_aload_n hx hb dX11_mendNow_24 rfl (lv_at hl 1 rfl) ?_
    refine va_get (ci := 11) (v := .int r_2_0_x0_31) (C := RX11) (T := TX11) (N := 51) hx hb ht0 iX11 hown hK hP 0 rfl rfl 31 (by decide) (ht0 _ wd_1437) (fun _ h9 => h9) rfl dX11_mendNow_25 ?_
    refine lv_aload_n hx hb dX11_mendNow_28 rfl (lv_at hl 1 rfl) ?_
    refine va_get (ci := 11) (v := .int r_2_0_x0_32) (C := RX11) (T := TX11) (N := 51) hx hb ht0 iX11 hown hK hP 0 rfl rfl 32 (by decide) (ht0 _ wd_1438) (fun _ h9 => h9) rfl dX11_mendNow_29 ?_
    obtain ⟨r_32_4_a1, hc_r_32_4, hf⟩ := of_bnd hf
    refine cl_Vv (w2 := (wW_X11_mendNow G h0 h1 h2 h3 y0_3 y0_4 y0_6 y0_18 y0_21 y0_22 y0_23 y0_24 y0_25 y0_26 y0_33 y0_34 y0_38 y0_39 y0_40 y0_41 y0_42 y0_43 y0_45 y0_46 y0_47 y0_48 x0_5 x0_7 x0_8 x0_9 x0_10 x0_11 x0_12 x0_13 x0_14 x0_15 x0_16 x0_17 x0_19 x0_20 x0_27 x0_28 r_2_0_x0_29 r_2_0_x0_30 r_2_0_x0_31 r_2_0_x0_32 x0_35 x0_36 x0_37 x0_44 x0_49 x0_50 r_32_4_a1 a2 a3)) (As := [.int b1, .int r_2_0_x0_31, .int r_2_0_x0_32]) (rest := []) ⟨hx, hb, hml, hown, ht0⟩ (c_X11_writeBits l G h0 h1 h2 h3 y0_3 y0_4 y0_6 y0_18 y0_21 y0_22 y0_23 y0_24 y0_25 y0_26 y0_33 y0_34 y0_38 y0_39 y0_40 y0_41 y0_42 y0_43 y0_45 y0_46 y0_47 y0_48 _ x0_5 x0_7 x0_8 x0_9 x0_10 x0_11 x0_12 x0_13 x0_14 x0_15 x0_16 x0_17 x0_19 x0_20 x0_27 x0_28 r_2_0_x0_29 r_2_0_x0_30 r_2_0_x0_31 r_2_0_x0_32 x0_35 x0_36 x0_37 x0_44 x0_49 x0_50 r_7_1_a1 a2 F b1 r_2_0_x0_31 r_2_0_x0_32 _ hc_r_32_4) yk_X11_writeBits wd_1603 ⟨rfl, rfl, by decide, by decide⟩ ⟨Nat.le_refl _, Nat.le_refl _⟩ hX hK hP hD hS hA [0, 1, 2] [3] [1, 2, 3, 0] (va_recv hK hP (ci := 11) (q0 := 0) rfl rfl) rfl rfl (by decide) rfl rfl rfl rfl rfl hl.1 rfl (Nat.le_of_ble_eq_true rfl) dX11_mendNow_32 (fun H locs hP hD hS => ?_)
    refine lv_iload_n hx hb dX11_mendNow_35 rfl (lv_at hl 0 rfl) ?_
    cases hf
    exact ret_i hx hb hr hlk hK hP hD hS dX11_mendNow_36
theorem yk_X11_mendNow : ykV yX11_mendNow RX11 cX11_mendNow 3 (some .int) 1 := ⟨wd_1677, wd_91, wd_142, wd_1678, rfl, by decide +kernel, by decide +kernel, by decide +kernel⟩
theorem dX11_scrubNow_0 : decode cX11_scrubNow 0 = .ok (.iconst 0, 1) := by decide +kernel
theorem dX11_scrubNow_1 : decode cX11_scrubNow 1 = .ok (.istore_n 1, 1) := by decide +kernel
theorem dX11_scrubNow_2 : decode cX11_scrubNow 2 = .ok (.iconst 0, 1) := by decide +kernel
theorem dX11_scrubNow_3 : decode cX11_scrubNow 3 = .ok (.istore_n 2, 1) := by decide +kernel
theorem dX11_scrubNow_4 : decode cX11_scrubNow 4 = .ok (.iload_n 2, 1) := by decide +kernel
theorem dX11_scrubNow_5 : decode cX11_scrubNow 5 = .ok (.bipush 16, 2) := by decide +kernel
theorem dX11_scrubNow_7 : decode cX11_scrubNow 7 = .ok (.if_icmp .ge 38, 3) := by decide +kernel
theorem dX11_scrubNow_10 : decode cX11_scrubNow 10 = .ok (.aload_n 0, 1) := by decide +kernel
theorem dX11_scrubNow_11 : decode cX11_scrubNow 11 = .ok (.iload_n 2, 1) := by decide +kernel
theorem dX11_scrubNow_12 : decode cX11_scrubNow 12 = .ok (.invokevirtual 335, 3) := by decide +kernel
theorem dX11_scrubNow_15 : decode cX11_scrubNow 15 = .ok (.istore_n 3, 1) := by decide +kernel
theorem dX11_scrubNow_16 : decode cX11_scrubNow 16 = .ok (.iload_n 1, 1) := by decide +kernel
theorem dX11_scrubNow_17 : decode cX11_scrubNow 17 = .ok (.iload_n 3, 1) := by decide +kernel
theorem dX11_scrubNow_18 : decode cX11_scrubNow 18 = .ok (.iconst 1, 1) := by decide +kernel
theorem dX11_scrubNow_19 : decode cX11_scrubNow 19 = .ok (.if_icmp .eq 13, 3) := by decide +kernel
theorem dX11_scrubNow_22 : decode cX11_scrubNow 22 = .ok (.iload_n 3, 1) := by decide +kernel
theorem dX11_scrubNow_23 : decode cX11_scrubNow 23 = .ok (.iconst 2, 1) := by decide +kernel
theorem dX11_scrubNow_24 : decode cX11_scrubNow 24 = .ok (.if_icmp .eq 8, 3) := by decide +kernel
theorem dX11_scrubNow_27 : decode cX11_scrubNow 27 = .ok (.iload_n 3, 1) := by decide +kernel
theorem dX11_scrubNow_28 : decode cX11_scrubNow 28 = .ok (.iconst 5, 1) := by decide +kernel
theorem dX11_scrubNow_29 : decode cX11_scrubNow 29 = .ok (.if_icmp .ne 7, 3) := by decide +kernel
theorem dX11_scrubNow_32 : decode cX11_scrubNow 32 = .ok (.iconst 1, 1) := by decide +kernel
theorem dX11_scrubNow_33 : decode cX11_scrubNow 33 = .ok (.goto 4, 3) := by decide +kernel
theorem dX11_scrubNow_36 : decode cX11_scrubNow 36 = .ok (.iconst 0, 1) := by decide +kernel
theorem dX11_scrubNow_37 : decode cX11_scrubNow 37 = .ok (.iadd, 1) := by decide +kernel
theorem dX11_scrubNow_38 : decode cX11_scrubNow 38 = .ok (.istore_n 1, 1) := by decide +kernel
theorem dX11_scrubNow_39 : decode cX11_scrubNow 39 = .ok (.iinc 2 1, 3) := by decide +kernel
theorem dX11_scrubNow_42 : decode cX11_scrubNow 42 = .ok (.goto (-38), 3) := by decide +kernel
theorem dX11_scrubNow_45 : decode cX11_scrubNow 45 = .ok (.iload_n 1, 1) := by decide +kernel
theorem dX11_scrubNow_46 : decode cX11_scrubNow 46 = .ok (.ireturn, 1) := by decide +kernel
def wW_X11_scrubNow (G : GG) (h0 h1 h2 h3 y0_3 y0_4 y0_6 y0_18 y0_21 y0_22 y0_23 y0_24 y0_25 y0_26 y0_33 y0_34 y0_38 y0_39 y0_40 y0_41 y0_42 y0_43 y0_45 y0_46 y0_47 y0_48 : Nat) (x0_5 : Int32) (x0_7 : Int32) (x0_8 : Int32) (x0_9 : Int32) (x0_10 : Int32) (x0_11 : Int32) (x0_12 : Int32) (x0_13 : Int32) (x0_14 : Int32) (x0_15 : Int32) (x0_16 : Int32) (x0_17 : Int32) (x0_19 : Int32) (x0_20 : Int32) (x0_27 : Int32) (x0_28 : Int32) (x0_29 : Int32) (x0_30 : Int32) (x0_31 : Int32) (x0_32 : Int32) (x0_35 : Int32) (x0_36 : Int32) (x0_37 : Int32) (x0_44 : Int32) (x0_49 : Int32) (x0_50 : Int32) (a1 : Nat → Int32) (a2 : Nat → Int32) (a3 : Nat → Int32) : va_W := [(h0, .inr (11, [.ref h1, .ref h2, .ref h3, .ref y0_3, .ref y0_4, .int x0_5, .ref y0_6, .int x0_7, .int x0_8, .int x0_9, .int x0_10, .int x0_11, .int x0_12, .int x0_13, .int x0_14, .int x0_15, .int x0_16, .int x0_17, .ref y0_18, .int x0_19, .int x0_20, .ref y0_21, .ref y0_22, .ref y0_23, .ref y0_24, .ref y0_25, .ref y0_26, .int x0_27, .int x0_28, .int x0_29, .int x0_30, .int x0_31, .int x0_32, .ref y0_33, .ref y0_34, .int x0_35, .int x0_36, .int x0_37, .ref y0_38, .ref y0_39, .ref y0_40, .ref y0_41, .ref y0_42, .ref y0_43, .int x0_44, .ref y0_45, .ref y0_46, .ref y0_47, .ref y0_48, .int x0_49, .int x0_50])), (h1, .inl (G.2.1, 121, .inl a1)), (h2, .inl (G.2.1, 2, .inl a2)), (h3, .inl (G.2.1, 2, .inl a3))]
set_option maxHeartbeats 4000000 in
set_option maxRecDepth 100000 in
theorem c_X11_scrubNow (l : Launch) (G : GG) (h0 h1 h2 h3 y0_3 y0_4 y0_6 y0_18 y0_21 y0_22 y0_23 y0_24 y0_25 y0_26 y0_33 y0_34 y0_38 y0_39 y0_40 y0_41 y0_42 y0_43 y0_45 y0_46 y0_47 y0_48 : Nat) (sz : Nat) (x0_5 : Int32) (x0_7 : Int32) (x0_8 : Int32) (x0_9 : Int32) (x0_10 : Int32) (x0_11 : Int32) (x0_12 : Int32) (x0_13 : Int32) (x0_14 : Int32) (x0_15 : Int32) (x0_16 : Int32) (x0_17 : Int32) (x0_19 : Int32) (x0_20 : Int32) (x0_27 : Int32) (x0_28 : Int32) (x0_29 : Int32) (x0_30 : Int32) (x0_31 : Int32) (x0_32 : Int32) (x0_35 : Int32) (x0_36 : Int32) (x0_37 : Int32) (x0_44 : Int32) (x0_49 : Int32) (x0_50 : Int32) (a1 : Nat → Int32) (a2 : Nat → Int32) (a3 : Nat → Int32) (F : Nat)   (r0 : Int32) (e_x0_29 : Int32) (e_x0_30 : Int32) (e_x0_31 : Int32) (e_x0_32 : Int32) (e_a1 : Nat → Int32) (hf : p_X11_scrubNow F x0_5 x0_29 x0_30 x0_31 x0_32 a1 a2 a3  = some (r0, e_x0_29, e_x0_30, e_x0_31, e_x0_32, e_a1)) : Met l yX11_scrubNow (.code yX11_scrubNow cX11_scrubNow 4 (some .int) :: gtbl) ({ frames := 8, cells := 0, slots := 0, locals := 185 } : Room) (PcS G [.ref h0] (wW_X11_scrubNow G h0 h1 h2 h3 y0_3 y0_4 y0_6 y0_18 y0_21 y0_22 y0_23 y0_24 y0_25 y0_26 y0_33 y0_34 y0_38 y0_39 y0_40 y0_41 y0_42 y0_43 y0_45 y0_46 y0_47 y0_48 x0_5 x0_7 x0_8 x0_9 x0_10 x0_11 x0_12 x0_13 x0_14 x0_15 x0_16 x0_17 x0_19 x0_20 x0_27 x0_28 x0_29 x0_30 x0_31 x0_32 x0_35 x0_36 x0_37 x0_44 x0_49 x0_50 a1 a2 a3) sz) (QiS G r0 (va_A (wW_X11_scrubNow G h0 h1 h2 h3 y0_3 y0_4 y0_6 y0_18 y0_21 y0_22 y0_23 y0_24 y0_25 y0_26 y0_33 y0_34 y0_38 y0_39 y0_40 y0_41 y0_42 y0_43 y0_45 y0_46 y0_47 y0_48 x0_5 x0_7 x0_8 x0_9 x0_10 x0_11 x0_12 x0_13 x0_14 x0_15 x0_16 x0_17 x0_19 x0_20 x0_27 x0_28 x0_29 x0_30 x0_31 x0_32 x0_35 x0_36 x0_37 x0_44 x0_49 x0_50 a1 a2 a3) sz) (wW_X11_scrubNow G h0 h1 h2 h3 y0_3 y0_4 y0_6 y0_18 y0_21 y0_22 y0_23 y0_24 y0_25 y0_26 y0_33 y0_34 y0_38 y0_39 y0_40 y0_41 y0_42 y0_43 y0_45 y0_46 y0_47 y0_48 x0_5 x0_7 x0_8 x0_9 x0_10 x0_11 x0_12 x0_13 x0_14 x0_15 x0_16 x0_17 x0_19 x0_20 x0_27 x0_28 e_x0_29 e_x0_30 e_x0_31 e_x0_32 x0_35 x0_36 x0_37 x0_44 x0_49 x0_50 e_a1 a2 a3)) 0 0 (va_A (wW_X11_scrubNow G h0 h1 h2 h3 y0_3 y0_4 y0_6 y0_18 y0_21 y0_22 y0_23 y0_24 y0_25 y0_26 y0_33 y0_34 y0_38 y0_39 y0_40 y0_41 y0_42 y0_43 y0_45 y0_46 y0_47 y0_48 x0_5 x0_7 x0_8 x0_9 x0_10 x0_11 x0_12 x0_13 x0_14 x0_15 x0_16 x0_17 x0_19 x0_20 x0_27 x0_28 x0_29 x0_30 x0_31 x0_32 x0_35 x0_36 x0_37 x0_44 x0_49 x0_50 a1 a2 a3) sz) := by
  refine met_start (by decide) (Nat.le_of_ble_eq_true rfl) ?_
  intro p e s m below meth c hC hr hlk hnm hK hP hD hA hS hX ls hl
  obtain ⟨hx, hb, hml, hown, ht0⟩ := hC
  have hown : s.vm.findClass RX11 = some m.cls := hown
  generalize va_A (wW_X11_scrubNow G h0 h1 h2 h3 y0_3 y0_4 y0_6 y0_18 y0_21 y0_22 y0_23 y0_24 y0_25 y0_26 y0_33 y0_34 y0_38 y0_39 y0_40 y0_41 y0_42 y0_43 y0_45 y0_46 y0_47 y0_48 x0_5 x0_7 x0_8 x0_9 x0_10 x0_11 x0_12 x0_13 x0_14 x0_15 x0_16 x0_17 x0_19 x0_20 x0_27 x0_28 x0_29 x0_30 x0_31 x0_32 x0_35 x0_36 x0_37 x0_44 x0_49 x0_50 a1 a2 a3) sz = A at hD hA hS hX ⊢
  have hl : lv_has ls 4 [(0, .ref h0)] := hl
  have hf : p_X11_scrubNow F x0_5 x0_29 x0_30 x0_31 x0_32 a1 a2 a3  = some (r0, e_x0_29, e_x0_30, e_x0_31, e_x0_32, e_a1) := hf
  have kL4 : ∀ (n4 : Nat) (u4_1 : Int32) (u4_2 : Int32) (x0_29_4 : Int32) (x0_30_4 : Int32) (x0_31_4 : Int32) (x0_32_4 : Int32) (a1_4 : Nat → Int32), p_X11_scrubNow_L4 F x0_5 a2 a3 n4 u4_1 u4_2 x0_29_4 x0_30_4 x0_31_4 x0_32_4 a1_4 = some (r0, e_x0_29, e_x0_30, e_x0_31, e_x0_32, e_a1) → ∀ (H : Heap) (locs : List Loc), va_P G.1 vwCl (wW_X11_scrubNow G h0 h1 h2 h3 y0_3 y0_4 y0_6 y0_18 y0_21 y0_22 y0_23 y0_24 y0_25 y0_26 y0_33 y0_34 y0_38 y0_39 y0_40 y0_41 y0_42 y0_43 y0_45 y0_46 y0_47 y0_48 x0_5 x0_7 x0_8 x0_9 x0_10 x0_11 x0_12 x0_13 x0_14 x0_15 x0_16 x0_17 x0_19 x0_20 x0_27 x0_28 x0_29_4 x0_30_4 x0_31_4 x0_32_4 x0_35 x0_36 x0_37 x0_44 x0_49 x0_50 a1_4 a2 a3) H → va_D A (wW_X11_scrubNow G h0 h1 h2 h3 y0_3 y0_4 y0_6 y0_18 y0_21 y0_22 y0_23 y0_24 y0_25 y0_26 y0_33 y0_34 y0_38 y0_39 y0_40 y0_41 y0_42 y0_43 y0_45 y0_46 y0_47 y0_48 x0_5 x0_7 x0_8 x0_9 x0_10 x0_11 x0_12 x0_13 x0_14 x0_15 x0_16 x0_17 x0_19 x0_20 x0_27 x0_28 x0_29_4 x0_30_4 x0_31_4 x0_32_4 x0_35 x0_36 x0_37 x0_44 x0_49 x0_50 a1_4 a2 a3) → va_S A s.heap H locs → ∀ ls : Array Slot, lv_has ls 4 [(0, .ref h0), (1, .int u4_1), (2, .int u4_2)] → W p l e ({ frames := 8, cells := 0, slots := 0, locals := 185 } : Room) s m (List.toArray [.ref h0]) below meth c H locs 0 0 (MQ below (QiS G r0 A (wW_X11_scrubNow G h0 h1 h2 h3 y0_3 y0_4 y0_6 y0_18 y0_21 y0_22 y0_23 y0_24 y0_25 y0_26 y0_33 y0_34 y0_38 y0_39 y0_40 y0_41 y0_42 y0_43 y0_45 y0_46 y0_47 y0_48 x0_5 x0_7 x0_8 x0_9 x0_10 x0_11 x0_12 x0_13 x0_14 x0_15 x0_16 x0_17 x0_19 x0_20 x0_27 x0_28 e_x0_29 e_x0_30 e_x0_31 e_x0_32 x0_35 x0_36 x0_37 x0_44 x0_49 x0_50 e_a1 a2 a3)) (List.toArray [.ref h0]) s 0 0 A) (F0 m 4 ls []) := by
    intro n4
    induction n4 with
    | zero =>
      intro u4_1 u4_2 x0_29_4 x0_30_4 x0_31_4 x0_32_4 a1_4 hf
      cases hf
    | succ n4 ih4 =>
      have kJ37 : ∀ (u37_2 : Int32) (s37_0 : Int32) (s37_1 : Int32) (x0_29_37 : Int32) (x0_30_37 : Int32) (x0_31_37 : Int32) (x0_32_37 : Int32) (a1_37 : Nat → Int32), p_X11_scrubNow_J37 F x0_5 a2 a3 (p_X11_scrubNow_L4 F x0_5 a2 a3 n4) u37_2 s37_0 s37_1 x0_29_37 x0_30_37 x0_31_37 x0_32_37 a1_37 = some (r0, e_x0_29, e_x0_30, e_x0_31, e_x0_32, e_a1) → ∀ (H : Heap) (locs : List Loc), va_P G.1 vwCl (wW_X11_scrubNow G h0 h1 h2 h3 y0_3 y0_4 y0_6 y0_18 y0_21 y0_22 y0_23 y0_24 y0_25 y0_26 y0_33 y0_34 y0_38 y0_39 y0_40 y0_41 y0_42 y0_43 y0_45 y0_46 y0_47 y0_48 x0_5 x0_7 x0_8 x0_9 x0_10 x0_11 x0_12 x0_13 x0_14 x0_15 x0_16 x0_17 x0_19 x0_20 x0_27 x0_28 x0_29_37 x0_30_37 x0_31_37 x0_32_37 x0_35 x0_36 x0_37 x0_44 x0_49 x0_50 a1_37 a2 a3) H → va_D A (wW_X11_scrubNow G h0 h1 h2 h3 y0_3 y0_4 y0_6 y0_18 y0_21 y0_22 y0_23 y0_24 y0_25 y0_26 y0_33 y0_34 y0_38 y0_39 y0_40 y0_41 y0_42 y0_43 y0_45 y0_46 y0_47 y0_48 x0_5 x0_7 x0_8 x0_9 x0_10 x0_11 x0_12 x0_13 x0_14 x0_15 x0_16 x0_17 x0_19 x0_20 x0_27 x0_28 x0_29_37 x0_30_37 x0_31_37 x0_32_37 x0_35 x0_36 x0_37 x0_44 x0_49 x0_50 a1_37 a2 a3) → va_S A s.heap H locs → ∀ ls : Array Slot, lv_has ls 4 [(0, .ref h0), (2, .int u37_2)] → W p l e ({ frames := 8, cells := 0, slots := 0, locals := 185 } : Room) s m (List.toArray [.ref h0]) below meth c H locs 0 0 (MQ below (QiS G r0 A (wW_X11_scrubNow G h0 h1 h2 h3 y0_3 y0_4 y0_6 y0_18 y0_21 y0_22 y0_23 y0_24 y0_25 y0_26 y0_33 y0_34 y0_38 y0_39 y0_40 y0_41 y0_42 y0_43 y0_45 y0_46 y0_47 y0_48 x0_5 x0_7 x0_8 x0_9 x0_10 x0_11 x0_12 x0_13 x0_14 x0_15 x0_16 x0_17 x0_19 x0_20 x0_27 x0_28 e_x0_29 e_x0_30 e_x0_31 e_x0_32 x0_35 x0_36 x0_37 x0_44 x0_49 x0_50 e_a1 a2 a3)) (List.toArray [.ref h0]) s 0 0 A) (F0 m 37 ls [.int s37_1, .int s37_0]) := by
        intro u37_2 s37_0 s37_1 x0_29_37 x0_30_37 x0_31_37 x0_32_37 a1_37 hf H locs hP hD hS ls hl
        refine lv_iadd hx hb dX11_scrubNow_37 ?_
        refine lv_istore_n (lv' := [(1, .int (s37_0 + s37_1)), (0, .ref h0), (2, .int u37_2)]) hx hb dX11_scrubNow_38 rfl hl (by decide) rfl (fun ls hl => ?_)
        refine lv_iinc (v := u37_2 + (1 : Int32)) (lv' := [(2, .int (u37_2 + (1 : Int32))), (1, .int (s37_0 + s37_1)), (0, .ref h0)]) hx hb dX11_scrubNow_39 hl (k := 2) rfl (by rfl) (by decide) rfl (fun ls hl => ?_)
        refine lv_goto (tgt := 4) hx hb dX11_scrubNow_42 (by decide) ?_
        exact ih4 _ _ _ _ _ _ _ hf _ _ hP hD hS _ (lv_sub hl [2, 1, 0] rfl)
      have kJ32 : ∀ (u32_2 : Int32) (s32_0 : Int32) (x0_29_32 : Int32) (x0_30_32 : Int32) (x0_31_32 : Int32) (x0_32_32 : Int32) (a1_32 : Nat → Int32), p_X11_scrubNow_J32 F x0_5 a2 a3 (p_X11_scrubNow_L4 F x0_5 a2 a3 n4) u32_2 s32_0 x0_29_32 x0_30_32 x0_31_32 x0_32_32 a1_32 = some (r0, e_x0_29, e_x0_30, e_x0_31, e_x0_32, e_a1) → ∀ (H : Heap) (locs : List Loc), va_P G.1 vwCl (wW_X11_scrubNow G h0 h1 h2 h3 y0_3 y0_4 y0_6 y0_18 y0_21 y0_22 y0_23 y0_24 y0_25 y0_26 y0_33 y0_34 y0_38 y0_39 y0_40 y0_41 y0_42 y0_43 y0_45 y0_46 y0_47 y0_48 x0_5 x0_7 x0_8 x0_9 x0_10 x0_11 x0_12 x0_13 x0_14 x0_15 x0_16 x0_17 x0_19 x0_20 x0_27 x0_28 x0_29_32 x0_30_32 x0_31_32 x0_32_32 x0_35 x0_36 x0_37 x0_44 x0_49 x0_50 a1_32 a2 a3) H → va_D A (wW_X11_scrubNow G h0 h1 h2 h3 y0_3 y0_4 y0_6 y0_18 y0_21 y0_22 y0_23 y0_24 y0_25 y0_26 y0_33 y0_34 y0_38 y0_39 y0_40 y0_41 y0_42 y0_43 y0_45 y0_46 y0_47 y0_48 x0_5 x0_7 x0_8 x0_9 x0_10 x0_11 x0_12 x0_13 x0_14 x0_15 x0_16 x0_17 x0_19 x0_20 x0_27 x0_28 x0_29_32 x0_30_32 x0_31_32 x0_32_32 x0_35 x0_36 x0_37 x0_44 x0_49 x0_50 a1_32 a2 a3) → va_S A s.heap H locs → ∀ ls : Array Slot, lv_has ls 4 [(0, .ref h0), (2, .int u32_2)] → W p l e ({ frames := 8, cells := 0, slots := 0, locals := 185 } : Room) s m (List.toArray [.ref h0]) below meth c H locs 0 0 (MQ below (QiS G r0 A (wW_X11_scrubNow G h0 h1 h2 h3 y0_3 y0_4 y0_6 y0_18 y0_21 y0_22 y0_23 y0_24 y0_25 y0_26 y0_33 y0_34 y0_38 y0_39 y0_40 y0_41 y0_42 y0_43 y0_45 y0_46 y0_47 y0_48 x0_5 x0_7 x0_8 x0_9 x0_10 x0_11 x0_12 x0_13 x0_14 x0_15 x0_16 x0_17 x0_19 x0_20 x0_27 x0_28 e_x0_29 e_x0_30 e_x0_31 e_x0_32 x0_35 x0_36 x0_37 x0_44 x0_49 x0_50 e_a1 a2 a3)) (List.toArray [.ref h0]) s 0 0 A) (F0 m 32 ls [.int s32_0]) := by
        intro u32_2 s32_0 x0_29_32 x0_30_32 x0_31_32 x0_32_32 a1_32 hf H locs hP hD hS ls hl
        refine lv_iconst (v := (1 : Int32)) hx hb dX11_scrubNow_32 (by decide) ?_
        refine lv_goto (tgt := 37) hx hb dX11_scrubNow_33 (by decide) ?_
        exact kJ37 _ _ _ _ _ _ _ _ hf _ _ hP hD hS _ (lv_sub hl [0, 1] rfl)
      intro u4_1 u4_2 x0_29_4 x0_30_4 x0_31_4 x0_32_4 a1_4 hf H locs hP hD hS ls hl
      have hf : p_X11_scrubNow_L4b F x0_5 a2 a3 (p_X11_scrubNow_L4 F x0_5 a2 a3 n4) u4_1 u4_2 x0_29_4 x0_30_4 x0_31_4 x0_32_4 a1_4 = some (r0, e_x0_29, e_x0_30, e_x0_31, e_x0_32, e_a1) := hf
      refine lv_iload_n hx hb dX11_scrubNow_4 rfl (lv_at hl 2 rfl) ?_
      refine lv_bipush (v := (16 : Int32)) hx hb dX11_scrubNow_5 (by decide) ?_
      refine lv_icmp_ge (tgt := 45) hx hb dX11_scrubNow_7 (by decide) (fun c1 => ?_) (fun c1 => ?_)
      · have hf := of_pos hf c1
        refine lv_iload_n hx hb dX11_scrubNow_45 rfl (lv_at hl 1 rfl) ?_
        cases hf
        exact ret_i hx hb hr hlk hK hP hD hS dX11_scrubNow_46
      · have hf := of_neg hf c1
        refine lv_aload_n hx hb dX11_scrubNow_10 rfl (lv_at hl 0 rfl) ?_
        refine lv_iload_n hx hb dX11_scrubNow_11 rfl (lv_at hl 2 rfl) ?_
        obtain ⟨⟨r_12_1, r_12_1_x0_29, r_12_1_x0_30, r_12_1_x0_31, r_12_1_x0_32, r_12_1_a1⟩, hc_r_12_1, hf⟩ := of_bnd hf
        refine cl_Vi (w2 := (wW_X11_scrubNow G h0 h1 h2 h3 y0_3 y0_4 y0_6 y0_18 y0_21 y0_22 y0_23 y0_24 y0_25 y0_26 y0_33 y0_34 y0_38 y0_39 y0_40 y0_41 y0_42 y0_43 y0_45 y0_46 y0_47 y0_48 x0_5 x0_7 x0_8 x0_9 x0_10 x0_11 x0_12 x0_13 x0_14 x0_15 x0_16 x0_17 x0_19 x0_20 x0_27 x0_28 r_12_1_x0_29 r_12_1_x0_30 r_12_1_x0_31 r_12_1_x0_32 x0_35 x0_36 x0_37 x0_44 x0_49 x0_50 r_12_1_a1 a2 a3)) (As := [.int u4_2]) (rest := []) ⟨hx, hb, hml, hown, ht0⟩ (c_X11_mendNow l G h0 h1 h2 h3 y0_3 y0_4 y0_6 y0_18 y0_21 y0_22 y0_23 y0_24 y0_25 y0_26 y0_33 y0_34 y0_38 y0_39 y0_40 y0_41 y0_42 y0_43 y0_45 y0_46 y0_47 y0_48 _ x0_5 x0_7 x0_8 x0_9 x0_10 x0_11 x0_12 x0_13 x0_14 x0_15 x0_16 x0_17 x0_19 x0_20 x0_27 x0_28 x0_29_4 x0_30_4 x0_31_4 x0_32_4 x0_35 x0_36 x0_37 x0_44 x0_49 x0_50 a1_4 a2 a3 F u4_2 _ _ _ _ _ _ hc_r_12_1) yk_X11_mendNow wd_1675 ⟨rfl, rfl, by decide, by decide⟩ ⟨Nat.le_refl _, Nat.le_refl _⟩ hX hK hP hD hS hA [0, 1, 2, 3] [] [0, 1, 2, 3] (va_recv hK hP (ci := 11) (q0 := 0) rfl rfl) rfl rfl (by decide) rfl rfl rfl rfl rfl hl.1 rfl (Nat.le_of_ble_eq_true rfl) dX11_scrubNow_12 (fun H locs hP hD hS => ?_)
        refine lv_istore_n (lv' := [(3, .int r_12_1), (0, .ref h0), (1, .int u4_1), (2, .int u4_2)]) hx hb dX11_scrubNow_15 rfl hl (by decide) rfl (fun ls hl => ?_)
        refine lv_iload_n hx hb dX11_scrubNow_16 rfl (lv_at hl 2 rfl) ?_
        refine lv_iload_n hx hb dX11_scrubNow_17 rfl (lv_at hl 0 rfl) ?_
        refine lv_iconst (v := (1 : Int32)) hx hb dX11_scrubNow_18 (by decide) ?_
        refine lv_icmp_eq (tgt := 32) hx hb dX11_scrubNow_19 (by decide) (fun c3 => ?_) (fun c3 => ?_)
        · have hf := of_pos hf c3
          exact kJ32 _ _ _ _ _ _ _ hf _ _ hP hD hS _ (lv_sub hl [1, 3] rfl)
        · have hf := of_neg hf c3
          refine lv_iload_n hx hb dX11_scrubNow_22 rfl (lv_at hl 0 rfl) ?_
          refine lv_iconst (v := (2 : Int32)) hx hb dX11_scrubNow_23 (by decide) ?_
          refine lv_icmp_eq (tgt := 32) hx hb dX11_scrubNow_24 (by decide) (fun c4 => ?_) (fun c4 => ?_)
          · have hf := of_pos hf c4
            exact kJ32 _ _ _ _ _ _ _ hf _ _ hP hD hS _ (lv_sub hl [1, 3] rfl)
          · have hf := of_neg hf c4
            refine lv_iload_n hx hb dX11_scrubNow_27 rfl (lv_at hl 0 rfl) ?_
            refine lv_iconst (v := (5 : Int32)) hx hb dX11_scrubNow_28 (by decide) ?_
            refine lv_icmp_ne (tgt := 36) hx hb dX11_scrubNow_29 (by decide) (fun c5 => ?_) (fun c5 => ?_)
            · have hf := of_neg hf c5
              refine lv_iconst (v := (0 : Int32)) hx hb dX11_scrubNow_36 (by decide) ?_
              exact kJ37 _ _ _ _ _ _ _ _ hf _ _ hP hD hS _ (lv_sub hl [1, 3] rfl)
            · have hf := of_pos hf c5
              exact kJ32 _ _ _ _ _ _ _ hf _ _ hP hD hS _ (lv_sub hl [1, 3] rfl)
  refine lv_iconst (v := (0 : Int32)) hx hb dX11_scrubNow_0 (by decide) ?_
  refine lv_istore_n (lv' := [(1, .int (0 : Int32)), (0, .ref h0)]) hx hb dX11_scrubNow_1 rfl hl (by decide) rfl (fun ls hl => ?_)
  refine lv_iconst (v := (0 : Int32)) hx hb dX11_scrubNow_2 (by decide) ?_
  refine lv_istore_n (lv' := [(2, .int (0 : Int32)), (1, .int (0 : Int32)), (0, .ref h0)]) hx hb dX11_scrubNow_3 rfl hl (by decide) rfl (fun ls hl => ?_)
  exact kL4 _ _ _ _ _ _ _ _ hf _ _ hP hD hS _ (lv_sub hl [2, 1, 0] rfl)
theorem yk_X11_scrubNow : ykV yX11_scrubNow RX11 cX11_scrubNow 4 (some .int) 0 := ⟨wd_1685, wd_92, wd_142, wd_1686, rfl, by decide +kernel, by decide +kernel, by decide +kernel⟩
theorem dX11_slipNow_0 : decode cX11_slipNow 0 = .ok (.aload_n 0, 1) := by decide +kernel
theorem dX11_slipNow_1 : decode cX11_slipNow 1 = .ok (.iload_n 1, 1) := by decide +kernel
theorem dX11_slipNow_2 : decode cX11_slipNow 2 = .ok (.iload_n 2, 1) := by decide +kernel
theorem dX11_slipNow_3 : decode cX11_slipNow 3 = .ok (.invokevirtual 338, 3) := by decide +kernel
theorem dX11_slipNow_6 : decode cX11_slipNow 6 = .ok (.ifCond .eq 4, 3) := by decide +kernel
theorem dX11_slipNow_9 : decode cX11_slipNow 9 = .ok (.return_, 1) := by decide +kernel
theorem dX11_slipNow_10 : decode cX11_slipNow 10 = .ok (.aload_n 0, 1) := by decide +kernel
theorem dX11_slipNow_11 : decode cX11_slipNow 11 = .ok (.iload_n 1, 1) := by decide +kernel
theorem dX11_slipNow_12 : decode cX11_slipNow 12 = .ok (.iload_n 2, 1) := by decide +kernel
theorem dX11_slipNow_13 : decode cX11_slipNow 13 = .ok (.iconst 1, 1) := by decide +kernel
theorem dX11_slipNow_14 : decode cX11_slipNow 14 = .ok (.aload_n 0, 1) := by decide +kernel
theorem dX11_slipNow_15 : decode cX11_slipNow 15 = .ok (.iload_n 1, 1) := by decide +kernel
theorem dX11_slipNow_16 : decode cX11_slipNow 16 = .ok (.iload_n 2, 1) := by decide +kernel
theorem dX11_slipNow_17 : decode cX11_slipNow 17 = .ok (.invokevirtual 275, 3) := by decide +kernel
theorem dX11_slipNow_20 : decode cX11_slipNow 20 = .ok (.isub, 1) := by decide +kernel
theorem dX11_slipNow_21 : decode cX11_slipNow 21 = .ok (.invokevirtual 281, 3) := by decide +kernel
theorem dX11_slipNow_24 : decode cX11_slipNow 24 = .ok (.aload_n 0, 1) := by decide +kernel
theorem dX11_slipNow_25 : decode cX11_slipNow 25 = .ok (.getfield 7, 3) := by decide +kernel
theorem dX11_slipNow_28 : decode cX11_slipNow 28 = .ok (.bipush 120, 2) := by decide +kernel
theorem dX11_slipNow_30 : decode cX11_slipNow 30 = .ok (.dup2, 1) := by decide +kernel
theorem dX11_slipNow_31 : decode cX11_slipNow 31 = .ok (.iaload, 1) := by decide +kernel
theorem dX11_slipNow_32 : decode cX11_slipNow 32 = .ok (.iconst 1, 1) := by decide +kernel
theorem dX11_slipNow_33 : decode cX11_slipNow 33 = .ok (.iadd, 1) := by decide +kernel
theorem dX11_slipNow_34 : decode cX11_slipNow 34 = .ok (.iastore, 1) := by decide +kernel
theorem dX11_slipNow_35 : decode cX11_slipNow 35 = .ok (.return_, 1) := by decide +kernel
def wW_X11_slipNow (G : GG) (h0 h1 h2 y0_2 y0_3 y0_4 y0_6 y0_18 y0_21 y0_22 y0_23 y0_24 y0_25 y0_26 y0_33 y0_34 y0_38 y0_39 y0_40 y0_41 y0_42 y0_43 y0_45 y0_46 y0_47 y0_48 : Nat) (x0_5 : Int32) (x0_7 : Int32) (x0_8 : Int32) (x0_9 : Int32) (x0_10 : Int32) (x0_11 : Int32) (x0_12 : Int32) (x0_13 : Int32) (x0_14 : Int32) (x0_15 : Int32) (x0_16 : Int32) (x0_17 : Int32) (x0_19 : Int32) (x0_20 : Int32) (x0_27 : Int32) (x0_28 : Int32) (x0_29 : Int32) (x0_30 : Int32) (x0_31 : Int32) (x0_32 : Int32) (x0_35 : Int32) (x0_36 : Int32) (x0_37 : Int32) (x0_44 : Int32) (x0_49 : Int32) (x0_50 : Int32) (a1 : Nat → Int32) (a2 : Nat → Int32) : va_W := [(h0, .inr (11, [.ref h1, .ref h2, .ref y0_2, .ref y0_3, .ref y0_4, .int x0_5, .ref y0_6, .int x0_7, .int x0_8, .int x0_9, .int x0_10, .int x0_11, .int x0_12, .int x0_13, .int x0_14, .int x0_15, .int x0_16, .int x0_17, .ref y0_18, .int x0_19, .int x0_20, .ref y0_21, .ref y0_22, .ref y0_23, .ref y0_24, .ref y0_25, .ref y0_26, .int x0_27, .int x0_28, .int x0_29, .int x0_30, .int x0_31, .int x0_32, .ref y0_33, .ref y0_34, .int x0_35, .int x0_36, .int x0_37, .ref y0_38, .ref y0_39, .ref y0_40, .ref y0_41, .ref y0_42, .ref y0_43, .int x0_44, .ref y0_45, .ref y0_46, .ref y0_47, .ref y0_48, .int x0_49, .int x0_50])), (h1, .inl (G.2.1, 121, .inl a1)), (h2, .inl (G.2.1, 2, .inl a2))]
set_option maxHeartbeats 4000000 in
set_option maxRecDepth 100000 in
theorem c_X11_slipNow (l : Launch) (G : GG) (h0 h1 h2 y0_2 y0_3 y0_4 y0_6 y0_18 y0_21 y0_22 y0_23 y0_24 y0_25 y0_26 y0_33 y0_34 y0_38 y0_39 y0_40 y0_41 y0_42 y0_43 y0_45 y0_46 y0_47 y0_48 : Nat) (sz : Nat) (x0_5 : Int32) (x0_7 : Int32) (x0_8 : Int32) (x0_9 : Int32) (x0_10 : Int32) (x0_11 : Int32) (x0_12 : Int32) (x0_13 : Int32) (x0_14 : Int32) (x0_15 : Int32) (x0_16 : Int32) (x0_17 : Int32) (x0_19 : Int32) (x0_20 : Int32) (x0_27 : Int32) (x0_28 : Int32) (x0_29 : Int32) (x0_30 : Int32) (x0_31 : Int32) (x0_32 : Int32) (x0_35 : Int32) (x0_36 : Int32) (x0_37 : Int32) (x0_44 : Int32) (x0_49 : Int32) (x0_50 : Int32) (a1 : Nat → Int32) (a2 : Nat → Int32) (F : Nat) (b1 : Int32) (b2 : Int32)  (e_a1 : Nat → Int32) (hf : p_X11_slipNow F x0_5 a1 a2 b1 b2 = some e_a1) : Met l yX11_slipNow (.code yX11_slipNow cX11_slipNow 3 none :: gtbl) ({ frames := 4, cells := 0, slots := 0, locals := 88 } : Room) (PcS G [.ref h0, .int b1, .int b2] (wW_X11_slipNow G h0 h1 h2 y0_2 y0_3 y0_4 y0_6 y0_18 y0_21 y0_22 y0_23 y0_24 y0_25 y0_26 y0_33 y0_34 y0_38 y0_39 y0_40 y0_41 y0_42 y0_43 y0_45 y0_46 y0_47 y0_48 x0_5 x0_7 x0_8 x0_9 x0_10 x0_11 x0_12 x0_13 x0_14 x0_15 x0_16 x0_17 x0_19 x0_20 x0_27 x0_28 x0_29 x0_30 x0_31 x0_32 x0_35 x0_36 x0_37 x0_44 x0_49 x0_50 a1 a2) sz) (QvS G (va_A (wW_X11_slipNow G h0 h1 h2 y0_2 y0_3 y0_4 y0_6 y0_18 y0_21 y0_22 y0_23 y0_24 y0_25 y0_26 y0_33 y0_34 y0_38 y0_39 y0_40 y0_41 y0_42 y0_43 y0_45 y0_46 y0_47 y0_48 x0_5 x0_7 x0_8 x0_9 x0_10 x0_11 x0_12 x0_13 x0_14 x0_15 x0_16 x0_17 x0_19 x0_20 x0_27 x0_28 x0_29 x0_30 x0_31 x0_32 x0_35 x0_36 x0_37 x0_44 x0_49 x0_50 a1 a2) sz) (wW_X11_slipNow G h0 h1 h2 y0_2 y0_3 y0_4 y0_6 y0_18 y0_21 y0_22 y0_23 y0_24 y0_25 y0_26 y0_33 y0_34 y0_38 y0_39 y0_40 y0_41 y0_42 y0_43 y0_45 y0_46 y0_47 y0_48 x0_5 x0_7 x0_8 x0_9 x0_10 x0_11 x0_12 x0_13 x0_14 x0_15 x0_16 x0_17 x0_19 x0_20 x0_27 x0_28 x0_29 x0_30 x0_31 x0_32 x0_35 x0_36 x0_37 x0_44 x0_49 x0_50 e_a1 a2)) 0 0 (va_A (wW_X11_slipNow G h0 h1 h2 y0_2 y0_3 y0_4 y0_6 y0_18 y0_21 y0_22 y0_23 y0_24 y0_25 y0_26 y0_33 y0_34 y0_38 y0_39 y0_40 y0_41 y0_42 y0_43 y0_45 y0_46 y0_47 y0_48 x0_5 x0_7 x0_8 x0_9 x0_10 x0_11 x0_12 x0_13 x0_14 x0_15 x0_16 x0_17 x0_19 x0_20 x0_27 x0_28 x0_29 x0_30 x0_31 x0_32 x0_35 x0_36 x0_37 x0_44 x0_49 x0_50 a1 a2) sz) := by
  refine met_start (by decide) (Nat.le_of_ble_eq_true rfl) ?_
  intro p e s m below meth c hC hr hlk hnm hK hP hD hA hS hX ls hl
  obtain ⟨hx, hb, hml, hown, ht0⟩ := hC
  have hown : s.vm.findClass RX11 = some m.cls := hown
  generalize va_A (wW_X11_slipNow G h0 h1 h2 y0_2 y0_3 y0_4 y0_6 y0_18 y0_21 y0_22 y0_23 y0_24 y0_25 y0_26 y0_33 y0_34 y0_38 y0_39 y0_40 y0_41 y0_42 y0_43 y0_45 y0_46 y0_47 y0_48 x0_5 x0_7 x0_8 x0_9 x0_10 x0_11 x0_12 x0_13 x0_14 x0_15 x0_16 x0_17 x0_19 x0_20 x0_27 x0_28 x0_29 x0_30 x0_31 x0_32 x0_35 x0_36 x0_37 x0_44 x0_49 x0_50 a1 a2) sz = A at hD hA hS hX ⊢
  have hl : lv_has ls 3 [(0, .ref h0), (1, .int b1), (2, .int b2)] := hl
  have hf : p_X11_slipNow F x0_5 a1 a2 b1 b2 = some e_a1 := hf
  refine lv_aload_n hx hb dX11_slipNow_0 rfl (lv_at hl 0 rfl) ?_
  refine lv_iload_n hx hb dX11_slipNow_1 rfl (lv_at hl 1 rfl) ?_
  refine lv_iload_n hx hb dX11_slipNow_2 rfl (lv_at hl 2 rfl) ?_
  obtain ⟨r_3_0, hc_r_3_0, hf⟩ := of_bnd hf
  refine cl_Vi (w2 := (wW_X11_slipNow G h0 h1 h2 y0_2 y0_3 y0_4 y0_6 y0_18 y0_21 y0_22 y0_23 y0_24 y0_25 y0_26 y0_33 y0_34 y0_38 y0_39 y0_40 y0_41 y0_42 y0_43 y0_45 y0_46 y0_47 y0_48 x0_5 x0_7 x0_8 x0_9 x0_10 x0_11 x0_12 x0_13 x0_14 x0_15 x0_16 x0_17 x0_19 x0_20 x0_27 x0_28 x0_29 x0_30 x0_31 x0_32 x0_35 x0_36 x0_37 x0_44 x0_49 x0_50 a1 a2)) (As := [.int b1, .int b2]) (rest := []) ⟨hx, hb, hml, hown, ht0⟩ (c_X11_isStuck l G h0 h1 h2 y0_2 y0_3 y0_4 y0_6 y0_18 y0_21 y0_22 y0_23 y0_24 y0_25 y0_26 y0_33 y0_34 y0_38 y0_39 y0_40 y0_41 y0_42 y0_43 y0_45 y0_46 y0_47 y0_48 _ x0_5 x0_7 x0_8 x0_9 x0_10 x0_11 x0_12 x0_13 x0_14 x0_15 x0_16 x0_17 x0_19 x0_20 x0_27 x0_28 x0_29 x0_30 x0_31 x0_32 x0_35 x0_36 x0_37 x0_44 x0_49 x0_50 a1 F b1 b2 _ hc_r_3_0) yk_X11_isStuck wd_1699 ⟨rfl, rfl, by decide, by decide⟩ ⟨Nat.le_refl _, Nat.le_refl _⟩ hX hK hP hD hS hA [0, 1] [2] [1, 2, 0] (va_recv hK hP (ci := 11) (q0 := 0) rfl rfl) rfl rfl (by decide) rfl rfl rfl rfl rfl hl.1 rfl (Nat.le_of_ble_eq_true rfl) dX11_slipNow_3 (fun H locs hP hD hS => ?_)
  refine lv_if_eq (tgt := 10) hx hb dX11_slipNow_6 (by decide) (fun c2 => ?_) (fun c2 => ?_)
  · have hf := of_pos hf c2
    refine lv_aload_n hx hb dX11_slipNow_10 rfl (lv_at hl 0 rfl) ?_
    refine lv_iload_n hx hb dX11_slipNow_11 rfl (lv_at hl 1 rfl) ?_
    refine lv_iload_n hx hb dX11_slipNow_12 rfl (lv_at hl 2 rfl) ?_
    refine lv_iconst (v := (1 : Int32)) hx hb dX11_slipNow_13 (by decide) ?_
    refine lv_aload_n hx hb dX11_slipNow_14 rfl (lv_at hl 0 rfl) ?_
    refine lv_iload_n hx hb dX11_slipNow_15 rfl (lv_at hl 1 rfl) ?_
    refine lv_iload_n hx hb dX11_slipNow_16 rfl (lv_at hl 2 rfl) ?_
    obtain ⟨r_17_2, hc_r_17_2, hf⟩ := of_bnd hf
    refine cl_Vi (w2 := (wW_X11_slipNow G h0 h1 h2 y0_2 y0_3 y0_4 y0_6 y0_18 y0_21 y0_22 y0_23 y0_24 y0_25 y0_26 y0_33 y0_34 y0_38 y0_39 y0_40 y0_41 y0_42 y0_43 y0_45 y0_46 y0_47 y0_48 x0_5 x0_7 x0_8 x0_9 x0_10 x0_11 x0_12 x0_13 x0_14 x0_15 x0_16 x0_17 x0_19 x0_20 x0_27 x0_28 x0_29 x0_30 x0_31 x0_32 x0_35 x0_36 x0_37 x0_44 x0_49 x0_50 a1 a2)) (As := [.int b1, .int b2]) (rest := [.int (1 : Int32), .int b2, .int b1, .ref h0]) ⟨hx, hb, hml, hown, ht0⟩ (c_X11_bitOf l G h0 h1 h2 y0_2 y0_3 y0_4 y0_6 y0_18 y0_21 y0_22 y0_23 y0_24 y0_25 y0_26 y0_33 y0_34 y0_38 y0_39 y0_40 y0_41 y0_42 y0_43 y0_45 y0_46 y0_47 y0_48 _ x0_5 x0_7 x0_8 x0_9 x0_10 x0_11 x0_12 x0_13 x0_14 x0_15 x0_16 x0_17 x0_19 x0_20 x0_27 x0_28 x0_29 x0_30 x0_31 x0_32 x0_35 x0_36 x0_37 x0_44 x0_49 x0_50 a1 a2 F b1 b2 _ hc_r_17_2) yk_X11_bitOf wd_1611 ⟨rfl, rfl, by decide, by decide⟩ ⟨Nat.le_refl _, Nat.le_refl _⟩ hX hK hP hD hS hA [0, 1, 2] [] [0, 1, 2] (va_recv hK hP (ci := 11) (q0 := 0) rfl rfl) rfl rfl (by decide) rfl rfl rfl rfl rfl hl.1 rfl (Nat.le_of_ble_eq_true rfl) dX11_slipNow_17 (fun H locs hP hD hS => ?_)
    refine lv_isub hx hb dX11_slipNow_20 ?_
    obtain ⟨r_21_3_a1, hc_r_21_3, hf⟩ := of_bnd hf
    refine cl_Vv (w2 := (wW_X11_slipNow G h0 h1 h2 y0_2 y0_3 y0_4 y0_6 y0_18 y0_21 y0_22 y0_23 y0_24 y0_25 y0_26 y0_33 y0_34 y0_38 y0_39 y0_40 y0_41 y0_42 y0_43 y0_45 y0_46 y0_47 y0_48 x0_5 x0_7 x0_8 x0_9 x0_10 x0_11 x0_12 x0_13 x0_14 x0_15 x0_16 x0_17 x0_19 x0_20 x0_27 x0_28 x0_29 x0_30 x0_31 x0_32 x0_35 x0_36 x0_37 x0_44 x0_49 x0_50 r_21_3_a1 a2)) (As := [.int b1, .int b2, .int ((1 : Int32) - r_17_2)]) (rest := []) ⟨hx, hb, hml, hown, ht0⟩ (c_X11_setBit l G h0 h1 h2 y0_2 y0_3 y0_4 y0_6 y0_18 y0_21 y0_22 y0_23 y0_24 y0_25 y0_26 y0_33 y0_34 y0_38 y0_39 y0_40 y0_41 y0_42 y0_43 y0_45 y0_46 y0_47 y0_48 _ x0_5 x0_7 x0_8 x0_9 x0_10 x0_11 x0_12 x0_13 x0_14 x0_15 x0_16 x0_17 x0_19 x0_20 x0_27 x0_28 x0_29 x0_30 x0_31 x0_32 x0_35 x0_36 x0_37 x0_44 x0_49 x0_50 a1 a2 F b1 b2 ((1 : Int32) - r_17_2) _ hc_r_21_3) yk_X11_setBit wd_1619 ⟨rfl, rfl, by decide, by decide⟩ ⟨Nat.le_refl _, Nat.le_refl _⟩ hX hK hP hD hS hA [0, 1, 2] [] [0, 1, 2] (va_recv hK hP (ci := 11) (q0 := 0) rfl rfl) rfl rfl (by decide) rfl rfl rfl rfl rfl hl.1 rfl (Nat.le_of_ble_eq_true rfl) dX11_slipNow_21 (fun H locs hP hD hS => ?_)
    refine lv_aload_n hx hb dX11_slipNow_24 rfl (lv_at hl 0 rfl) ?_
    refine va_get (ci := 11) (v := .ref h1) (C := RX11) (T := TX11) (N := 51) hx hb ht0 iX11 hown hK hP 0 rfl rfl 0 (by decide) (ht0 _ wd_1406) (fun _ h9 => h9) rfl dX11_slipNow_25 ?_
    refine lv_bipush (v := (120 : Int32)) hx hb dX11_slipNow_28 (by decide) ?_
    refine lv_dup2_11 hx hb dX11_slipNow_30 rfl rfl ?_
    refine va_iald hx hb hK hP 1 0 rfl rfl (show ¬ ixBad (120 : Int32) 121 by decide) dX11_slipNow_31 ?_
    refine lv_iconst (v := (1 : Int32)) hx hb dX11_slipNow_32 (by decide) ?_
    refine lv_iadd hx hb dX11_slipNow_33 ?_
    refine va_iast hx hb hK hP hD hS 1 0 rfl rfl (show ¬ ixBad (120 : Int32) 121 by decide) dX11_slipNow_34 (fun H locs hP hD hS => ?_)
    have hP : va_P G.1 vwCl (wW_X11_slipNow G h0 h1 h2 y0_2 y0_3 y0_4 y0_6 y0_18 y0_21 y0_22 y0_23 y0_24 y0_25 y0_26 y0_33 y0_34 y0_38 y0_39 y0_40 y0_41 y0_42 y0_43 y0_45 y0_46 y0_47 y0_48 x0_5 x0_7 x0_8 x0_9 x0_10 x0_11 x0_12 x0_13 x0_14 x0_15 x0_16 x0_17 x0_19 x0_20 x0_27 x0_28 x0_29 x0_30 x0_31 x0_32 x0_35 x0_36 x0_37 x0_44 x0_49 x0_50 (upd r_21_3_a1 (120 : Int32).toNatClampNeg ((r_21_3_a1 (120 : Int32).toNatClampNeg) + (1 : Int32))) a2) H := hP
    have hD : va_D A (wW_X11_slipNow G h0 h1 h2 y0_2 y0_3 y0_4 y0_6 y0_18 y0_21 y0_22 y0_23 y0_24 y0_25 y0_26 y0_33 y0_34 y0_38 y0_39 y0_40 y0_41 y0_42 y0_43 y0_45 y0_46 y0_47 y0_48 x0_5 x0_7 x0_8 x0_9 x0_10 x0_11 x0_12 x0_13 x0_14 x0_15 x0_16 x0_17 x0_19 x0_20 x0_27 x0_28 x0_29 x0_30 x0_31 x0_32 x0_35 x0_36 x0_37 x0_44 x0_49 x0_50 (upd r_21_3_a1 (120 : Int32).toNatClampNeg ((r_21_3_a1 (120 : Int32).toNatClampNeg) + (1 : Int32))) a2) := hD
    cases hf
    exact ret_v hx hb hr hlk hK hP hD hS dX11_slipNow_35
  · have hf := of_neg hf c2
    cases hf
    exact ret_v hx hb hr hlk hK hP hD hS dX11_slipNow_9
theorem yk_X11_slipNow : ykV yX11_slipNow RX11 cX11_slipNow 3 none 2 := ⟨wd_1697, wd_94, wd_142, wd_1698, rfl, by decide +kernel, by decide +kernel, by decide +kernel⟩
theorem dX11_stormNow_0 : decode cX11_stormNow 0 = .ok (.iload_n 1, 1) := by decide +kernel
theorem dX11_stormNow_1 : decode cX11_stormNow 1 = .ok (.istore 4, 2) := by decide +kernel
theorem dX11_stormNow_3 : decode cX11_stormNow 3 = .ok (.iconst 1, 1) := by decide +kernel
theorem dX11_stormNow_4 : decode cX11_stormNow 4 = .ok (.istore 5, 2) := by decide +kernel
theorem dX11_stormNow_6 : decode cX11_stormNow 6 = .ok (.iload 5, 2) := by decide +kernel
theorem dX11_stormNow_8 : decode cX11_stormNow 8 = .ok (.iload_n 2, 1) := by decide +kernel
theorem dX11_stormNow_9 : decode cX11_stormNow 9 = .ok (.if_icmp .gt 75, 3) := by decide +kernel
theorem dX11_stormNow_12 : decode cX11_stormNow 12 = .ok (.sipush 137, 3) := by decide +kernel
theorem dX11_stormNow_15 : decode cX11_stormNow 15 = .ok (.iload 4, 2) := by decide +kernel
theorem dX11_stormNow_17 : decode cX11_stormNow 17 = .ok (.imul, 1) := by decide +kernel
theorem dX11_stormNow_18 : decode cX11_stormNow 18 = .ok (.bipush 71, 2) := by decide +kernel
theorem dX11_stormNow_20 : decode cX11_stormNow 20 = .ok (.iadd, 1) := by decide +kernel
theorem dX11_stormNow_21 : decode cX11_stormNow 21 = .ok (.sipush 10007, 3) := by decide +kernel
theorem dX11_stormNow_24 : decode cX11_stormNow 24 = .ok (.irem, 1) := by decide +kernel
theorem dX11_stormNow_25 : decode cX11_stormNow 25 = .ok (.istore 4, 2) := by decide +kernel
theorem dX11_stormNow_27 : decode cX11_stormNow 27 = .ok (.iload 4, 2) := by decide +kernel
theorem dX11_stormNow_29 : decode cX11_stormNow 29 = .ok (.bipush 16, 2) := by decide +kernel
theorem dX11_stormNow_31 : decode cX11_stormNow 31 = .ok (.irem, 1) := by decide +kernel
theorem dX11_stormNow_32 : decode cX11_stormNow 32 = .ok (.istore 6, 2) := by decide +kernel
theorem dX11_stormNow_34 : decode cX11_stormNow 34 = .ok (.sipush 137, 3) := by decide +kernel
theorem dX11_stormNow_37 : decode cX11_stormNow 37 = .ok (.iload 4, 2) := by decide +kernel
theorem dX11_stormNow_39 : decode cX11_stormNow 39 = .ok (.imul, 1) := by decide +kernel
theorem dX11_stormNow_40 : decode cX11_stormNow 40 = .ok (.bipush 71, 2) := by decide +kernel
theorem dX11_stormNow_42 : decode cX11_stormNow 42 = .ok (.iadd, 1) := by decide +kernel
theorem dX11_stormNow_43 : decode cX11_stormNow 43 = .ok (.sipush 10007, 3) := by decide +kernel
theorem dX11_stormNow_46 : decode cX11_stormNow 46 = .ok (.irem, 1) := by decide +kernel
theorem dX11_stormNow_47 : decode cX11_stormNow 47 = .ok (.istore 4, 2) := by decide +kernel
theorem dX11_stormNow_49 : decode cX11_stormNow 49 = .ok (.aload_n 0, 1) := by decide +kernel
theorem dX11_stormNow_50 : decode cX11_stormNow 50 = .ok (.iload 6, 2) := by decide +kernel
theorem dX11_stormNow_52 : decode cX11_stormNow 52 = .ok (.iload 4, 2) := by decide +kernel
theorem dX11_stormNow_54 : decode cX11_stormNow 54 = .ok (.aload_n 0, 1) := by decide +kernel
theorem dX11_stormNow_55 : decode cX11_stormNow 55 = .ok (.invokevirtual 217, 3) := by decide +kernel
theorem dX11_stormNow_58 : decode cX11_stormNow 58 = .ok (.irem, 1) := by decide +kernel
theorem dX11_stormNow_59 : decode cX11_stormNow 59 = .ok (.invokevirtual 341, 3) := by decide +kernel
theorem dX11_stormNow_62 : decode cX11_stormNow 62 = .ok (.iload_n 3, 1) := by decide +kernel
theorem dX11_stormNow_63 : decode cX11_stormNow 63 = .ok (.ifCond .le 15, 3) := by decide +kernel
theorem dX11_stormNow_66 : decode cX11_stormNow 66 = .ok (.iload 5, 2) := by decide +kernel
theorem dX11_stormNow_68 : decode cX11_stormNow 68 = .ok (.iload_n 3, 1) := by decide +kernel
theorem dX11_stormNow_69 : decode cX11_stormNow 69 = .ok (.irem, 1) := by decide +kernel
theorem dX11_stormNow_70 : decode cX11_stormNow 70 = .ok (.ifCond .ne 8, 3) := by decide +kernel
theorem dX11_stormNow_73 : decode cX11_stormNow 73 = .ok (.aload_n 0, 1) := by decide +kernel
theorem dX11_stormNow_74 : decode cX11_stormNow 74 = .ok (.invokevirtual 344, 3) := by decide +kernel
theorem dX11_stormNow_77 : decode cX11_stormNow 77 = .ok (.pop, 1) := by decide +kernel
theorem dX11_stormNow_78 : decode cX11_stormNow 78 = .ok (.iinc 5 1, 3) := by decide +kernel
theorem dX11_stormNow_81 : decode cX11_stormNow 81 = .ok (.goto (-75), 3) := by decide +kernel
theorem dX11_stormNow_84 : decode cX11_stormNow 84 = .ok (.return_, 1) := by decide +kernel
def wW_X11_stormNow (G : GG) (h0 h1 h2 h3 y0_3 y0_4 y0_6 y0_18 y0_21 y0_22 y0_23 y0_24 y0_25 y0_26 y0_33 y0_34 y0_38 y0_39 y0_40 y0_41 y0_42 y0_43 y0_45 y0_46 y0_47 y0_48 : Nat) (x0_5 : Int32) (x0_7 : Int32) (x0_8 : Int32) (x0_9 : Int32) (x0_10 : Int32) (x0_11 : Int32) (x0_12 : Int32) (x0_13 : Int32) (x0_14 : Int32) (x0_15 : Int32) (x0_16 : Int32) (x0_17 : Int32) (x0_19 : Int32) (x0_20 : Int32) (x0_27 : Int32) (x0_28 : Int32) (x0_29 : Int32) (x0_30 : Int32) (x0_31 : Int32) (x0_32 : Int32) (x0_35 : Int32) (x0_36 : Int32) (x0_37 : Int32) (x0_44 : Int32) (x0_49 : Int32) (x0_50 : Int32) (a1 : Nat → Int32) (a2 : Nat → Int32) (a3 : Nat → Int32) : va_W := [(h0, .inr (11, [.ref h1, .ref h2, .ref h3, .ref y0_3, .ref y0_4, .int x0_5, .ref y0_6, .int x0_7, .int x0_8, .int x0_9, .int x0_10, .int x0_11, .int x0_12, .int x0_13, .int x0_14, .int x0_15, .int x0_16, .int x0_17, .ref y0_18, .int x0_19, .int x0_20, .ref y0_21, .ref y0_22, .ref y0_23, .ref y0_24, .ref y0_25, .ref y0_26, .int x0_27, .int x0_28, .int x0_29, .int x0_30, .int x0_31, .int x0_32, .ref y0_33, .ref y0_34, .int x0_35, .int x0_36, .int x0_37, .ref y0_38, .ref y0_39, .ref y0_40, .ref y0_41, .ref y0_42, .ref y0_43, .int x0_44, .ref y0_45, .ref y0_46, .ref y0_47, .ref y0_48, .int x0_49, .int x0_50])), (h1, .inl (G.2.1, 121, .inl a1)), (h2, .inl (G.2.1, 2, .inl a2)), (h3, .inl (G.2.1, 2, .inl a3))]
set_option maxHeartbeats 4000000 in
set_option maxRecDepth 100000 in
theorem c_X11_stormNow (l : Launch) (G : GG) (h0 h1 h2 h3 y0_3 y0_4 y0_6 y0_18 y0_21 y0_22 y0_23 y0_24 y0_25 y0_26 y0_33 y0_34 y0_38 y0_39 y0_40 y0_41 y0_42 y0_43 y0_45 y0_46 y0_47 y0_48 : Nat) (sz : Nat) (x0_5 : Int32) (x0_7 : Int32) (x0_8 : Int32) (x0_9 : Int32) (x0_10 : Int32) (x0_11 : Int32) (x0_12 : Int32) (x0_13 : Int32) (x0_14 : Int32) (x0_15 : Int32) (x0_16 : Int32) (x0_17 : Int32) (x0_19 : Int32) (x0_20 : Int32) (x0_27 : Int32) (x0_28 : Int32) (x0_29 : Int32) (x0_30 : Int32) (x0_31 : Int32) (x0_32 : Int32) (x0_35 : Int32) (x0_36 : Int32) (x0_37 : Int32) (x0_44 : Int32) (x0_49 : Int32) (x0_50 : Int32) (a1 : Nat → Int32) (a2 : Nat → Int32) (a3 : Nat → Int32) (F : Nat) (b1 : Int32) (b2 : Int32) (b3 : Int32)  (e_x0_29 : Int32) (e_x0_30 : Int32) (e_x0_31 : Int32) (e_x0_32 : Int32) (e_a1 : Nat → Int32) (hf : p_X11_stormNow F x0_5 x0_29 x0_30 x0_31 x0_32 a1 a2 a3 b1 b2 b3 = some (e_x0_29, e_x0_30, e_x0_31, e_x0_32, e_a1)) : Met l yX11_stormNow (.code yX11_stormNow cX11_stormNow 7 none :: gtbl) ({ frames := 9, cells := 0, slots := 0, locals := 208 } : Room) (PcS G [.ref h0, .int b1, .int b2, .int b3] (wW_X11_stormNow G h0 h1 h2 h3 y0_3 y0_4 y0_6 y0_18 y0_21 y0_22 y0_23 y0_24 y0_25 y0_26 y0_33 y0_34 y0_38 y0_39 y0_40 y0_41 y0_42 y0_43 y0_45 y0_46 y0_47 y0_48 x0_5 x0_7 x0_8 x0_9 x0_10 x0_11 x0_12 x0_13 x0_14 x0_15 x0_16 x0_17 x0_19 x0_20 x0_27 x0_28 x0_29 x0_30 x0_31 x0_32 x0_35 x0_36 x0_37 x0_44 x0_49 x0_50 a1 a2 a3) sz) (QvS G (va_A (wW_X11_stormNow G h0 h1 h2 h3 y0_3 y0_4 y0_6 y0_18 y0_21 y0_22 y0_23 y0_24 y0_25 y0_26 y0_33 y0_34 y0_38 y0_39 y0_40 y0_41 y0_42 y0_43 y0_45 y0_46 y0_47 y0_48 x0_5 x0_7 x0_8 x0_9 x0_10 x0_11 x0_12 x0_13 x0_14 x0_15 x0_16 x0_17 x0_19 x0_20 x0_27 x0_28 x0_29 x0_30 x0_31 x0_32 x0_35 x0_36 x0_37 x0_44 x0_49 x0_50 a1 a2 a3) sz) (wW_X11_stormNow G h0 h1 h2 h3 y0_3 y0_4 y0_6 y0_18 y0_21 y0_22 y0_23 y0_24 y0_25 y0_26 y0_33 y0_34 y0_38 y0_39 y0_40 y0_41 y0_42 y0_43 y0_45 y0_46 y0_47 y0_48 x0_5 x0_7 x0_8 x0_9 x0_10 x0_11 x0_12 x0_13 x0_14 x0_15 x0_16 x0_17 x0_19 x0_20 x0_27 x0_28 e_x0_29 e_x0_30 e_x0_31 e_x0_32 x0_35 x0_36 x0_37 x0_44 x0_49 x0_50 e_a1 a2 a3)) 0 0 (va_A (wW_X11_stormNow G h0 h1 h2 h3 y0_3 y0_4 y0_6 y0_18 y0_21 y0_22 y0_23 y0_24 y0_25 y0_26 y0_33 y0_34 y0_38 y0_39 y0_40 y0_41 y0_42 y0_43 y0_45 y0_46 y0_47 y0_48 x0_5 x0_7 x0_8 x0_9 x0_10 x0_11 x0_12 x0_13 x0_14 x0_15 x0_16 x0_17 x0_19 x0_20 x0_27 x0_28 x0_29 x0_30 x0_31 x0_32 x0_35 x0_36 x0_37 x0_44 x0_49 x0_50 a1 a2 a3) sz) := by
  refine met_start (by decide) (Nat.le_of_ble_eq_true rfl) ?_
  intro p e s m below meth c hC hr hlk hnm hK hP hD hA hS hX ls hl
  obtain ⟨hx, hb, hml, hown, ht0⟩ := hC
  have hown : s.vm.findClass RX11 = some m.cls := hown
  generalize va_A (wW_X11_stormNow G h0 h1 h2 h3 y0_3 y0_4 y0_6 y0_18 y0_21 y0_22 y0_23 y0_24 y0_25 y0_26 y0_33 y0_34 y0_38 y0_39 y0_40 y0_41 y0_42 y0_43 y0_45 y0_46 y0_47 y0_48 x0_5 x0_7 x0_8 x0_9 x0_10 x0_11 x0_12 x0_13 x0_14 x0_15 x0_16 x0_17 x0_19 x0_20 x0_27 x0_28 x0_29 x0_30 x0_31 x0_32 x0_35 x0_36 x0_37 x0_44 x0_49 x0_50 a1 a2 a3) sz = A at hD hA hS hX ⊢
  have hl : lv_has ls 7 [(0, .ref h0), (1, .int b1), (2, .int b2), (3, .int b3)] := hl
  have hf : p_X11_stormNow F x0_5 x0_29 x0_30 x0_31 x0_32 a1 a2 a3 b1 b2 b3 = some (e_x0_29, e_x0_30, e_x0_31, e_x0_32, e_a1) := hf
  have kL6 : ∀ (c6_2 : Int32) (c6_3 : Int32) (n6 : Nat) (u6_4 : Int32) (u6_5 : Int32) (x0_29_6 : Int32) (x0_30_6 : Int32) (x0_31_6 : Int32) (x0_32_6 : Int32) (a1_6 : Nat → Int32), p_X11_stormNow_L6 F x0_5 a2 a3 c6_2 c6_3 n6 u6_4 u6_5 x0_29_6 x0_30_6 x0_31_6 x0_32_6 a1_6 = some (e_x0_29, e_x0_30, e_x0_31, e_x0_32, e_a1) → ∀ (H : Heap) (locs : List Loc), va_P G.1 vwCl (wW_X11_stormNow G h0 h1 h2 h3 y0_3 y0_4 y0_6 y0_18 y0_21 y0_22 y0_23 y0_24 y0_25 y0_26 y0_33 y0_34 y0_38 y0_39 y0_40 y0_41 y0_42 y0_43 y0_45 y0_46 y0_47 y0_48 x0_5 x0_7 x0_8 x0_9 x0_10 x0_11 x0_12 x0_13 x0_14 x0_15 x0_16 x0_17 x0_19 x0_20 x0_27 x0_28 x0_29_6 x0_30_6 x0_31_6 x0_32_6 x0_35 x0_36 x0_37 x0_44 x0_49 x0_50 a1_6 a2 a3) H → va_D A (wW_X11_stormNow G h0 h1 h2 h3 y0_3 y0_4 y0_6 y0_18 y0_21 y0_22 y0_23 y0_24 y0_25 y0_26 y0_33 y0_34 y0_38 y0_39 y0_40 y0_41 y0_42 y0_43 y0_45 y0_46 y0_47 y0_48 x0_5 x0_7 x0_8 x0_9 x0_10 x0_11 x0_12 x0_13 x0_14 x0_15 x0_16 x0_17 x0_19 x0_20 x0_27 x0_28 x0_29_6 x0_30_6 x0_31_6 x0_32_6 x0_35 x0_36 x0_37 x0_44 x0_49 x0_50 a1_6 a2 a3) → va_S A s.heap H locs → ∀ ls : Array Slot, lv_has ls 7 [(0, .ref h0), (2, .int c6_2), (3, .int c6_3), (4, .int u6_4), (5, .int u6_5)] → W p l e ({ frames := 9, cells := 0, slots := 0, locals := 208 } : Room) s m (List.toArray [.ref h0, .int b1, .int b2, .int b3]) below meth c H locs 0 0 (MQ below (QvS G A (wW_X11_stormNow G h0 h1 h2 h3 y0_3 y0_4 y0_6 y0_18 y0_21 y0_22 y0_23 y0_24 y0_25 y0_26 y0_33 y0_34 y0_38 y0_39 y0_40 y0_41 y0_42 y0_43 y0_45 y0_46 y0_47 y0_48 x0_5 x0_7 x0_8 x0_9 x0_10 x0_11 x0_12 x0_13 x0_14 x0_15 x0_16 x0_17 x0_19 x0_20 x0_27 x0_28 e_x0_29 e_x0_30 e_x0_31 e_x0_32 x0_35 x0_36 x0_37 x0_44 x0_49 x0_50 e_a1 a2 a3)) (List.toArray [.ref h0, .int b1, .int b2, .int b3]) s 0 0 A) (F0 m 6 ls []) := by
    intro c6_2 c6_3 n6
    induction n6 with
    | zero =>
      intro u6_4 u6_5 x0_29_6 x0_30_6 x0_31_6 x0_32_6 a1_6 hf
      cases hf
    | succ n6 ih6 =>
      have kJ78 : ∀ (u78_4 : Int32) (u78_5 : Int32) (x0_29_78 : Int32) (x0_30_78 : Int32) (x0_31_78 : Int32) (x0_32_78 : Int32) (a1_78 : Nat → Int32), p_X11_stormNow_J78 F x0_5 a2 a3 c6_2 c6_3 (p_X11_stormNow_L6 F x0_5 a2 a3 c6_2 c6_3 n6) u78_4 u78_5 x0_29_78 x0_30_78 x0_31_78 x0_32_78 a1_78 = some (e_x0_29, e_x0_30, e_x0_31, e_x0_32, e_a1) → ∀ (H : Heap) (locs : List Loc), va_P G.1 vwCl (wW_X11_stormNow G h0 h1 h2 h3 y0_3 y0_4 y0_6 y0_18 y0_21 y0_22 y0_23 y0_24 y0_25 y0_26 y0_33 y0_34 y0_38 y0_39 y0_40 y0_41 y0_42 y0_43 y0_45 y0_46 y0_47 y0_48 x0_5 x0_7 x0_8 x0_9 x0_10 x0_11 x0_12 x0_13 x0_14 x0_15 x0_16 x0_17 x0_19 x0_20 x0_27 x0_28 x0_29_78 x0_30_78 x0_31_78 x0_32_78 x0_35 x0_36 x0_37 x0_44 x0_49 x0_50 a1_78 a2 a3) H → va_D A (wW_X11_stormNow G h0 h1 h2 h3 y0_3 y0_4 y0_6 y0_18 y0_21 y0_22 y0_23 y0_24 y0_25 y0_26 y0_33 y0_34 y0_38 y0_39 y0_40 y0_41 y0_42 y0_43 y0_45 y0_46 y0_47 y0_48 x0_5 x0_7 x0_8 x0_9 x0_10 x0_11 x0_12 x0_13 x0_14 x0_15 x0_16 x0_17 x0_19 x0_20 x0_27 x0_28 x0_29_78 x0_30_78 x0_31_78 x0_32_78 x0_35 x0_36 x0_37 x0_44 x0_49 x0_50 a1_78 a2 a3) → va_S A s.heap H locs → ∀ ls : Array Slot, lv_has ls 7 [(0, .ref h0), (2, .int c6_2), (3, .int c6_3), (4, .int u78_4), (5, .int u78_5)] → W p l e ({ frames := 9, cells := 0, slots := 0, locals := 208 } : Room) s m (List.toArray [.ref h0, .int b1, .int b2, .int b3]) below meth c H locs 0 0 (MQ below (QvS G A (wW_X11_stormNow G h0 h1 h2 h3 y0_3 y0_4 y0_6 y0_18 y0_21 y0_22 y0_23 y0_24 y0_25 y0_26 y0_33 y0_34 y0_38 y0_39 y0_40 y0_41 y0_42 y0_43 y0_45 y0_46 y0_47 y0_48 x0_5 x0_7 x0_8 x0_9 x0_10 x0_11 x0_12 x0_13 x0_14 x0_15 x0_16 x0_17 x0_19 x0_20 x0_27 x0_28 e_x0_29 e_x0_30 e_x0_31 e_x0_32 x0_35 x0_36 x0_37 x0_44 x0_49 x0_50 e_a1 a2 a3)) (List.toArray [.ref h0, .int b1, .int b2, .int b3]) s 0 0 A) (F0 m 78 ls []) := by
        intro u78_4 u78_5 x0_29_78 x0_30_78 x0_31_78 x0_32_78 a1_78 hf H locs hP hD hS ls hl
        refine lv_iinc (v := u78_5 + (1 : Int32)) (lv' := [(5, .int (u78_5 + (1 : Int32))), (0, .ref h0), (2, .int c6_2), (3, .int c6_3), (4, .int u78_4)]) hx hb dX11_stormNow_78 hl (k := 4) rfl (by rfl) (by decide) rfl (fun ls hl => ?_)
        refine lv_goto (tgt := 6) hx hb dX11_stormNow_81 (by decide) ?_
        exact ih6 _ _ _ _ _ _ _ hf _ _ hP hD hS _ (lv_sub hl [1, 2, 3, 4, 0] rfl)
      intro u6_4 u6_5 x0_29_6 x0_30_6 x0_31_6 x0_32_6 a1_6 hf H locs hP hD hS ls hl
      have hf : p_X11_stormNow_L6b F x0_5 a2 a3 c6_2 c6_3 (p_X11_stormNow_L6 F x0_5 a2 a3 c6_2 c6_3 n6) u6_4 u6_5 x0_29_6 x0_30_6 x0_31_6 x0_32_6 a1_6 = some (e_x0_29, e_x0_30, e_x0_31, e_x0_32, e_a1) := hf
      refine lv_iload hx hb dX11_stormNow_6 (lv_at hl 4 rfl) ?_
      refine lv_iload_n hx hb dX11_stormNow_8 rfl (lv_at hl 1 rfl) ?_
      refine lv_icmp_gt (tgt := 84) hx hb dX11_stormNow_9 (by decide) (fun c1 => ?_) (fun c1 => ?_)
      · have hf := of_pos hf c1
        cases hf
        exact ret_v hx hb hr hlk hK hP hD hS dX11_stormNow_84
      · have hf := of_neg hf c1
        refine lv_sipush (v := (137 : Int32)) hx hb dX11_stormNow_12 (by decide) ?_
        refine lv_iload hx hb dX11_stormNow_15 (lv_at hl 3 rfl) ?_
        refine lv_imul hx hb dX11_stormNow_17 ?_
        refine lv_bipush (v := (71 : Int32)) hx hb dX11_stormNow_18 (by decide) ?_
        refine lv_iadd hx hb dX11_stormNow_20 ?_
        refine lv_sipush (v := (10007 : Int32)) hx hb dX11_stormNow_21 (by decide) ?_
        refine lv_irem hx hb dX11_stormNow_24 (by decide) ?_
        refine lv_topi (fun z2 ez2 => ?_)
        have hf := of_jlet hf ez2
        refine lv_istore (lv' := [(4, .int z2), (0, .ref h0), (2, .int c6_2), (3, .int c6_3), (5, .int u6_5)]) hx hb dX11_stormNow_25 hl (by decide) rfl (fun ls hl => ?_)
        refine lv_iload hx hb dX11_stormNow_27 (lv_at hl 0 rfl) ?_
        refine lv_bipush (v := (16 : Int32)) hx hb dX11_stormNow_29 (by decide) ?_
        refine lv_irem hx hb dX11_stormNow_31 (by decide) ?_
        refine lv_istore (lv' := [(6, .int (z2 - z2 / (16 : Int32) * (16 : Int32))), (4, .int z2), (0, .ref h0), (2, .int c6_2), (3, .int c6_3), (5, .int u6_5)]) hx hb dX11_stormNow_32 hl (by decide) rfl (fun ls hl => ?_)
        refine lv_sipush (v := (137 : Int32)) hx hb dX11_stormNow_34 (by decide) ?_
        refine lv_iload hx hb dX11_stormNow_37 (lv_at hl 1 rfl) ?_
        refine lv_imul hx hb dX11_stormNow_39 ?_
        refine lv_bipush (v := (71 : Int32)) hx hb dX11_stormNow_40 (by decide) ?_
        refine lv_iadd hx hb dX11_stormNow_42 ?_
        refine lv_sipush (v := (10007 : Int32)) hx hb dX11_stormNow_43 (by decide) ?_
        refine lv_irem hx hb dX11_stormNow_46 (by decide) ?_
        refine lv_topi (fun z3 ez3 => ?_)
        have hf := of_jlet hf ez3
        refine lv_istore (lv' := [(4, .int z3), (6, .int (z2 - z2 / (16 : Int32) * (16 : Int32))), (0, .ref h0), (2, .int c6_2), (3, .int c6_3), (5, .int u6_5)]) hx hb dX11_stormNow_47 hl (by decide) rfl (fun ls hl => ?_)
        refine lv_aload_n hx hb dX11_stormNow_49 rfl (lv_at hl 2 rfl) ?_
        refine lv_iload hx hb dX11_stormNow_50 (lv_at hl 1 rfl) ?_
        refine lv_iload hx hb dX11_stormNow_52 (lv_at hl 0 rfl) ?_
        refine lv_aload_n hx hb dX11_stormNow_54 rfl (lv_at hl 2 rfl) ?_
        obtain ⟨r_55_3, hc_r_55_3, hf⟩ := of_bnd hf
        refine cl_Vi (w2 := (wW_X11_stormNow G h0 h1 h2 h3 y0_3 y0_4 y0_6 y0_18 y0_21 y0_22 y0_23 y0_24 y0_25 y0_26 y0_33 y0_34 y0_38 y0_39 y0_40 y0_41 y0_42 y0_43 y0_45 y0_46 y0_47 y0_48 x0_5 x0_7 x0_8 x0_9 x0_10 x0_11 x0_12 x0_13 x0_14 x0_15 x0_16 x0_17 x0_19 x0_20 x0_27 x0_28 x0_29_6 x0_30_6 x0_31_6 x0_32_6 x0_35 x0_36 x0_37 x0_44 x0_49 x0_50 a1_6 a2 a3)) (As := []) (rest := [.int z3, .int (z2 - z2 / (16 : Int32) * (16 : Int32)), .ref h0]) ⟨hx, hb, hml, hown, ht0⟩ (c_X11_places l G h0 h2 h3 h1 y0_3 y0_4 y0_6 y0_18 y0_21 y0_22 y0_23 y0_24 y0_25 y0_26 y0_33 y0_34 y0_38 y0_39 y0_40 y0_41 y0_42 y0_43 y0_45 y0_46 y0_47 y0_48 _ x0_5 x0_7 x0_8 x0_9 x0_10 x0_11 x0_12 x0_13 x0_14 x0_15 x0_16 x0_17 x0_19 x0_20 x0_27 x0_28 x0_29_6 x0_30_6 x0_31_6 x0_32_6 x0_35 x0_36 x0_37 x0_44 x0_49 x0_50 a2 a3 F _ hc_r_55_3) yk_X11_places wd_1572 ⟨rfl, rfl, by decide, by decide⟩ ⟨Nat.le_refl _, Nat.le_refl _⟩ hX hK hP hD hS hA [0, 2, 3] [1] [1, 0, 2, 3] (va_recv hK hP (ci := 11) (q0 := 0) rfl rfl) rfl rfl (by decide) rfl rfl rfl rfl rfl hl.1 rfl (Nat.le_of_ble_eq_true rfl) dX11_stormNow_55 (fun H locs hP hD hS => ?_)
        obtain ⟨g5, hf⟩ := of_grd hf
        refine lv_irem hx hb dX11_stormNow_58 g5 ?_
        obtain ⟨r_59_5_a1, hc_r_59_5, hf⟩ := of_bnd hf
        refine cl_Vv (w2 := (wW_X11_stormNow G h0 h1 h2 h3 y0_3 y0_4 y0_6 y0_18 y0_21 y0_22 y0_23 y0_24 y0_25 y0_26 y0_33 y0_34 y0_38 y0_39 y0_40 y0_41 y0_42 y0_43 y0_45 y0_46 y0_47 y0_48 x0_5 x0_7 x0_8 x0_9 x0_10 x0_11 x0_12 x0_13 x0_14 x0_15 x0_16 x0_17 x0_19 x0_20 x0_27 x0_28 x0_29_6 x0_30_6 x0_31_6 x0_32_6 x0_35 x0_36 x0_37 x0_44 x0_49 x0_50 r_59_5_a1 a2 a3)) (As := [.int (z2 - z2 / (16 : Int32) * (16 : Int32)), .int (z3 - z3 / r_55_3 * r_55_3)]) (rest := []) ⟨hx, hb, hml, hown, ht0⟩ (c_X11_slipNow l G h0 h1 h2 h3 y0_3 y0_4 y0_6 y0_18 y0_21 y0_22 y0_23 y0_24 y0_25 y0_26 y0_33 y0_34 y0_38 y0_39 y0_40 y0_41 y0_42 y0_43 y0_45 y0_46 y0_47 y0_48 _ x0_5 x0_7 x0_8 x0_9 x0_10 x0_11 x0_12 x0_13 x0_14 x0_15 x0_16 x0_17 x0_19 x0_20 x0_27 x0_28 x0_29_6 x0_30_6 x0_31_6 x0_32_6 x0_35 x0_36 x0_37 x0_44 x0_49 x0_50 a1_6 a2 F (z2 - z2 / (16 : Int32) * (16 : Int32)) (z3 - z3 / r_55_3 * r_55_3) _ hc_r_59_5) yk_X11_slipNow wd_1695 ⟨rfl, rfl, by decide, by decide⟩ ⟨Nat.le_refl _, Nat.le_refl _⟩ hX hK hP hD hS hA [0, 1, 2] [3] [1, 2, 3, 0] (va_recv hK hP (ci := 11) (q0 := 0) rfl rfl) rfl rfl (by decide) rfl rfl rfl rfl rfl hl.1 rfl (Nat.le_of_ble_eq_true rfl) dX11_stormNow_59 (fun H locs hP hD hS => ?_)
        refine lv_iload_n hx hb dX11_stormNow_62 rfl (lv_at hl 4 rfl) ?_
        refine lv_if_le (tgt := 78) hx hb dX11_stormNow_63 (by decide) (fun c7 => ?_) (fun c7 => ?_)
        · have hf := of_pos hf c7
          exact kJ78 _ _ _ _ _ _ _ hf _ _ hP hD hS _ (lv_sub hl [2, 3, 4, 0, 5] rfl)
        · have hf := of_neg hf c7
          refine lv_iload hx hb dX11_stormNow_66 (lv_at hl 5 rfl) ?_
          refine lv_iload_n hx hb dX11_stormNow_68 rfl (lv_at hl 4 rfl) ?_
          obtain ⟨g8, hf⟩ := of_grd hf
          refine lv_irem hx hb dX11_stormNow_69 g8 ?_
          refine lv_if_ne (tgt := 78) hx hb dX11_stormNow_70 (by decide) (fun c9 => ?_) (fun c9 => ?_)
          · have hf := of_neg hf c9
            exact kJ78 _ _ _ _ _ _ _ hf _ _ hP hD hS _ (lv_sub hl [2, 3, 4, 0, 5] rfl)
          · have hf := of_pos hf c9
            refine lv_aload_n hx hb dX11_stormNow_73 rfl (lv_at hl 2 rfl) ?_
            obtain ⟨⟨r_74_9, r_74_9_x0_29, r_74_9_x0_30, r_74_9_x0_31, r_74_9_x0_32, r_74_9_a1⟩, hc_r_74_9, hf⟩ := of_bnd hf
            refine cl_Vi (w2 := (wW_X11_stormNow G h0 h1 h2 h3 y0_3 y0_4 y0_6 y0_18 y0_21 y0_22 y0_23 y0_24 y0_25 y0_26 y0_33 y0_34 y0_38 y0_39 y0_40 y0_41 y0_42 y0_43 y0_45 y0_46 y0_47 y0_48 x0_5 x0_7 x0_8 x0_9 x0_10 x0_11 x0_12 x0_13 x0_14 x0_15 x0_16 x0_17 x0_19 x0_20 x0_27 x0_28 r_74_9_x0_29 r_74_9_x0_30 r_74_9_x0_31 r_74_9_x0_32 x0_35 x0_36 x0_37 x0_44 x0_49 x0_50 r_74_9_a1 a2 a3)) (As := []) (rest := []) ⟨hx, hb, hml, hown, ht0⟩ (c_X11_scrubNow l G h0 h1 h2 h3 y0_3 y0_4 y0_6 y0_18 y0_21 y0_22 y0_23 y0_24 y0_25 y0_26 y0_33 y0_34 y0_38 y0_39 y0_40 y0_41 y0_42 y0_43 y0_45 y0_46 y0_47 y0_48 _ x0_5 x0_7 x0_8 x0_9 x0_10 x0_11 x0_12 x0_13 x0_14 x0_15 x0_16 x0_17 x0_19 x0_20 x0_27 x0_28 x0_29_6 x0_30_6 x0_31_6 x0_32_6 x0_35 x0_36 x0_37 x0_44 x0_49 x0_50 r_59_5_a1 a2 a3 F _ _ _ _ _ _ hc_r_74_9) yk_X11_scrubNow wd_1683 ⟨rfl, rfl, by decide, by decide⟩ ⟨Nat.le_refl _, Nat.le_refl _⟩ hX hK hP hD hS hA [0, 1, 2, 3] [] [0, 1, 2, 3] (va_recv hK hP (ci := 11) (q0 := 0) rfl rfl) rfl rfl (by decide) rfl rfl rfl rfl rfl hl.1 rfl (Nat.le_of_ble_eq_true rfl) dX11_stormNow_74 (fun H locs hP hD hS => ?_)
            refine lv_pop hx hb dX11_stormNow_77 rfl ?_
            exact kJ78 _ _ _ _ _ _ _ hf _ _ hP hD hS _ (lv_sub hl [2, 3, 4, 0, 5] rfl)
  refine lv_iload_n hx hb dX11_stormNow_0 rfl (lv_at hl 1 rfl) ?_
  refine lv_istore (lv' := [(4, .int b1), (0, .ref h0), (1, .int b1), (2, .int b2), (3, .int b3)]) hx hb dX11_stormNow_1 hl (by decide) rfl (fun ls hl => ?_)
  refine lv_iconst (v := (1 : Int32)) hx hb dX11_stormNow_3 (by decide) ?_
  refine lv_istore (lv' := [(5, .int (1 : Int32)), (4, .int b1), (0, .ref h0), (1, .int b1), (2, .int b2), (3, .int b3)]) hx hb dX11_stormNow_4 hl (by decide) rfl (fun ls hl => ?_)
  exact kL6 _ _ _ _ _ _ _ _ _ _ hf _ _ hP hD hS _ (lv_sub hl [2, 4, 5, 1, 0] rfl)
theorem yk_X11_stormNow : ykV yX11_stormNow RX11 cX11_stormNow 7 none 3 := ⟨wd_1716, wd_96, wd_142, wd_1717, rfl, by decide +kernel, by decide +kernel, by decide +kernel⟩
theorem dX11_isMeant_0 : decode cX11_isMeant 0 = .ok (.aload_n 0, 1) := by decide +kernel
theorem dX11_isMeant_1 : decode cX11_isMeant 1 = .ok (.getfield 7, 3) := by decide +kernel
theorem dX11_isMeant_4 : decode cX11_isMeant 4 = .ok (.bipush 33, 2) := by decide +kernel
theorem dX11_isMeant_6 : decode cX11_isMeant 6 = .ok (.iload_n 1, 1) := by decide +kernel
theorem dX11_isMeant_7 : decode cX11_isMeant 7 = .ok (.iadd, 1) := by decide +kernel
theorem dX11_isMeant_8 : decode cX11_isMeant 8 = .ok (.iaload, 1) := by decide +kernel
theorem dX11_isMeant_9 : decode cX11_isMeant 9 = .ok (.aload_n 0, 1) := by decide +kernel
theorem dX11_isMeant_10 : decode cX11_isMeant 10 = .ok (.getfield 7, 3) := by decide +kernel
theorem dX11_isMeant_13 : decode cX11_isMeant 13 = .ok (.bipush 65, 2) := by decide +kernel
theorem dX11_isMeant_15 : decode cX11_isMeant 15 = .ok (.iload_n 1, 1) := by decide +kernel
theorem dX11_isMeant_16 : decode cX11_isMeant 16 = .ok (.iadd, 1) := by decide +kernel
theorem dX11_isMeant_17 : decode cX11_isMeant 17 = .ok (.iaload, 1) := by decide +kernel
theorem dX11_isMeant_18 : decode cX11_isMeant 18 = .ok (.if_icmp .ne 32, 3) := by decide +kernel
theorem dX11_isMeant_21 : decode cX11_isMeant 21 = .ok (.aload_n 0, 1) := by decide +kernel
theorem dX11_isMeant_22 : decode cX11_isMeant 22 = .ok (.getfield 7, 3) := by decide +kernel
theorem dX11_isMeant_25 : decode cX11_isMeant 25 = .ok (.bipush 49, 2) := by decide +kernel
theorem dX11_isMeant_27 : decode cX11_isMeant 27 = .ok (.iload_n 1, 1) := by decide +kernel
theorem dX11_isMeant_28 : decode cX11_isMeant 28 = .ok (.iadd, 1) := by decide +kernel
theorem dX11_isMeant_29 : decode cX11_isMeant 29 = .ok (.iaload, 1) := by decide +kernel
theorem dX11_isMeant_30 : decode cX11_isMeant 30 = .ok (.aload_n 0, 1) := by decide +kernel
theorem dX11_isMeant_31 : decode cX11_isMeant 31 = .ok (.aload_n 0, 1) := by decide +kernel
theorem dX11_isMeant_32 : decode cX11_isMeant 32 = .ok (.getfield 7, 3) := by decide +kernel
theorem dX11_isMeant_35 : decode cX11_isMeant 35 = .ok (.bipush 65, 2) := by decide +kernel
theorem dX11_isMeant_37 : decode cX11_isMeant 37 = .ok (.iload_n 1, 1) := by decide +kernel
theorem dX11_isMeant_38 : decode cX11_isMeant 38 = .ok (.iadd, 1) := by decide +kernel
theorem dX11_isMeant_39 : decode cX11_isMeant 39 = .ok (.iaload, 1) := by decide +kernel
theorem dX11_isMeant_40 : decode cX11_isMeant 40 = .ok (.invokevirtual 227, 3) := by decide +kernel
theorem dX11_isMeant_43 : decode cX11_isMeant 43 = .ok (.if_icmp .ne 7, 3) := by decide +kernel
theorem dX11_isMeant_46 : decode cX11_isMeant 46 = .ok (.iconst 1, 1) := by decide +kernel
theorem dX11_isMeant_47 : decode cX11_isMeant 47 = .ok (.goto 4, 3) := by decide +kernel
theorem dX11_isMeant_50 : decode cX11_isMeant 50 = .ok (.iconst 0, 1) := by decide +kernel
theorem dX11_isMeant_51 : decode cX11_isMeant 51 = .ok (.ireturn, 1) := by decide +kernel
def wW_X11_isMeant (G : GG) (h0 h1 h2 y0_2 y0_3 y0_4 y0_6 y0_18 y0_21 y0_22 y0_23 y0_24 y0_25 y0_26 y0_33 y0_34 y0_38 y0_39 y0_40 y0_41 y0_42 y0_43 y0_45 y0_46 y0_47 y0_48 : Nat) (x0_5 : Int32) (x0_7 : Int32) (x0_8 : Int32) (x0_9 : Int32) (x0_10 : Int32) (x0_11 : Int32) (x0_12 : Int32) (x0_13 : Int32) (x0_14 : Int32) (x0_15 : Int32) (x0_16 : Int32) (x0_17 : Int32) (x0_19 : Int32) (x0_20 : Int32) (x0_27 : Int32) (x0_28 : Int32) (x0_29 : Int32) (x0_30 : Int32) (x0_31 : Int32) (x0_32 : Int32) (x0_35 : Int32) (x0_36 : Int32) (x0_37 : Int32) (x0_44 : Int32) (x0_49 : Int32) (x0_50 : Int32) (a1 : Nat → Int32) (a2 : Nat → Int32) : va_W := [(h0, .inr (11, [.ref h1, .ref h2, .ref y0_2, .ref y0_3, .ref y0_4, .int x0_5, .ref y0_6, .int x0_7, .int x0_8, .int x0_9, .int x0_10, .int x0_11, .int x0_12, .int x0_13, .int x0_14, .int x0_15, .int x0_16, .int x0_17, .ref y0_18, .int x0_19, .int x0_20, .ref y0_21, .ref y0_22, .ref y0_23, .ref y0_24, .ref y0_25, .ref y0_26, .int x0_27, .int x0_28, .int x0_29, .int x0_30, .int x0_31, .int x0_32, .ref y0_33, .ref y0_34, .int x0_35, .int x0_36, .int x0_37, .ref y0_38, .ref y0_39, .ref y0_40, .ref y0_41, .ref y0_42, .ref y0_43, .int x0_44, .ref y0_45, .ref y0_46, .ref y0_47, .ref y0_48, .int x0_49, .int x0_50])), (h1, .inl (G.2.1, 121, .inl a1)), (h2, .inl (G.2.1, 2, .inl a2))]
set_option maxHeartbeats 4000000 in
set_option maxRecDepth 100000 in
theorem c_X11_isMeant (l : Launch) (G : GG) (h0 h1 h2 y0_2 y0_3 y0_4 y0_6 y0_18 y0_21 y0_22 y0_23 y0_24 y0_25 y0_26 y0_33 y0_34 y0_38 y0_39 y0_40 y0_41 y0_42 y0_43 y0_45 y0_46 y0_47 y0_48 : Nat) (sz : Nat) (x0_5 : Int32) (x0_7 : Int32) (x0_8 : Int32) (x0_9 : Int32) (x0_10 : Int32) (x0_11 : Int32) (x0_12 : Int32) (x0_13 : Int32) (x0_14 : Int32) (x0_15 : Int32) (x0_16 : Int32) (x0_17 : Int32) (x0_19 : Int32) (x0_20 : Int32) (x0_27 : Int32) (x0_28 : Int32) (x0_29 : Int32) (x0_30 : Int32) (x0_31 : Int32) (x0_32 : Int32) (x0_35 : Int32) (x0_36 : Int32) (x0_37 : Int32) (x0_44 : Int32) (x0_49 : Int32) (x0_50 : Int32) (a1 : Nat → Int32) (a2 : Nat → Int32) (F : Nat) (b1 : Int32)  (r0 : Int32) (hf : p_X11_isMeant F x0_5 a1 a2 b1 = some r0) : Met l yX11_isMeant (.code yX11_isMeant cX11_isMeant 2 (some .boolean) :: gtbl) ({ frames := 2, cells := 0, slots := 0, locals := 44 } : Room) (PcS G [.ref h0, .int b1] (wW_X11_isMeant G h0 h1 h2 y0_2 y0_3 y0_4 y0_6 y0_18 y0_21 y0_22 y0_23 y0_24 y0_25 y0_26 y0_33 y0_34 y0_38 y0_39 y0_40 y0_41 y0_42 y0_43 y0_45 y0_46 y0_47 y0_48 x0_5 x0_7 x0_8 x0_9 x0_10 x0_11 x0_12 x0_13 x0_14 x0_15 x0_16 x0_17 x0_19 x0_20 x0_27 x0_28 x0_29 x0_30 x0_31 x0_32 x0_35 x0_36 x0_37 x0_44 x0_49 x0_50 a1 a2) sz) (QiS G r0 (va_A (wW_X11_isMeant G h0 h1 h2 y0_2 y0_3 y0_4 y0_6 y0_18 y0_21 y0_22 y0_23 y0_24 y0_25 y0_26 y0_33 y0_34 y0_38 y0_39 y0_40 y0_41 y0_42 y0_43 y0_45 y0_46 y0_47 y0_48 x0_5 x0_7 x0_8 x0_9 x0_10 x0_11 x0_12 x0_13 x0_14 x0_15 x0_16 x0_17 x0_19 x0_20 x0_27 x0_28 x0_29 x0_30 x0_31 x0_32 x0_35 x0_36 x0_37 x0_44 x0_49 x0_50 a1 a2) sz) (wW_X11_isMeant G h0 h1 h2 y0_2 y0_3 y0_4 y0_6 y0_18 y0_21 y0_22 y0_23 y0_24 y0_25 y0_26 y0_33 y0_34 y0_38 y0_39 y0_40 y0_41 y0_42 y0_43 y0_45 y0_46 y0_47 y0_48 x0_5 x0_7 x0_8 x0_9 x0_10 x0_11 x0_12 x0_13 x0_14 x0_15 x0_16 x0_17 x0_19 x0_20 x0_27 x0_28 x0_29 x0_30 x0_31 x0_32 x0_35 x0_36 x0_37 x0_44 x0_49 x0_50 a1 a2)) 0 0 (va_A (wW_X11_isMeant G h0 h1 h2 y0_2 y0_3 y0_4 y0_6 y0_18 y0_21 y0_22 y0_23 y0_24 y0_25 y0_26 y0_33 y0_34 y0_38 y0_39 y0_40 y0_41 y0_42 y0_43 y0_45 y0_46 y0_47 y0_48 x0_5 x0_7 x0_8 x0_9 x0_10 x0_11 x0_12 x0_13 x0_14 x0_15 x0_16 x0_17 x0_19 x0_20 x0_27 x0_28 x0_29 x0_30 x0_31 x0_32 x0_35 x0_36 x0_37 x0_44 x0_49 x0_50 a1 a2) sz) := by
  refine met_start (by decide) (Nat.le_of_ble_eq_true rfl) ?_
  intro p e s m below meth c hC hr hlk hnm hK hP hD hA hS hX ls hl
  obtain ⟨hx, hb, hml, hown, ht0⟩ := hC
  have hown : s.vm.findClass RX11 = some m.cls := hown
  generalize va_A (wW_X11_isMeant G h0 h1 h2 y0_2 y0_3 y0_4 y0_6 y0_18 y0_21 y0_22 y0_23 y0_24 y0_25 y0_26 y0_33 y0_34 y0_38 y0_39 y0_40 y0_41 y0_42 y0_43 y0_45 y0_46 y0_47 y0_48 x0_5 x0_7 x0_8 x0_9 x0_10 x0_11 x0_12 x0_13 x0_14 x0_15 x0_16 x0_17 x0_19 x0_20 x0_27 x0_28 x0_29 x0_30 x0_31 x0_32 x0_35 x0_36 x0_37 x0_44 x0_49 x0_50 a1 a2) sz = A at hD hA hS hX ⊢
  have hl : lv_has ls 2 [(0, .ref h0), (1, .int b1)] := hl
  have hf : p_X11_isMeant F x0_5 a1 a2 b1 = some r0 := hf
  refine lv_aload_n hx hb dX11_isMeant_0 rfl (lv_at hl 0 rfl) ?_
  refine va_get (ci := 11) (v := .ref h1) (C := RX11) (T := TX11) (N := 51) hx hb ht0 iX11 hown hK hP 0 rfl rfl 0 (by decide) (ht0 _ wd_1406) (fun _ h9 => h9) rfl dX11_isMeant_1 ?_
  refine lv_bipush (v := (33 : Int32)) hx hb dX11_isMeant_4 (by decide) ?_
  refine lv_iload_n hx hb dX11_isMeant_6 rfl (lv_at hl 1 rfl) ?_
  refine lv_iadd hx hb dX11_isMeant_7 ?_
  obtain ⟨g1, hf⟩ := of_grd hf
  refine va_iald hx hb hK hP 1 0 rfl rfl g1 dX11_isMeant_8 ?_
  refine lv_aload_n hx hb dX11_isMeant_9 rfl (lv_at hl 0 rfl) ?_
  refine va_get (ci := 11) (v := .ref h1) (C := RX11) (T := TX11) (N := 51) hx hb ht0 iX11 hown hK hP 0 rfl rfl 0 (by decide) (ht0 _ wd_1406) (fun _ h9 => h9) rfl dX11_isMeant_10 ?_
  refine lv_bipush (v := (65 : Int32)) hx hb dX11_isMeant_13 (by decide) ?_
  refine lv_iload_n hx hb dX11_isMeant_15 rfl (lv_at hl 1 rfl) ?_
  refine lv_iadd hx hb dX11_isMeant_16 ?_
  obtain ⟨g2, hf⟩ := of_grd hf
  refine va_iald hx hb hK hP 1 0 rfl rfl g2 dX11_isMeant_17 ?_
  refine lv_icmp_ne (tgt := 50) hx hb dX11_isMeant_18 (by decide) (fun c3 => ?_) (fun c3 => ?_)
  · have hf := of_neg hf c3
    refine lv_iconst (v := (0 : Int32)) hx hb dX11_isMeant_50 (by decide) ?_
    cases hf
    exact ret_z hx hb hr hlk hK hP hD hS (by decide) dX11_isMeant_51
  · have hf := of_pos hf c3
    refine lv_aload_n hx hb dX11_isMeant_21 rfl (lv_at hl 0 rfl) ?_
    refine va_get (ci := 11) (v := .ref h1) (C := RX11) (T := TX11) (N := 51) hx hb ht0 iX11 hown hK hP 0 rfl rfl 0 (by decide) (ht0 _ wd_1406) (fun _ h9 => h9) rfl dX11_isMeant_22 ?_
    refine lv_bipush (v := (49 : Int32)) hx hb dX11_isMeant_25 (by decide) ?_
    refine lv_iload_n hx hb dX11_isMeant_27 rfl (lv_at hl 1 rfl) ?_
    refine lv_iadd hx hb dX11_isMeant_28 ?_
    obtain ⟨g4, hf⟩ := of_grd hf
    refine va_iald hx hb hK hP 1 0 rfl rfl g4 dX11_isMeant_29 ?_
    refine lv_aload_n hx hb dX11_isMeant_30 rfl (lv_at hl 0 rfl) ?_
    refine lv_aload_n hx hb dX11_isMeant_31 rfl (lv_at hl 0 rfl) ?_
    refine va_get (ci := 11) (v := .ref h1) (C := RX11) (T := TX11) (N := 51) hx hb ht0 iX11 hown hK hP 0 rfl rfl 0 (by decide) (ht0 _ wd_1406) (fun _ h9 => h9) rfl dX11_isMeant_32 ?_
    refine lv_bipush (v := (65 : Int32)) hx hb dX11_isMeant_35 (by decide) ?_
    refine lv_iload_n hx hb dX11_isMeant_37 rfl (lv_at hl 1 rfl) ?_
    refine lv_iadd hx hb dX11_isMeant_38 ?_
    obtain ⟨g5, hf⟩ := of_grd hf
    refine va_iald hx hb hK hP 1 0 rfl rfl g5 dX11_isMeant_39 ?_
    obtain ⟨r_40_5, hc_r_40_5, hf⟩ := of_bnd hf
    refine cl_Vi (w2 := (wW_X11_isMeant G h0 h1 h2 y0_2 y0_3 y0_4 y0_6 y0_18 y0_21 y0_22 y0_23 y0_24 y0_25 y0_26 y0_33 y0_34 y0_38 y0_39 y0_40 y0_41 y0_42 y0_43 y0_45 y0_46 y0_47 y0_48 x0_5 x0_7 x0_8 x0_9 x0_10 x0_11 x0_12 x0_13 x0_14 x0_15 x0_16 x0_17 x0_19 x0_20 x0_27 x0_28 x0_29 x0_30 x0_31 x0_32 x0_35 x0_36 x0_37 x0_44 x0_49 x0_50 a1 a2)) (As := [.int (a1 ((65 : Int32) + b1).toNatClampNeg)]) (rest := [.int (a1 ((49 : Int32) + b1).toNatClampNeg)]) ⟨hx, hb, hml, hown, ht0⟩ (c_X11_checksOf l G h0 h1 h2 y0_2 y0_3 y0_4 y0_6 y0_18 y0_21 y0_22 y0_23 y0_24 y0_25 y0_26 y0_33 y0_34 y0_38 y0_39 y0_40 y0_41 y0_42 y0_43 y0_45 y0_46 y0_47 y0_48 _ x0_5 x0_7 x0_8 x0_9 x0_10 x0_11 x0_12 x0_13 x0_14 x0_15 x0_16 x0_17 x0_19 x0_20 x0_27 x0_28 x0_29 x0_30 x0_31 x0_32 x0_35 x0_36 x0_37 x0_44 x0_49 x0_50 a1 a2 F (a1 ((65 : Int32) + b1).toNatClampNeg) _ hc_r_40_5) yk_X11_checksOf wd_1394 ⟨rfl, rfl, by decide, by decide⟩ ⟨Nat.le_refl _, Nat.le_refl _⟩ hX hK hP hD hS hA [0, 1, 2] [] [0, 1, 2] (va_recv hK hP (ci := 11) (q0 := 0) rfl rfl) rfl rfl (by decide) rfl rfl rfl rfl rfl hl.1 rfl (Nat.le_of_ble_eq_true rfl) dX11_isMeant_40 (fun H locs hP hD hS => ?_)
    refine lv_icmp_ne (tgt := 50) hx hb dX11_isMeant_43 (by decide) (fun c7 => ?_) (fun c7 => ?_)
    · have hf := of_neg hf c7
      refine lv_iconst (v := (0 : Int32)) hx hb dX11_isMeant_50 (by decide) ?_
      cases hf
      exact ret_z hx hb hr hlk hK hP hD hS (by decide) dX11_isMeant_51
    · have hf := of_pos hf c7
      refine lv_iconst (v := (1 : Int32)) hx hb dX11_isMeant_46 (by decide) ?_
      refine lv_goto (tgt := 51) hx hb dX11_isMeant_47 (by decide) ?_
      cases hf
      exact ret_z hx hb hr hlk hK hP hD hS (by decide) dX11_isMeant_51
theorem yk_X11_isMeant : ykV yX11_isMeant RX11 cX11_isMeant 2 (some .boolean) 1 := ⟨wd_1724, wd_98, wd_142, wd_1725, rfl, by decide +kernel, by decide +kernel, by decide +kernel⟩
theorem dX11_strangeMany_0 : decode cX11_strangeMany 0 = .ok (.iconst 0, 1) := by decide +kernel
theorem dX11_strangeMany_1 : decode cX11_strangeMany 1 = .ok (.istore_n 1, 1) := by decide +kernel
theorem dX11_strangeMany_2 : decode cX11_strangeMany 2 = .ok (.iconst 0, 1) := by decide +kernel
theorem dX11_strangeMany_3 : decode cX11_strangeMany 3 = .ok (.istore_n 2, 1) := by decide +kernel
theorem dX11_strangeMany_4 : decode cX11_strangeMany 4 = .ok (.iload_n 2, 1) := by decide +kernel
theorem dX11_strangeMany_5 : decode cX11_strangeMany 5 = .ok (.bipush 16, 2) := by decide +kernel
theorem dX11_strangeMany_7 : decode cX11_strangeMany 7 = .ok (.if_icmp .ge 25, 3) := by decide +kernel
theorem dX11_strangeMany_10 : decode cX11_strangeMany 10 = .ok (.iload_n 1, 1) := by decide +kernel
theorem dX11_strangeMany_11 : decode cX11_strangeMany 11 = .ok (.aload_n 0, 1) := by decide +kernel
theorem dX11_strangeMany_12 : decode cX11_strangeMany 12 = .ok (.iload_n 2, 1) := by decide +kernel
theorem dX11_strangeMany_13 : decode cX11_strangeMany 13 = .ok (.invokevirtual 347, 3) := by decide +kernel
theorem dX11_strangeMany_16 : decode cX11_strangeMany 16 = .ok (.ifCond .eq 7, 3) := by decide +kernel
theorem dX11_strangeMany_19 : decode cX11_strangeMany 19 = .ok (.iconst 0, 1) := by decide +kernel
theorem dX11_strangeMany_20 : decode cX11_strangeMany 20 = .ok (.goto 4, 3) := by decide +kernel
theorem dX11_strangeMany_23 : decode cX11_strangeMany 23 = .ok (.iconst 1, 1) := by decide +kernel
theorem dX11_strangeMany_24 : decode cX11_strangeMany 24 = .ok (.iadd, 1) := by decide +kernel
theorem dX11_strangeMany_25 : decode cX11_strangeMany 25 = .ok (.istore_n 1, 1) := by decide +kernel
theorem dX11_strangeMany_26 : decode cX11_strangeMany 26 = .ok (.iinc 2 1, 3) := by decide +kernel
theorem dX11_strangeMany_29 : decode cX11_strangeMany 29 = .ok (.goto (-25), 3) := by decide +kernel
theorem dX11_strangeMany_32 : decode cX11_strangeMany 32 = .ok (.iload_n 1, 1) := by decide +kernel
theorem dX11_strangeMany_33 : decode cX11_strangeMany 33 = .ok (.ireturn, 1) := by decide +kernel
def wW_X11_strangeMany (G : GG) (h0 h1 h2 y0_2 y0_3 y0_4 y0_6 y0_18 y0_21 y0_22 y0_23 y0_24 y0_25 y0_26 y0_33 y0_34 y0_38 y0_39 y0_40 y0_41 y0_42 y0_43 y0_45 y0_46 y0_47 y0_48 : Nat) (x0_5 : Int32) (x0_7 : Int32) (x0_8 : Int32) (x0_9 : Int32) (x0_10 : Int32) (x0_11 : Int32) (x0_12 : Int32) (x0_13 : Int32) (x0_14 : Int32) (x0_15 : Int32) (x0_16 : Int32) (x0_17 : Int32) (x0_19 : Int32) (x0_20 : Int32) (x0_27 : Int32) (x0_28 : Int32) (x0_29 : Int32) (x0_30 : Int32) (x0_31 : Int32) (x0_32 : Int32) (x0_35 : Int32) (x0_36 : Int32) (x0_37 : Int32) (x0_44 : Int32) (x0_49 : Int32) (x0_50 : Int32) (a1 : Nat → Int32) (a2 : Nat → Int32) : va_W := [(h0, .inr (11, [.ref h1, .ref h2, .ref y0_2, .ref y0_3, .ref y0_4, .int x0_5, .ref y0_6, .int x0_7, .int x0_8, .int x0_9, .int x0_10, .int x0_11, .int x0_12, .int x0_13, .int x0_14, .int x0_15, .int x0_16, .int x0_17, .ref y0_18, .int x0_19, .int x0_20, .ref y0_21, .ref y0_22, .ref y0_23, .ref y0_24, .ref y0_25, .ref y0_26, .int x0_27, .int x0_28, .int x0_29, .int x0_30, .int x0_31, .int x0_32, .ref y0_33, .ref y0_34, .int x0_35, .int x0_36, .int x0_37, .ref y0_38, .ref y0_39, .ref y0_40, .ref y0_41, .ref y0_42, .ref y0_43, .int x0_44, .ref y0_45, .ref y0_46, .ref y0_47, .ref y0_48, .int x0_49, .int x0_50])), (h1, .inl (G.2.1, 121, .inl a1)), (h2, .inl (G.2.1, 2, .inl a2))]
set_option maxHeartbeats 4000000 in
set_option maxRecDepth 100000 in
theorem c_X11_strangeMany (l : Launch) (G : GG) (h0 h1 h2 y0_2 y0_3 y0_4 y0_6 y0_18 y0_21 y0_22 y0_23 y0_24 y0_25 y0_26 y0_33 y0_34 y0_38 y0_39 y0_40 y0_41 y0_42 y0_43 y0_45 y0_46 y0_47 y0_48 : Nat) (sz : Nat) (x0_5 : Int32) (x0_7 : Int32) (x0_8 : Int32) (x0_9 : Int32) (x0_10 : Int32) (x0_11 : Int32) (x0_12 : Int32) (x0_13 : Int32) (x0_14 : Int32) (x0_15 : Int32) (x0_16 : Int32) (x0_17 : Int32) (x0_19 : Int32) (x0_20 : Int32) (x0_27 : Int32) (x0_28 : Int32) (x0_29 : Int32) (x0_30 : Int32) (x0_31 : Int32) (x0_32 : Int32) (x0_35 : Int32) (x0_36 : Int32) (x0_37 : Int32) (x0_44 : Int32) (x0_49 : Int32) (x0_50 : Int32) (a1 : Nat → Int32) (a2 : Nat → Int32) (F : Nat)   (r0 : Int32) (hf : p_X11_strangeMany F x0_5 a1 a2  = some r0) : Met l yX11_strangeMany (.code yX11_strangeMany cX11_strangeMany 3 (some .int) :: gtbl) ({ frames := 3, cells := 0, slots := 0, locals := 65 } : Room) (PcS G [.ref h0] (wW_X11_strangeMany G h0 h1 h2 y0_2 y0_3 y0_4 y0_6 y0_18 y0_21 y0_22 y0_23 y0_24 y0_25 y0_26 y0_33 y0_34 y0_38 y0_39 y0_40 y0_41 y0_42 y0_43 y0_45 y0_46 y0_47 y0_48 x0_5 x0_7 x0_8 x0_9 x0_10 x0_11 x0_12 x0_13 x0_14 x0_15 x0_16 x0_17 x0_19 x0_20 x0_27 x0_28 x0_29 x0_30 x0_31 x0_32 x0_35 x0_36 x0_37 x0_44 x0_49 x0_50 a1 a2) sz) (QiS G r0 (va_A (wW_X11_strangeMany G h0 h1 h2 y0_2 y0_3 y0_4 y0_6 y0_18 y0_21 y0_22 y0_23 y0_24 y0_25 y0_26 y0_33 y0_34 y0_38 y0_39 y0_40 y0_41 y0_42 y0_43 y0_45 y0_46 y0_47 y0_48 x0_5 x0_7 x0_8 x0_9 x0_10 x0_11 x0_12 x0_13 x0_14 x0_15 x0_16 x0_17 x0_19 x0_20 x0_27 x0_28 x0_29 x0_30 x0_31 x0_32 x0_35 x0_36 x0_37 x0_44 x0_49 x0_50 a1 a2) sz) (wW_X11_strangeMany G h0 h1 h2 y0_2 y0_3 y0_4 y0_6 y0_18 y0_21 y0_22 y0_23 y0_24 y0_25 y0_26 y0_33 y0_34 y0_38 y0_39 y0_40 y0_41 y0_42 y0_43 y0_45 y0_46 y0_47 y0_48 x0_5 x0_7 x0_8 x0_9 x0_10 x0_11 x0_12 x0_13 x0_14 x0_15 x0_16 x0_17 x0_19 x0_20 x0_27 x0_28 x0_29 x0_30 x0_31 x0_32 x0_35 x0_36 x0_37 x0_44 x0_49 x0_50 a1 a2)) 0 0 (va_A (wW_X11_strangeMany G h0 h1 h2 y0_2 y0_3 y0_4 y0_6 y0_18 y0_21 y0_22 y0_23 y0_24 y0_25 y0_26 y0_33 y0_34 y0_38 y0_39 y0_40 y0_41 y0_42 y0_43 y0_45 y0_46 y0_47 y0_48 x0_5 x0_7 x0_8 x0_9 x0_10 x0_11 x0_12 x0_13 x0_14 x0_15 x0_16 x0_17 x0_19 x0_20 x0_27 x0_28 x0_29 x0_30 x0_31 x0_32 x0_35 x0_36 x0_37 x0_44 x0_49 x0_50 a1 a2) sz) := by
  refine met_start (by decide) (Nat.le_of_ble_eq_true rfl) ?_
  intro p e s m below meth c hC hr hlk hnm hK hP hD hA hS hX ls hl
  obtain ⟨hx, hb, hml, hown, ht0⟩ := hC
  have hown : s.vm.findClass RX11 = some m.cls := hown
  generalize va_A (wW_X11_strangeMany G h0 h1 h2 y0_2 y0_3 y0_4 y0_6 y0_18 y0_21 y0_22 y0_23 y0_24 y0_25 y0_26 y0_33 y0_34 y0_38 y0_39 y0_40 y0_41 y0_42 y0_43 y0_45 y0_46 y0_47 y0_48 x0_5 x0_7 x0_8 x0_9 x0_10 x0_11 x0_12 x0_13 x0_14 x0_15 x0_16 x0_17 x0_19 x0_20 x0_27 x0_28 x0_29 x0_30 x0_31 x0_32 x0_35 x0_36 x0_37 x0_44 x0_49 x0_50 a1 a2) sz = A at hD hA hS hX ⊢
  have hl : lv_has ls 3 [(0, .ref h0)] := hl
  have hf : p_X11_strangeMany F x0_5 a1 a2  = some r0 := hf
  have kL4 : ∀ (n4 : Nat) (u4_1 : Int32) (u4_2 : Int32), p_X11_strangeMany_L4 F x0_5 a1 a2 n4 u4_1 u4_2 = some r0 → ∀ (H : Heap) (locs : List Loc), va_P G.1 vwCl (wW_X11_strangeMany G h0 h1 h2 y0_2 y0_3 y0_4 y0_6 y0_18 y0_21 y0_22 y0_23 y0_24 y0_25 y0_26 y0_33 y0_34 y0_38 y0_39 y0_40 y0_41 y0_42 y0_43 y0_45 y0_46 y0_47 y0_48 x0_5 x0_7 x0_8 x0_9 x0_10 x0_11 x0_12 x0_13 x0_14 x0_15 x0_16 x0_17 x0_19 x0_20 x0_27 x0_28 x0_29 x0_30 x0_31 x0_32 x0_35 x0_36 x0_37 x0_44 x0_49 x0_50 a1 a2) H → va_D A (wW_X11_strangeMany G h0 h1 h2 y0_2 y0_3 y0_4 y0_6 y0_18 y0_21 y0_22 y0_23 y0_24 y0_25 y0_26 y0_33 y0_34 y0_38 y0_39 y0_40 y0_41 y0_42 y0_43 y0_45 y0_46 y0_47 y0_48 x0_5 x0_7 x0_8 x0_9 x0_10 x0_11 x0_12 x0_13 x0_14 x0_15 x0_16 x0_17 x0_19 x0_20 x0_27 x0_28 x0_29 x0_30 x0_31 x0_32 x0_35 x0_36 x0_37 x0_44 x0_49 x0_50 a1 a2) → va_S A s.heap H locs → ∀ ls : Array Slot, lv_has ls 3 [(0, .ref h0), (1, .int u4_1), (2, .int u4_2)] → W p l e ({ frames := 3, cells := 0, slots := 0, locals := 65 } : Room) s m (List.toArray [.ref h0]) below meth c H locs 0 0 (MQ below (QiS G r0 A (wW_X11_strangeMany G h0 h1 h2 y0_2 y0_3 y0_4 y0_6 y0_18 y0_21 y0_22 y0_23 y0_24 y0_25 y0_26 y0_33 y0_34 y0_38 y0_39 y0_40 y0_41 y0_42 y0_43 y0_45 y0_46 y0_47 y0_48 x0_5 x0_7 x0_8 x0_9 x0_10 x0_11 x0_12 x0_13 x0_14 x0_15 x0_16 x0_17 x0_19 x0_20 x0_27 x0_28 x0_29 x0_30 x0_31 x0_32 x0_35 x0_36 x0_37 x0_44 x0_49 x0_50 a1 a2)) (List.toArray [.ref h0]) s 0 0 A) (F0 m 4 ls []) := by
    intro n4
    induction n4 with
    | zero =>
      intro u4_1 u4_2 hf
      cases hf
    | succ n4 ih4 =>
      have kJ24 : ∀ (u24_2 : Int32) (s24_0 : Int32) (s24_1 : Int32), p_X11_strangeMany_J24 F x0_5 a1 a2 (p_X11_strangeMany_L4 F x0_5 a1 a2 n4) u24_2 s24_0 s24_1 = some r0 → ∀ (H : Heap) (locs : List Loc), va_P G.1 vwCl (wW_X11_strangeMany G h0 h1 h2 y0_2 y0_3 y0_4 y0_6 y0_18 y0_21 y0_22 y0_23 y0_24 y0_25 y0_26 y0_33 y0_34 y0_38 y0_39 y0_40 y0_41 y0_42 y0_43 y0_45 y0_46 y0_47 y0_48 x0_5 x0_7 x0_8 x0_9 x0_10 x0_11 x0_12 x0_13 x0_14 x0_15 x0_16 x0_17 x0_19 x0_20 x0_27 x0_28 x0_29 x0_30 x0_31 x0_32 x0_35 x0_36 x0_37 x0_44 x0_49 x0_50 a1 a2) H → va_D A (wW_X11_strangeMany G h0 h1 h2 y0_2 y0_3 y0_4 y0_6 y0_18 y0_21 y0_22 y0_23 y0_24 y0_25 y0_26 y0_33 y0_34 y0_38 y0_39 y0_40 y0_41 y0_42 y0_43 y0_45 y0_46 y0_47 y0_48 x0_5 x0_7 x0_8 x0_9 x0_10 x0_11 x0_12 x0_13 x0_14 x0_15 x0_16 x0_17 x0_19 x0_20 x0_27 x0_28 x0_29 x0_30 x0_31 x0_32 x0_35 x0_36 x0_37 x0_44 x0_49 x0_50 a1 a2) → va_S A s.heap H locs → ∀ ls : Array Slot, lv_has ls 3 [(0, .ref h0), (2, .int u24_2)] → W p l e ({ frames := 3, cells := 0, slots := 0, locals := 65 } : Room) s m (List.toArray [.ref h0]) below meth c H locs 0 0 (MQ below (QiS G r0 A (wW_X11_strangeMany G h0 h1 h2 y0_2 y0_3 y0_4 y0_6 y0_18 y0_21 y0_22 y0_23 y0_24 y0_25 y0_26 y0_33 y0_34 y0_38 y0_39 y0_40 y0_41 y0_42 y0_43 y0_45 y0_46 y0_47 y0_48 x0_5 x0_7 x0_8 x0_9 x0_10 x0_11 x0_12 x0_13 x0_14 x0_15 x0_16 x0_17 x0_19 x0_20 x0_27 x0_28 x0_29 x0_30 x0_31 x0_32 x0_35 x0_36 x0_37 x0_44 x0_49 x0_50 a1 a2)) (List.toArray [.ref h0]) s 0 0 A) (F0 m 24 ls [.int s24_1, .int s24_0]) := by
        intro u24_2 s24_0 s24_1 hf H locs hP hD hS ls hl
        refine lv_iadd hx hb dX11_strangeMany_24 ?_
        refine lv_istore_n (lv' := [(1, .int (s24_0 + s24_1)), (0, .ref h0), (2, .int u24_2)]) hx hb dX11_strangeMany_25 rfl hl (by decide) rfl (fun ls hl => ?_)
        refine lv_iinc (v := u24_2 + (1 : Int32)) (lv' := [(2, .int (u24_2 + (1 : Int32))), (1, .int (s24_0 + s24_1)), (0, .ref h0)]) hx hb dX11_strangeMany_26 hl (k := 2) rfl (by rfl) (by decide) rfl (fun ls hl => ?_)
        refine lv_goto (tgt := 4) hx hb dX11_strangeMany_29 (by decide) ?_
        exact ih4 _ _ hf _ _ hP hD hS _ (lv_sub hl [2, 1, 0] rfl)
      intro u4_1 u4_2 hf H locs hP hD hS ls hl
      have hf : p_X11_strangeMany_L4b F x0_5 a1 a2 (p_X11_strangeMany_L4 F x0_5 a1 a2 n4) u4_1 u4_2 = some r0 := hf
      refine lv_iload_n hx hb dX11_strangeMany_4 rfl (lv_at hl 2 rfl) ?_
      refine lv_bipush (v := (16 : Int32)) hx hb dX11_strangeMany_5 (by decide) ?_
      refine lv_icmp_ge (tgt := 32) hx hb dX11_strangeMany_7 (by decide) (fun c1 => ?_) (fun c1 => ?_)
      · have hf := of_pos hf c1
        refine lv_iload_n hx hb dX11_strangeMany_32 rfl (lv_at hl 1 rfl) ?_
        cases hf
        exact ret_i hx hb hr hlk hK hP hD hS dX11_strangeMany_33
      · have hf := of_neg hf c1
        refine lv_iload_n hx hb dX11_strangeMany_10 rfl (lv_at hl 1 rfl) ?_
        refine lv_aload_n hx hb dX11_strangeMany_11 rfl (lv_at hl 0 rfl) ?_
        refine lv_iload_n hx hb dX11_strangeMany_12 rfl (lv_at hl 2 rfl) ?_
        obtain ⟨r_13_1, hc_r_13_1, hf⟩ := of_bnd hf
        refine cl_Vi (w2 := (wW_X11_strangeMany G h0 h1 h2 y0_2 y0_3 y0_4 y0_6 y0_18 y0_21 y0_22 y0_23 y0_24 y0_25 y0_26 y0_33 y0_34 y0_38 y0_39 y0_40 y0_41 y0_42 y0_43 y0_45 y0_46 y0_47 y0_48 x0_5 x0_7 x0_8 x0_9 x0_10 x0_11 x0_12 x0_13 x0_14 x0_15 x0_16 x0_17 x0_19 x0_20 x0_27 x0_28 x0_29 x0_30 x0_31 x0_32 x0_35 x0_36 x0_37 x0_44 x0_49 x0_50 a1 a2)) (As := [.int u4_2]) (rest := [.int u4_1]) ⟨hx, hb, hml, hown, ht0⟩ (c_X11_isMeant l G h0 h1 h2 y0_2 y0_3 y0_4 y0_6 y0_18 y0_21 y0_22 y0_23 y0_24 y0_25 y0_26 y0_33 y0_34 y0_38 y0_39 y0_40 y0_41 y0_42 y0_43 y0_45 y0_46 y0_47 y0_48 _ x0_5 x0_7 x0_8 x0_9 x0_10 x0_11 x0_12 x0_13 x0_14 x0_15 x0_16 x0_17 x0_19 x0_20 x0_27 x0_28 x0_29 x0_30 x0_31 x0_32 x0_35 x0_36 x0_37 x0_44 x0_49 x0_50 a1 a2 F u4_2 _ hc_r_13_1) yk_X11_isMeant wd_1722 ⟨rfl, rfl, by decide, by decide⟩ ⟨Nat.le_refl _, Nat.le_refl _⟩ hX hK hP hD hS hA [0, 1, 2] [] [0, 1, 2] (va_recv hK hP (ci := 11) (q0 := 0) rfl rfl) rfl rfl (by decide) rfl rfl rfl rfl rfl hl.1 rfl (Nat.le_of_ble_eq_true rfl) dX11_strangeMany_13 (fun H locs hP hD hS => ?_)
        refine lv_if_eq (tgt := 23) hx hb dX11_strangeMany_16 (by decide) (fun c3 => ?_) (fun c3 => ?_)
        · have hf := of_pos hf c3
          refine lv_iconst (v := (1 : Int32)) hx hb dX11_strangeMany_23 (by decide) ?_
          exact kJ24 _ _ _ hf _ _ hP hD hS _ (lv_sub hl [0, 2] rfl)
        · have hf := of_neg hf c3
          refine lv_iconst (v := (0 : Int32)) hx hb dX11_strangeMany_19 (by decide) ?_
          refine lv_goto (tgt := 24) hx hb dX11_strangeMany_20 (by decide) ?_
          exact kJ24 _ _ _ hf _ _ hP hD hS _ (lv_sub hl [0, 2] rfl)
  refine lv_iconst (v := (0 : Int32)) hx hb dX11_strangeMany_0 (by decide) ?_
  refine lv_istore_n (lv' := [(1, .int (0 : Int32)), (0, .ref h0)]) hx hb dX11_strangeMany_1 rfl hl (by decide) rfl (fun ls hl => ?_)
  refine lv_iconst (v := (0 : Int32)) hx hb dX11_strangeMany_2 (by decide) ?_
  refine lv_istore_n (lv' := [(2, .int (0 : Int32)), (1, .int (0 : Int32)), (0, .ref h0)]) hx hb dX11_strangeMany_3 rfl hl (by decide) rfl (fun ls hl => ?_)
  exact kL4 _ _ _ hf _ _ hP hD hS _ (lv_sub hl [2, 1, 0] rfl)
theorem yk_X11_strangeMany : ykV yX11_strangeMany RX11 cX11_strangeMany 3 (some .int) 0 := ⟨wd_1720, wd_97, wd_142, wd_1721, rfl, by decide +kernel, by decide +kernel, by decide +kernel⟩
theorem dX11_keepAct_0 : decode cX11_keepAct 0 = .ok (.aload_n 0, 1) := by decide +kernel
theorem dX11_keepAct_1 : decode cX11_keepAct 1 = .ok (.getfield 230, 3) := by decide +kernel
theorem dX11_keepAct_4 : decode cX11_keepAct 4 = .ok (.bipush 12, 2) := by decide +kernel
theorem dX11_keepAct_6 : decode cX11_keepAct 6 = .ok (.if_icmp .ne 43, 3) := by decide +kernel
theorem dX11_keepAct_9 : decode cX11_keepAct 9 = .ok (.iconst 0, 1) := by decide +kernel
theorem dX11_keepAct_10 : decode cX11_keepAct 10 = .ok (.istore_n 1, 1) := by decide +kernel
theorem dX11_keepAct_11 : decode cX11_keepAct 11 = .ok (.iload_n 1, 1) := by decide +kernel
theorem dX11_keepAct_12 : decode cX11_keepAct 12 = .ok (.sipush 1452, 3) := by decide +kernel
theorem dX11_keepAct_15 : decode cX11_keepAct 15 = .ok (.if_icmp .ge 24, 3) := by decide +kernel
theorem dX11_keepAct_18 : decode cX11_keepAct 18 = .ok (.aload_n 0, 1) := by decide +kernel
theorem dX11_keepAct_19 : decode cX11_keepAct 19 = .ok (.getfield 82, 3) := by decide +kernel
theorem dX11_keepAct_22 : decode cX11_keepAct 22 = .ok (.iload_n 1, 1) := by decide +kernel
theorem dX11_keepAct_23 : decode cX11_keepAct 23 = .ok (.aload_n 0, 1) := by decide +kernel
theorem dX11_keepAct_24 : decode cX11_keepAct 24 = .ok (.getfield 82, 3) := by decide +kernel
theorem dX11_keepAct_27 : decode cX11_keepAct 27 = .ok (.iload_n 1, 1) := by decide +kernel
theorem dX11_keepAct_28 : decode cX11_keepAct 28 = .ok (.bipush 121, 2) := by decide +kernel
theorem dX11_keepAct_30 : decode cX11_keepAct 30 = .ok (.iadd, 1) := by decide +kernel
theorem dX11_keepAct_31 : decode cX11_keepAct 31 = .ok (.iaload, 1) := by decide +kernel
theorem dX11_keepAct_32 : decode cX11_keepAct 32 = .ok (.iastore, 1) := by decide +kernel
theorem dX11_keepAct_33 : decode cX11_keepAct 33 = .ok (.iinc 1 1, 3) := by decide +kernel
theorem dX11_keepAct_36 : decode cX11_keepAct 36 = .ok (.goto (-25), 3) := by decide +kernel
theorem dX11_keepAct_39 : decode cX11_keepAct 39 = .ok (.aload_n 0, 1) := by decide +kernel
theorem dX11_keepAct_40 : decode cX11_keepAct 40 = .ok (.dup, 1) := by decide +kernel
theorem dX11_keepAct_41 : decode cX11_keepAct 41 = .ok (.getfield 230, 3) := by decide +kernel
theorem dX11_keepAct_44 : decode cX11_keepAct 44 = .ok (.iconst 1, 1) := by decide +kernel
theorem dX11_keepAct_45 : decode cX11_keepAct 45 = .ok (.isub, 1) := by decide +kernel
theorem dX11_keepAct_46 : decode cX11_keepAct 46 = .ok (.putfield 230, 3) := by decide +kernel
theorem dX11_keepAct_49 : decode cX11_keepAct 49 = .ok (.iconst 0, 1) := by decide +kernel
theorem dX11_keepAct_50 : decode cX11_keepAct 50 = .ok (.istore_n 1, 1) := by decide +kernel
theorem dX11_keepAct_51 : decode cX11_keepAct 51 = .ok (.iload_n 1, 1) := by decide +kernel
theorem dX11_keepAct_52 : decode cX11_keepAct 52 = .ok (.bipush 121, 2) := by decide +kernel
theorem dX11_keepAct_54 : decode cX11_keepAct 54 = .ok (.if_icmp .ge 29, 3) := by decide +kernel
theorem dX11_keepAct_57 : decode cX11_keepAct 57 = .ok (.aload_n 0, 1) := by decide +kernel
theorem dX11_keepAct_58 : decode cX11_keepAct 58 = .ok (.getfield 82, 3) := by decide +kernel
theorem dX11_keepAct_61 : decode cX11_keepAct 61 = .ok (.bipush 121, 2) := by decide +kernel
theorem dX11_keepAct_63 : decode cX11_keepAct 63 = .ok (.aload_n 0, 1) := by decide +kernel
theorem dX11_keepAct_64 : decode cX11_keepAct 64 = .ok (.getfield 230, 3) := by decide +kernel
theorem dX11_keepAct_67 : decode cX11_keepAct 67 = .ok (.imul, 1) := by decide +kernel
theorem dX11_keepAct_68 : decode cX11_keepAct 68 = .ok (.iload_n 1, 1) := by decide +kernel
theorem dX11_keepAct_69 : decode cX11_keepAct 69 = .ok (.iadd, 1) := by decide +kernel
theorem dX11_keepAct_70 : decode cX11_keepAct 70 = .ok (.aload_n 0, 1) := by decide +kernel
theorem dX11_keepAct_71 : decode cX11_keepAct 71 = .ok (.getfield 7, 3) := by decide +kernel
theorem dX11_keepAct_74 : decode cX11_keepAct 74 = .ok (.iload_n 1, 1) := by decide +kernel
theorem dX11_keepAct_75 : decode cX11_keepAct 75 = .ok (.iaload, 1) := by decide +kernel
theorem dX11_keepAct_76 : decode cX11_keepAct 76 = .ok (.iastore, 1) := by decide +kernel
theorem dX11_keepAct_77 : decode cX11_keepAct 77 = .ok (.iinc 1 1, 3) := by decide +kernel
theorem dX11_keepAct_80 : decode cX11_keepAct 80 = .ok (.goto (-29), 3) := by decide +kernel
theorem dX11_keepAct_83 : decode cX11_keepAct 83 = .ok (.aload_n 0, 1) := by decide +kernel
theorem dX11_keepAct_84 : decode cX11_keepAct 84 = .ok (.dup, 1) := by decide +kernel
theorem dX11_keepAct_85 : decode cX11_keepAct 85 = .ok (.getfield 230, 3) := by decide +kernel
theorem dX11_keepAct_88 : decode cX11_keepAct 88 = .ok (.iconst 1, 1) := by decide +kernel
theorem dX11_keepAct_89 : decode cX11_keepAct 89 = .ok (.iadd, 1) := by decide +kernel
theorem dX11_keepAct_90 : decode cX11_keepAct 90 = .ok (.putfield 230, 3) := by decide +kernel
theorem dX11_keepAct_93 : decode cX11_keepAct 93 = .ok (.aload_n 0, 1) := by decide +kernel
theorem dX11_keepAct_94 : decode cX11_keepAct 94 = .ok (.iconst 0, 1) := by decide +kernel
theorem dX11_keepAct_95 : decode cX11_keepAct 95 = .ok (.putfield 233, 3) := by decide +kernel
theorem dX11_keepAct_98 : decode cX11_keepAct 98 = .ok (.return_, 1) := by decide +kernel
def wW_X11_keepAct (G : GG) (h0 h1 h2 y0_1 y0_2 y0_3 y0_4 y0_6 y0_18 y0_21 y0_22 y0_23 y0_24 y0_25 y0_26 y0_33 y0_34 y0_38 y0_39 y0_40 y0_41 y0_42 y0_43 y0_45 y0_47 y0_48 : Nat) (x0_5 : Int32) (x0_7 : Int32) (x0_8 : Int32) (x0_9 : Int32) (x0_10 : Int32) (x0_11 : Int32) (x0_12 : Int32) (x0_13 : Int32) (x0_14 : Int32) (x0_15 : Int32) (x0_16 : Int32) (x0_17 : Int32) (x0_19 : Int32) (x0_20 : Int32) (x0_27 : Int32) (x0_28 : Int32) (x0_29 : Int32) (x0_30 : Int32) (x0_31 : Int32) (x0_32 : Int32) (x0_35 : Int32) (x0_36 : Int32) (x0_37 : Int32) (x0_44 : Int32) (x0_49 : Int32) (x0_50 : Int32) (a1 : Nat → Int32) (a2 : Nat → Int32) : va_W := [(h0, .inr (11, [.ref h1, .ref y0_1, .ref y0_2, .ref y0_3, .ref y0_4, .int x0_5, .ref y0_6, .int x0_7, .int x0_8, .int x0_9, .int x0_10, .int x0_11, .int x0_12, .int x0_13, .int x0_14, .int x0_15, .int x0_16, .int x0_17, .ref y0_18, .int x0_19, .int x0_20, .ref y0_21, .ref y0_22, .ref y0_23, .ref y0_24, .ref y0_25, .ref y0_26, .int x0_27, .int x0_28, .int x0_29, .int x0_30, .int x0_31, .int x0_32, .ref y0_33, .ref y0_34, .int x0_35, .int x0_36, .int x0_37, .ref y0_38, .ref y0_39, .ref y0_40, .ref y0_41, .ref y0_42, .ref y0_43, .int x0_44, .ref y0_45, .ref h2, .ref y0_47, .ref y0_48, .int x0_49, .int x0_50])), (h1, .inl (G.2.1, 121, .inl a1)), (h2, .inl (G.2.1, 1573, .inl a2))]
set_option maxHeartbeats 4000000 in
set_option maxRecDepth 100000 in
theorem c_X11_keepAct (l : Launch) (G : GG) (h0 h1 h2 y0_1 y0_2 y0_3 y0_4 y0_6 y0_18 y0_21 y0_22 y0_23 y0_24 y0_25 y0_26 y0_33 y0_34 y0_38 y0_39 y0_40 y0_41 y0_42 y0_43 y0_45 y0_47 y0_48 : Nat) (sz : Nat) (x0_5 : Int32) (x0_7 : Int32) (x0_8 : Int32) (x0_9 : Int32) (x0_10 : Int32) (x0_11 : Int32) (x0_12 : Int32) (x0_13 : Int32) (x0_14 : Int32) (x0_15 : Int32) (x0_16 : Int32) (x0_17 : Int32) (x0_19 : Int32) (x0_20 : Int32) (x0_27 : Int32) (x0_28 : Int32) (x0_29 : Int32) (x0_30 : Int32) (x0_31 : Int32) (x0_32 : Int32) (x0_35 : Int32) (x0_36 : Int32) (x0_37 : Int32) (x0_44 : Int32) (x0_49 : Int32) (x0_50 : Int32) (a1 : Nat → Int32) (a2 : Nat → Int32) (F : Nat)   (e_x0_49 : Int32) (e_x0_50 : Int32) (e_a2 : Nat → Int32) (hf : p_X11_keepAct F x0_49 x0_50 a1 a2  = some (e_x0_49, e_x0_50, e_a2)) : Met l yX11_keepAct (.code yX11_keepAct cX11_keepAct 2 none :: gtbl) ({ frames := 0, cells := 0, slots := 0, locals := 0 } : Room) (PcS G [.ref h0] (wW_X11_keepAct G h0 h1 h2 y0_1 y0_2 y0_3 y0_4 y0_6 y0_18 y0_21 y0_22 y0_23 y0_24 y0_25 y0_26 y0_33 y0_34 y0_38 y0_39 y0_40 y0_41 y0_42 y0_43 y0_45 y0_47 y0_48 x0_5 x0_7 x0_8 x0_9 x0_10 x0_11 x0_12 x0_13 x0_14 x0_15 x0_16 x0_17 x0_19 x0_20 x0_27 x0_28 x0_29 x0_30 x0_31 x0_32 x0_35 x0_36 x0_37 x0_44 x0_49 x0_50 a1 a2) sz) (QvS G (va_A (wW_X11_keepAct G h0 h1 h2 y0_1 y0_2 y0_3 y0_4 y0_6 y0_18 y0_21 y0_22 y0_23 y0_24 y0_25 y0_26 y0_33 y0_34 y0_38 y0_39 y0_40 y0_41 y0_42 y0_43 y0_45 y0_47 y0_48 x0_5 x0_7 x0_8 x0_9 x0_10 x0_11 x0_12 x0_13 x0_14 x0_15 x0_16 x0_17 x0_19 x0_20 x0_27 x0_28 x0_29 x0_30 x0_31 x0_32 x0_35 x0_36 x0_37 x0_44 x0_49 x0_50 a1 a2) sz) (wW_X11_keepAct G h0 h1 h2 y0_1 y0_2 y0_3 y0_4 y0_6 y0_18 y0_21 y0_22 y0_23 y0_24 y0_25 y0_26 y0_33 y0_34 y0_38 y0_39 y0_40 y0_41 y0_42 y0_43 y0_45 y0_47 y0_48 x0_5 x0_7 x0_8 x0_9 x0_10 x0_11 x0_12 x0_13 x0_14 x0_15 x0_16 x0_17 x0_19 x0_20 x0_27 x0_28 x0_29 x0_30 x0_31 x0_32 x0_35 x0_36 x0_37 x0_44 e_x0_49 e_x0_50 a1 e_a2)) 0 0 (va_A (wW_X11_keepAct G h0 h1 h2 y0_1 y0_2 y0_3 y0_4 y0_6 y0_18 y0_21 y0_22 y0_23 y0_24 y0_25 y0_26 y0_33 y0_34 y0_38 y0_39 y0_40 y0_41 y0_42 y0_43 y0_45 y0_47 y0_48 x0_5 x0_7 x0_8 x0_9 x0_10 x0_11 x0_12 x0_13 x0_14 x0_15 x0_16 x0_17 x0_19 x0_20 x0_27 x0_28 x0_29 x0_30 x0_31 x0_32 x0_35 x0_36 x0_37 x0_44 x0_49 x0_50 a1 a2) sz) := by
  refine met_start (by decide) (Nat.le_of_ble_eq_true rfl) ?_
  intro p e s m below meth c hC hr hlk hnm hK hP hD hA hS hX ls hl
  obtain ⟨hx, hb, hml, hown, ht0⟩ := hC
  have hown : s.vm.findClass RX11 = some m.cls := hown
  generalize va_A (wW_X11_keepAct G h0 h1 h2 y0_1 y0_2 y0_3 y0_4 y0_6 y0_18 y0_21 y0_22 y0_23 y0_24 y0_25 y0_26 y0_33 y0_34 y0_38 y0_39 y0_40 y0_41 y0_42 y0_43 y0_45 y0_47 y0_48 x0_5 x0_7 x0_8 x0_9 x0_10 x0_11 x0_12 x0_13 x0_14 x0_15 x0_16 x0_17 x0_19 x0_20 x0_27 x0_28 x0_29 x0_30 x0_31 x0_32 x0_35 x0_36 x0_37 x0_44 x0_49 x0_50 a1 a2) sz = A at hD hA hS hX ⊢
  have hl : lv_has ls 2 [(0, .ref h0)] := hl
  have hf : p_X11_keepAct F x0_49 x0_50 a1 a2  = some (e_x0_49, e_x0_50, e_a2) := hf
  have kL51 : ∀ (n51 : Nat) (u51_1 : Int32) (x0_49_51 : Int32) (x0_50_51 : Int32) (a2_51 : Nat → Int32), p_X11_keepAct_L51 F a1 n51 u51_1 x0_49_51 x0_50_51 a2_51 = some (e_x0_49, e_x0_50, e_a2) → ∀ (H : Heap) (locs : List Loc), va_P G.1 vwCl (wW_X11_keepAct G h0 h1 h2 y0_1 y0_2 y0_3 y0_4 y0_6 y0_18 y0_21 y0_22 y0_23 y0_24 y0_25 y0_26 y0_33 y0_34 y0_38 y0_39 y0_40 y0_41 y0_42 y0_43 y0_45 y0_47 y0_48 x0_5 x0_7 x0_8 x0_9 x0_10 x0_11 x0_12 x0_13 x0_14 x0_15 x0_16 x0_17 x0_19 x0_20 x0_27 x0_28 x0_29 x0_30 x0_31 x0_32 x0_35 x0_36 x0_37 x0_44 x0_49_51 x0_50_51 a1 a2_51) H → va_D A (wW_X11_keepAct G h0 h1 h2 y0_1 y0_2 y0_3 y0_4 y0_6 y0_18 y0_21 y0_22 y0_23 y0_24 y0_25 y0_26 y0_33 y0_34 y0_38 y0_39 y0_40 y0_41 y0_42 y0_43 y0_45 y0_47 y0_48 x0_5 x0_7 x0_8 x0_9 x0_10 x0_11 x0_12 x0_13 x0_14 x0_15 x0_16 x0_17 x0_19 x0_20 x0_27 x0_28 x0_29 x0_30 x0_31 x0_32 x0_35 x0_36 x0_37 x0_44 x0_49_51 x0_50_51 a1 a2_51) → va_S A s.heap H locs → ∀ ls : Array Slot, lv_has ls 2 [(0, .ref h0), (1, .int u51_1)] → W p l e ({ frames := 0, cells := 0, slots := 0, locals := 0 } : Room) s m (List.toArray [.ref h0]) below meth c H locs 0 0 (MQ below (QvS G A (wW_X11_keepAct G h0 h1 h2 y0_1 y0_2 y0_3 y0_4 y0_6 y0_18 y0_21 y0_22 y0_23 y0_24 y0_25 y0_26 y0_33 y0_34 y0_38 y0_39 y0_40 y0_41 y0_42 y0_43 y0_45 y0_47 y0_48 x0_5 x0_7 x0_8 x0_9 x0_10 x0_11 x0_12 x0_13 x0_14 x0_15 x0_16 x0_17 x0_19 x0_20 x0_27 x0_28 x0_29 x0_30 x0_31 x0_32 x0_35 x0_36 x0_37 x0_44 e_x0_49 e_x0_50 a1 e_a2)) (List.toArray [.ref h0]) s 0 0 A) (F0 m 51 ls []) := by
    intro n51
    induction n51 with
    | zero =>
      intro u51_1 x0_49_51 x0_50_51 a2_51 hf
      cases hf
    | succ n51 ih51 =>
      intro u51_1 x0_49_51 x0_50_51 a2_51 hf H locs hP hD hS ls hl
      have hf : p_X11_keepAct_L51b F a1 (p_X11_keepAct_L51 F a1 n51) u51_1 x0_49_51 x0_50_51 a2_51 = some (e_x0_49, e_x0_50, e_a2) := hf
      refine lv_iload_n hx hb dX11_keepAct_51 rfl (lv_at hl 1 rfl) ?_
      refine lv_bipush (v := (121 : Int32)) hx hb dX11_keepAct_52 (by decide) ?_
      refine lv_icmp_ge (tgt := 83) hx hb dX11_keepAct_54 (by decide) (fun c1 => ?_) (fun c1 => ?_)
      · have hf := of_pos hf c1
        refine lv_aload_n hx hb dX11_keepAct_83 rfl (lv_at hl 0 rfl) ?_
        refine lv_dup hx hb dX11_keepAct_84 rfl ?_
        refine va_get (ci := 11) (v := .int x0_49_51) (C := RX11) (T := TX11) (N := 51) hx hb ht0 iX11 hown hK hP 0 rfl rfl 49 (by decide) (ht0 _ wd_1455) (fun _ h9 => h9) rfl dX11_keepAct_85 ?_
        refine lv_iconst (v := (1 : Int32)) hx hb dX11_keepAct_88 (by decide) ?_
        refine lv_iadd hx hb dX11_keepAct_89 ?_
        refine va_put (ci := 11) (v := .int (x0_49_51 + (1 : Int32))) (ty := .int) (C := RX11) (T := TX11) (N := 51) hx hb ht0 iX11 tyX11 tyX11_ok nmX11 hown hK hP hD hS 0 rfl rfl 49 (by decide) (ht0 _ wd_1455) (fun _ h9 => h9) rfl rfl rfl rfl (Nat.le_of_ble_eq_true rfl) dX11_keepAct_90 (fun H locs hP hD hS => ?_)
        have hP : va_P G.1 vwCl (wW_X11_keepAct G h0 h1 h2 y0_1 y0_2 y0_3 y0_4 y0_6 y0_18 y0_21 y0_22 y0_23 y0_24 y0_25 y0_26 y0_33 y0_34 y0_38 y0_39 y0_40 y0_41 y0_42 y0_43 y0_45 y0_47 y0_48 x0_5 x0_7 x0_8 x0_9 x0_10 x0_11 x0_12 x0_13 x0_14 x0_15 x0_16 x0_17 x0_19 x0_20 x0_27 x0_28 x0_29 x0_30 x0_31 x0_32 x0_35 x0_36 x0_37 x0_44 (x0_49_51 + (1 : Int32)) x0_50_51 a1 a2_51) H := hP
        have hD : va_D A (wW_X11_keepAct G h0 h1 h2 y0_1 y0_2 y0_3 y0_4 y0_6 y0_18 y0_21 y0_22 y0_23 y0_24 y0_25 y0_26 y0_33 y0_34 y0_38 y0_39 y0_40 y0_41 y0_42 y0_43 y0_45 y0_47 y0_48 x0_5 x0_7 x0_8 x0_9 x0_10 x0_11 x0_12 x0_13 x0_14 x0_15 x0_16 x0_17 x0_19 x0_20 x0_27 x0_28 x0_29 x0_30 x0_31 x0_32 x0_35 x0_36 x0_37 x0_44 (x0_49_51 + (1 : Int32)) x0_50_51 a1 a2_51) := hD
        refine lv_aload_n hx hb dX11_keepAct_93 rfl (lv_at hl 0 rfl) ?_
        refine lv_iconst (v := (0 : Int32)) hx hb dX11_keepAct_94 (by decide) ?_
        refine va_put (ci := 11) (v := .int (0 : Int32)) (ty := .int) (C := RX11) (T := TX11) (N := 51) hx hb ht0 iX11 tyX11 tyX11_ok nmX11 hown hK hP hD hS 0 rfl rfl 50 (by decide) (ht0 _ wd_1456) (fun _ h9 => h9) rfl rfl rfl rfl (Nat.le_of_ble_eq_true rfl) dX11_keepAct_95 (fun H locs hP hD hS => ?_)
        have hP : va_P G.1 vwCl (wW_X11_keepAct G h0 h1 h2 y0_1 y0_2 y0_3 y0_4 y0_6 y0_18 y0_21 y0_22 y0_23 y0_24 y0_25 y0_26 y0_33 y0_34 y0_38 y0_39 y0_40 y0_41 y0_42 y0_43 y0_45 y0_47 y0_48 x0_5 x0_7 x0_8 x0_9 x0_10 x0_11 x0_12 x0_13 x0_14 x0_15 x0_16 x0_17 x0_19 x0_20 x0_27 x0_28 x0_29 x0_30 x0_31 x0_32 x0_35 x0_36 x0_37 x0_44 (x0_49_51 + (1 : Int32)) (0 : Int32) a1 a2_51) H := hP
        have hD : va_D A (wW_X11_keepAct G h0 h1 h2 y0_1 y0_2 y0_3 y0_4 y0_6 y0_18 y0_21 y0_22 y0_23 y0_24 y0_25 y0_26 y0_33 y0_34 y0_38 y0_39 y0_40 y0_41 y0_42 y0_43 y0_45 y0_47 y0_48 x0_5 x0_7 x0_8 x0_9 x0_10 x0_11 x0_12 x0_13 x0_14 x0_15 x0_16 x0_17 x0_19 x0_20 x0_27 x0_28 x0_29 x0_30 x0_31 x0_32 x0_35 x0_36 x0_37 x0_44 (x0_49_51 + (1 : Int32)) (0 : Int32) a1 a2_51) := hD
        cases hf
        exact ret_v hx hb hr hlk hK hP hD hS dX11_keepAct_98
      · have hf := of_neg hf c1
        refine lv_aload_n hx hb dX11_keepAct_57 rfl (lv_at hl 0 rfl) ?_
        refine va_get (ci := 11) (v := .ref h2) (C := RX11) (T := TX11) (N := 51) hx hb ht0 iX11 hown hK hP 0 rfl rfl 46 (by decide) (ht0 _ wd_1452) (fun _ h9 => h9) rfl dX11_keepAct_58 ?_
        refine lv_bipush (v := (121 : Int32)) hx hb dX11_keepAct_61 (by decide) ?_
        refine lv_aload_n hx hb dX11_keepAct_63 rfl (lv_at hl 0 rfl) ?_
        refine va_get (ci := 11) (v := .int x0_49_51) (C := RX11) (T := TX11) (N := 51) hx hb ht0 iX11 hown hK hP 0 rfl rfl 49 (by decide) (ht0 _ wd_1455) (fun _ h9 => h9) rfl dX11_keepAct_64 ?_
        refine lv_imul hx hb dX11_keepAct_67 ?_
        refine lv_iload_n hx hb dX11_keepAct_68 rfl (lv_at hl 1 rfl) ?_
        refine lv_iadd hx hb dX11_keepAct_69 ?_
        refine lv_aload_n hx hb dX11_keepAct_70 rfl (lv_at hl 0 rfl) ?_
        refine va_get (ci := 11) (v := .ref h1) (C := RX11) (T := TX11) (N := 51) hx hb ht0 iX11 hown hK hP 0 rfl rfl 0 (by decide) (ht0 _ wd_1406) (fun _ h9 => h9) rfl dX11_keepAct_71 ?_
        refine lv_iload_n hx hb dX11_keepAct_74 rfl (lv_at hl 1 rfl) ?_
        obtain ⟨g2, hf⟩ := of_grd hf
        refine va_iald hx hb hK hP 1 0 rfl rfl g2 dX11_keepAct_75 ?_
        obtain ⟨g3, hf⟩ := of_grd hf
        refine va_iast hx hb hK hP hD hS 2 0 rfl rfl g3 dX11_keepAct_76 (fun H locs hP hD hS => ?_)
        have hP : va_P G.1 vwCl (wW_X11_keepAct G h0 h1 h2 y0_1 y0_2 y0_3 y0_4 y0_6 y0_18 y0_21 y0_22 y0_23 y0_24 y0_25 y0_26 y0_33 y0_34 y0_38 y0_39 y0_40 y0_41 y0_42 y0_43 y0_45 y0_47 y0_48 x0_5 x0_7 x0_8 x0_9 x0_10 x0_11 x0_12 x0_13 x0_14 x0_15 x0_16 x0_17 x0_19 x0_20 x0_27 x0_28 x0_29 x0_30 x0_31 x0_32 x0_35 x0_36 x0_37 x0_44 x0_49_51 x0_50_51 a1 (upd a2_51 (((121 : Int32) * x0_49_51) + u51_1).toNatClampNeg (a1 u51_1.toNatClampNeg))) H := hP
        have hD : va_D A (wW_X11_keepAct G h0 h1 h2 y0_1 y0_2 y0_3 y0_4 y0_6 y0_18 y0_21 y0_22 y0_23 y0_24 y0_25 y0_26 y0_33 y0_34 y0_38 y0_39 y0_40 y0_41 y0_42 y0_43 y0_45 y0_47 y0_48 x0_5 x0_7 x0_8 x0_9 x0_10 x0_11 x0_12 x0_13 x0_14 x0_15 x0_16 x0_17 x0_19 x0_20 x0_27 x0_28 x0_29 x0_30 x0_31 x0_32 x0_35 x0_36 x0_37 x0_44 x0_49_51 x0_50_51 a1 (upd a2_51 (((121 : Int32) * x0_49_51) + u51_1).toNatClampNeg (a1 u51_1.toNatClampNeg))) := hD
        refine lv_iinc (v := u51_1 + (1 : Int32)) (lv' := [(1, .int (u51_1 + (1 : Int32))), (0, .ref h0)]) hx hb dX11_keepAct_77 hl (k := 1) rfl (by rfl) (by decide) rfl (fun ls hl => ?_)
        refine lv_goto (tgt := 51) hx hb dX11_keepAct_80 (by decide) ?_
        exact ih51 _ _ _ _ hf _ _ hP hD hS _ (lv_sub hl [1, 0] rfl)
  have kJ49 : ∀ (x0_49_49 : Int32) (x0_50_49 : Int32) (a2_49 : Nat → Int32), p_X11_keepAct_J49 F a1 x0_49_49 x0_50_49 a2_49 = some (e_x0_49, e_x0_50, e_a2) → ∀ (H : Heap) (locs : List Loc), va_P G.1 vwCl (wW_X11_keepAct G h0 h1 h2 y0_1 y0_2 y0_3 y0_4 y0_6 y0_18 y0_21 y0_22 y0_23 y0_24 y0_25 y0_26 y0_33 y0_34 y0_38 y0_39 y0_40 y0_41 y0_42 y0_43 y0_45 y0_47 y0_48 x0_5 x0_7 x0_8 x0_9 x0_10 x0_11 x0_12 x0_13 x0_14 x0_15 x0_16 x0_17 x0_19 x0_20 x0_27 x0_28 x0_29 x0_30 x0_31 x0_32 x0_35 x0_36 x0_37 x0_44 x0_49_49 x0_50_49 a1 a2_49) H → va_D A (wW_X11_keepAct G h0 h1 h2 y0_1 y0_2 y0_3 y0_4 y0_6 y0_18 y0_21 y0_22 y0_23 y0_24 y0_25 y0_26 y0_33 y0_34 y0_38 y0_39 y0_40 y0_41 y0_42 y0_43 y0_45 y0_47 y0_48 x0_5 x0_7 x0_8 x0_9 x0_10 x0_11 x0_12 x0_13 x0_14 x0_15 x0_16 x0_17 x0_19 x0_20 x0_27 x0_28 x0_29 x0_30 x0_31 x0_32 x0_35 x0_36 x0_37 x0_44 x0_49_49 x0_50_49 a1 a2_49) → va_S A s.heap H locs → ∀ ls : Array Slot, lv_has ls 2 [(0, .ref h0)] → W p l e ({ frames := 0, cells := 0, slots := 0, locals := 0 } : Room) s m (List.toArray [.ref h0]) below meth c H locs 0 0 (MQ below (QvS G A (wW_X11_keepAct G h0 h1 h2 y0_1 y0_2 y0_3 y0_4 y0_6 y0_18 y0_21 y0_22 y0_23 y0_24 y0_25 y0_26 y0_33 y0_34 y0_38 y0_39 y0_40 y0_41 y0_42 y0_43 y0_45 y0_47 y0_48 x0_5 x0_7 x0_8 x0_9 x0_10 x0_11 x0_12 x0_13 x0_14 x0_15 x0_16 x0_17 x0_19 x0_20 x0_27 x0_28 x0_29 x0_30 x0_31 x0_32 x0_35 x0_36 x0_37 x0_44 e_x0_49 e_x0_50 a1 e_a2)) (List.toArray [.ref h0]) s 0 0 A) (F0 m 49 ls []) := by
    intro x0_49_49 x0_50_49 a2_49 hf H locs hP hD hS ls hl
    refine lv_iconst (v := (0 : Int32)) hx hb dX11_keepAct_49 (by decide) ?_
    refine lv_istore_n (lv' := [(1, .int (0 : Int32)), (0, .ref h0)]) hx hb dX11_keepAct_50 rfl hl (by decide) rfl (fun ls hl => ?_)
    exact kL51 _ _ _ _ _ hf _ _ hP hD hS _ (lv_sub hl [1, 0] rfl)
  have kL11 : ∀ (n11 : Nat) (u11_1 : Int32) (x0_49_11 : Int32) (x0_50_11 : Int32) (a2_11 : Nat → Int32), p_X11_keepAct_L11 F a1 n11 u11_1 x0_49_11 x0_50_11 a2_11 = some (e_x0_49, e_x0_50, e_a2) → ∀ (H : Heap) (locs : List Loc), va_P G.1 vwCl (wW_X11_keepAct G h0 h1 h2 y0_1 y0_2 y0_3 y0_4 y0_6 y0_18 y0_21 y0_22 y0_23 y0_24 y0_25 y0_26 y0_33 y0_34 y0_38 y0_39 y0_40 y0_41 y0_42 y0_43 y0_45 y0_47 y0_48 x0_5 x0_7 x0_8 x0_9 x0_10 x0_11 x0_12 x0_13 x0_14 x0_15 x0_16 x0_17 x0_19 x0_20 x0_27 x0_28 x0_29 x0_30 x0_31 x0_32 x0_35 x0_36 x0_37 x0_44 x0_49_11 x0_50_11 a1 a2_11) H → va_D A (wW_X11_keepAct G h0 h1 h2 y0_1 y0_2 y0_3 y0_4 y0_6 y0_18 y0_21 y0_22 y0_23 y0_24 y0_25 y0_26 y0_33 y0_34 y0_38 y0_39 y0_40 y0_41 y0_42 y0_43 y0_45 y0_47 y0_48 x0_5 x0_7 x0_8 x0_9 x0_10 x0_11 x0_12 x0_13 x0_14 x0_15 x0_16 x0_17 x0_19 x0_20 x0_27 x0_28 x0_29 x0_30 x0_31 x0_32 x0_35 x0_36 x0_37 x0_44 x0_49_11 x0_50_11 a1 a2_11) → va_S A s.heap H locs → ∀ ls : Array Slot, lv_has ls 2 [(0, .ref h0), (1, .int u11_1)] → W p l e ({ frames := 0, cells := 0, slots := 0, locals := 0 } : Room) s m (List.toArray [.ref h0]) below meth c H locs 0 0 (MQ below (QvS G A (wW_X11_keepAct G h0 h1 h2 y0_1 y0_2 y0_3 y0_4 y0_6 y0_18 y0_21 y0_22 y0_23 y0_24 y0_25 y0_26 y0_33 y0_34 y0_38 y0_39 y0_40 y0_41 y0_42 y0_43 y0_45 y0_47 y0_48 x0_5 x0_7 x0_8 x0_9 x0_10 x0_11 x0_12 x0_13 x0_14 x0_15 x0_16 x0_17 x0_19 x0_20 x0_27 x0_28 x0_29 x0_30 x0_31 x0_32 x0_35 x0_36 x0_37 x0_44 e_x0_49 e_x0_50 a1 e_a2)) (List.toArray [.ref h0]) s 0 0 A) (F0 m 11 ls []) := by
    intro n11
    induction n11 with
    | zero =>
      intro u11_1 x0_49_11 x0_50_11 a2_11 hf
      cases hf
    | succ n11 ih11 =>
      intro u11_1 x0_49_11 x0_50_11 a2_11 hf H locs hP hD hS ls hl
      have hf : p_X11_keepAct_L11b F a1 (p_X11_keepAct_L11 F a1 n11) u11_1 x0_49_11 x0_50_11 a2_11 = some (e_x0_49, e_x0_50, e_a2) := hf
      refine lv_iload_n hx hb dX11_keepAct_11 rfl (lv_at hl 1 rfl) ?_
      refine lv_sipush (v := (1452 : Int32)) hx hb dX11_keepAct_12 (by decide) ?_
      refine lv_icmp_ge (tgt := 39) hx hb dX11_keepAct_15 (by decide) (fun c4 => ?_) (fun c4 => ?_)
      · have hf := of_pos hf c4
        refine lv_aload_n hx hb dX11_keepAct_39 rfl (lv_at hl 0 rfl) ?_
        refine lv_dup hx hb dX11_keepAct_40 rfl ?_
        refine va_get (ci := 11) (v := .int x0_49_11) (C := RX11) (T := TX11) (N := 51) hx hb ht0 iX11 hown hK hP 0 rfl rfl 49 (by decide) (ht0 _ wd_1455) (fun _ h9 => h9) rfl dX11_keepAct_41 ?_
        refine lv_iconst (v := (1 : Int32)) hx hb dX11_keepAct_44 (by decide) ?_
        refine lv_isub hx hb dX11_keepAct_45 ?_
        refine va_put (ci := 11) (v := .int (x0_49_11 - (1 : Int32))) (ty := .int) (C := RX11) (T := TX11) (N := 51) hx hb ht0 iX11 tyX11 tyX11_ok nmX11 hown hK hP hD hS 0 rfl rfl 49 (by decide) (ht0 _ wd_1455) (fun _ h9 => h9) rfl rfl rfl rfl (Nat.le_of_ble_eq_true rfl) dX11_keepAct_46 (fun H locs hP hD hS => ?_)
        have hP : va_P G.1 vwCl (wW_X11_keepAct G h0 h1 h2 y0_1 y0_2 y0_3 y0_4 y0_6 y0_18 y0_21 y0_22 y0_23 y0_24 y0_25 y0_26 y0_33 y0_34 y0_38 y0_39 y0_40 y0_41 y0_42 y0_43 y0_45 y0_47 y0_48 x0_5 x0_7 x0_8 x0_9 x0_10 x0_11 x0_12 x0_13 x0_14 x0_15 x0_16 x0_17 x0_19 x0_20 x0_27 x0_28 x0_29 x0_30 x0_31 x0_32 x0_35 x0_36 x0_37 x0_44 (x0_49_11 - (1 : Int32)) x0_50_11 a1 a2_11) H := hP
        have hD : va_D A (wW_X11_keepAct G h0 h1 h2 y0_1 y0_2 y0_3 y0_4 y0_6 y0_18 y0_21 y0_22 y0_23 y0_24 y0_25 y0_26 y0_33 y0_34 y0_38 y0_39 y0_40 y0_41 y0_42 y0_43 y0_45 y0_47 y0_48 x0_5 x0_7 x0_8 x0_9 x0_10 x0_11 x0_12 x0_13 x0_14 x0_15 x0_16 x0_17 x0_19 x0_20 x0_27 x0_28 x0_29 x0_30 x0_31 x0_32 x0_35 x0_36 x0_37 x0_44 (x0_49_11 - (1 : Int32)) x0_50_11 a1 a2_11) := hD
        exact kJ49 _ _ _ hf _ _ hP hD hS _ (lv_sub hl [0] rfl)
      · have hf := of_neg hf c4
        refine lv_aload_n hx hb dX11_keepAct_18 rfl (lv_at hl 0 rfl) ?_
        refine va_get (ci := 11) (v := .ref h2) (C := RX11) (T := TX11) (N := 51) hx hb ht0 iX11 hown hK hP 0 rfl rfl 46 (by decide) (ht0 _ wd_1452) (fun _ h9 => h9) rfl dX11_keepAct_19 ?_
        refine lv_iload_n hx hb dX11_keepAct_22 rfl (lv_at hl 1 rfl) ?_
        refine lv_aload_n hx hb dX11_keepAct_23 rfl (lv_at hl 0 rfl) ?_
        refine va_get (ci := 11) (v := .ref h2) (C := RX11) (T := TX11) (N := 51) hx hb ht0 iX11 hown hK hP 0 rfl rfl 46 (by decide) (ht0 _ wd_1452) (fun _ h9 => h9) rfl dX11_keepAct_24 ?_
        refine lv_iload_n hx hb dX11_keepAct_27 rfl (lv_at hl 1 rfl) ?_
        refine lv_bipush (v := (121 : Int32)) hx hb dX11_keepAct_28 (by decide) ?_
        refine lv_iadd hx hb dX11_keepAct_30 ?_
        obtain ⟨g5, hf⟩ := of_grd hf
        refine va_iald hx hb hK hP 2 0 rfl rfl g5 dX11_keepAct_31 ?_
        obtain ⟨g6, hf⟩ := of_grd hf
        refine va_iast hx hb hK hP hD hS 2 0 rfl rfl g6 dX11_keepAct_32 (fun H locs hP hD hS => ?_)
        have hP : va_P G.1 vwCl (wW_X11_keepAct G h0 h1 h2 y0_1 y0_2 y0_3 y0_4 y0_6 y0_18 y0_21 y0_22 y0_23 y0_24 y0_25 y0_26 y0_33 y0_34 y0_38 y0_39 y0_40 y0_41 y0_42 y0_43 y0_45 y0_47 y0_48 x0_5 x0_7 x0_8 x0_9 x0_10 x0_11 x0_12 x0_13 x0_14 x0_15 x0_16 x0_17 x0_19 x0_20 x0_27 x0_28 x0_29 x0_30 x0_31 x0_32 x0_35 x0_36 x0_37 x0_44 x0_49_11 x0_50_11 a1 (upd a2_11 u11_1.toNatClampNeg (a2_11 (u11_1 + (121 : Int32)).toNatClampNeg))) H := hP
        have hD : va_D A (wW_X11_keepAct G h0 h1 h2 y0_1 y0_2 y0_3 y0_4 y0_6 y0_18 y0_21 y0_22 y0_23 y0_24 y0_25 y0_26 y0_33 y0_34 y0_38 y0_39 y0_40 y0_41 y0_42 y0_43 y0_45 y0_47 y0_48 x0_5 x0_7 x0_8 x0_9 x0_10 x0_11 x0_12 x0_13 x0_14 x0_15 x0_16 x0_17 x0_19 x0_20 x0_27 x0_28 x0_29 x0_30 x0_31 x0_32 x0_35 x0_36 x0_37 x0_44 x0_49_11 x0_50_11 a1 (upd a2_11 u11_1.toNatClampNeg (a2_11 (u11_1 + (121 : Int32)).toNatClampNeg))) := hD
        refine lv_iinc (v := u11_1 + (1 : Int32)) (lv' := [(1, .int (u11_1 + (1 : Int32))), (0, .ref h0)]) hx hb dX11_keepAct_33 hl (k := 1) rfl (by rfl) (by decide) rfl (fun ls hl => ?_)
        refine lv_goto (tgt := 11) hx hb dX11_keepAct_36 (by decide) ?_
        exact ih11 _ _ _ _ hf _ _ hP hD hS _ (lv_sub hl [1, 0] rfl)
  refine lv_aload_n hx hb dX11_keepAct_0 rfl (lv_at hl 0 rfl) ?_
  refine va_get (ci := 11) (v := .int x0_49) (C := RX11) (T := TX11) (N := 51) hx hb ht0 iX11 hown hK hP 0 rfl rfl 49 (by decide) (ht0 _ wd_1455) (fun _ h9 => h9) rfl dX11_keepAct_1 ?_
  refine lv_bipush (v := (12 : Int32)) hx hb dX11_keepAct_4 (by decide) ?_
  refine lv_icmp_ne (tgt := 49) hx hb dX11_keepAct_6 (by decide) (fun c7 => ?_) (fun c7 => ?_)
  · have hf := of_neg hf c7
    exact kJ49 _ _ _ hf _ _ hP hD hS _ (lv_sub hl [0] rfl)
  · have hf := of_pos hf c7
    refine lv_iconst (v := (0 : Int32)) hx hb dX11_keepAct_9 (by decide) ?_
    refine lv_istore_n (lv' := [(1, .int (0 : Int32)), (0, .ref h0)]) hx hb dX11_keepAct_10 rfl hl (by decide) rfl (fun ls hl => ?_)
    exact kL11 _ _ _ _ _ hf _ _ hP hD hS _ (lv_sub hl [1, 0] rfl)
theorem yk_X11_keepAct : ykV yX11_keepAct RX11 cX11_keepAct 2 none 0 := ⟨wd_1597, wd_73, wd_142, wd_1598, rfl, by decide +kernel, by decide +kernel, by decide +kernel⟩
theorem dX11_write_0 : decode cX11_write 0 = .ok (.iload_n 1, 1) := by decide +kernel
theorem dX11_write_1 : decode cX11_write 1 = .ok (.invokestatic 350, 3) := by decide +kernel
theorem dX11_write_4 : decode cX11_write 4 = .ok (.ifCond .eq 11, 3) := by decide +kernel
theorem dX11_write_7 : decode cX11_write 7 = .ok (.aload_n 0, 1) := by decide +kernel
theorem dX11_write_8 : decode cX11_write 8 = .ok (.iload_n 2, 1) := by decide +kernel
theorem dX11_write_9 : decode cX11_write 9 = .ok (.invokevirtual 353, 3) := by decide +kernel
theorem dX11_write_12 : decode cX11_write 12 = .ok (.ifCond .ne 5, 3) := by decide +kernel
theorem dX11_write_15 : decode cX11_write 15 = .ok (.iconst 0, 1) := by decide +kernel
theorem dX11_write_16 : decode cX11_write 16 = .ok (.ireturn, 1) := by decide +kernel
theorem dX11_write_17 : decode cX11_write 17 = .ok (.aload_n 0, 1) := by decide +kernel
theorem dX11_write_18 : decode cX11_write 18 = .ok (.invokevirtual 356, 3) := by decide +kernel
theorem dX11_write_21 : decode cX11_write 21 = .ok (.aload_n 0, 1) := by decide +kernel
theorem dX11_write_22 : decode cX11_write 22 = .ok (.getfield 7, 3) := by decide +kernel
theorem dX11_write_25 : decode cX11_write 25 = .ok (.bipush 65, 2) := by decide +kernel
theorem dX11_write_27 : decode cX11_write 27 = .ok (.iload_n 1, 1) := by decide +kernel
theorem dX11_write_28 : decode cX11_write 28 = .ok (.iadd, 1) := by decide +kernel
theorem dX11_write_29 : decode cX11_write 29 = .ok (.iload_n 2, 1) := by decide +kernel
theorem dX11_write_30 : decode cX11_write 30 = .ok (.iastore, 1) := by decide +kernel
theorem dX11_write_31 : decode cX11_write 31 = .ok (.aload_n 0, 1) := by decide +kernel
theorem dX11_write_32 : decode cX11_write 32 = .ok (.iload_n 1, 1) := by decide +kernel
theorem dX11_write_33 : decode cX11_write 33 = .ok (.iload_n 2, 1) := by decide +kernel
theorem dX11_write_34 : decode cX11_write 34 = .ok (.invokevirtual 287, 3) := by decide +kernel
theorem dX11_write_37 : decode cX11_write 37 = .ok (.iconst 1, 1) := by decide +kernel
theorem dX11_write_38 : decode cX11_write 38 = .ok (.ireturn, 1) := by decide +kernel
def wW_X11_write (G : GG) (h0 h1 h2 h3 y0_2 y0_3 y0_4 y0_6 y0_18 y0_21 y0_22 y0_23 y0_24 y0_25 y0_26 y0_33 y0_34 y0_38 y0_39 y0_40 y0_41 y0_42 y0_43 y0_45 y0_47 y0_48 : Nat) (x0_5 : Int32) (x0_7 : Int32) (x0_8 : Int32) (x0_9 : Int32) (x0_10 : Int32) (x0_11 : Int32) (x0_12 : Int32) (x0_13 : Int32) (x0_14 : Int32) (x0_15 : Int32) (x0_16 : Int32) (x0_17 : Int32) (x0_19 : Int32) (x0_20 : Int32) (x0_27 : Int32) (x0_28 : Int32) (x0_29 : Int32) (x0_30 : Int32) (x0_31 : Int32) (x0_32 : Int32) (x0_35 : Int32) (x0_36 : Int32) (x0_37 : Int32) (x0_44 : Int32) (x0_49 : Int32) (x0_50 : Int32) (a1 : Nat → Int32) (a2 : Nat → Int32) (a3 : Nat → Int32) : va_W := [(h0, .inr (11, [.ref h1, .ref h2, .ref y0_2, .ref y0_3, .ref y0_4, .int x0_5, .ref y0_6, .int x0_7, .int x0_8, .int x0_9, .int x0_10, .int x0_11, .int x0_12, .int x0_13, .int x0_14, .int x0_15, .int x0_16, .int x0_17, .ref y0_18, .int x0_19, .int x0_20, .ref y0_21, .ref y0_22, .ref y0_23, .ref y0_24, .ref y0_25, .ref y0_26, .int x0_27, .int x0_28, .int x0_29, .int x0_30, .int x0_31, .int x0_32, .ref y0_33, .ref y0_34, .int x0_35, .int x0_36, .int x0_37, .ref y0_38, .ref y0_39, .ref y0_40, .ref y0_41, .ref y0_42, .ref y0_43, .int x0_44, .ref y0_45, .ref h3, .ref y0_47, .ref y0_48, .int x0_49, .int x0_50])), (h1, .inl (G.2.1, 121, .inl a1)), (h2, .inl (G.2.1, 2, .inl a2)), (h3, .inl (G.2.1, 1573, .inl a3))]
set_option maxHeartbeats 4000000 in
set_option maxRecDepth 100000 in
theorem c_X11_write (l : Launch) (G : GG) (h0 h1 h2 h3 y0_2 y0_3 y0_4 y0_6 y0_18 y0_21 y0_22 y0_23 y0_24 y0_25 y0_26 y0_33 y0_34 y0_38 y0_39 y0_40 y0_41 y0_42 y0_43 y0_45 y0_47 y0_48 : Nat) (sz : Nat) (x0_5 : Int32) (x0_7 : Int32) (x0_8 : Int32) (x0_9 : Int32) (x0_10 : Int32) (x0_11 : Int32) (x0_12 : Int32) (x0_13 : Int32) (x0_14 : Int32) (x0_15 : Int32) (x0_16 : Int32) (x0_17 : Int32) (x0_19 : Int32) (x0_20 : Int32) (x0_27 : Int32) (x0_28 : Int32) (x0_29 : Int32) (x0_30 : Int32) (x0_31 : Int32) (x0_32 : Int32) (x0_35 : Int32) (x0_36 : Int32) (x0_37 : Int32) (x0_44 : Int32) (x0_49 : Int32) (x0_50 : Int32) (a1 : Nat → Int32) (a2 : Nat → Int32) (a3 : Nat → Int32) (F : Nat) (b1 : Int32) (b2 : Int32)  (r0 : Int32) (e_x0_49 : Int32) (e_x0_50 : Int32) (e_a1 : Nat → Int32) (e_a3 : Nat → Int32) (hf : p_X11_write F x0_5 x0_49 x0_50 a1 a2 a3 b1 b2 = some (r0, e_x0_49, e_x0_50, e_a1, e_a3)) : Met l yX11_write (.code yX11_write cX11_write 3 (some .boolean) :: gtbl) ({ frames := 6, cells := 0, slots := 0, locals := 137 } : Room) (PcS G [.ref h0, .int b1, .int b2] (wW_X11_write G h0 h1 h2 h3 y0_2 y0_3 y0_4 y0_6 y0_18 y0_21 y0_22 y0_23 y0_24 y0_25 y0_26 y0_33 y0_34 y0_38 y0_39 y0_40 y0_41 y0_42 y0_43 y0_45 y0_47 y0_48 x0_5 x0_7 x0_8 x0_9 x0_10 x0_11 x0_12 x0_13 x0_14 x0_15 x0_16 x0_17 x0_19 x0_20 x0_27 x0_28 x0_29 x0_30 x0_31 x0_32 x0_35 x0_36 x0_37 x0_44 x0_49 x0_50 a1 a2 a3) sz) (QiS G r0 (va_A (wW_X11_write G h0 h1 h2 h3 y0_2 y0_3 y0_4 y0_6 y0_18 y0_21 y0_22 y0_23 y0_24 y0_25 y0_26 y0_33 y0_34 y0_38 y0_39 y0_40 y0_41 y0_42 y0_43 y0_45 y0_47 y0_48 x0_5 x0_7 x0_8 x0_9 x0_10 x0_11 x0_12 x0_13 x0_14 x0_15 x0_16 x0_17 x0_19 x0_20 x0_27 x0_28 x0_29 x0_30 x0_31 x0_32 x0_35 x0_36 x0_37 x0_44 x0_49 x0_50 a1 a2 a3) sz) (wW_X11_write G h0 h1 h2 h3 y0_2 y0_3 y0_4 y0_6 y0_18 y0_21 y0_22 y0_23 y0_24 y0_25 y0_26 y0_33 y0_34 y0_38 y0_39 y0_40 y0_41 y0_42 y0_43 y0_45 y0_47 y0_48 x0_5 x0_7 x0_8 x0_9 x0_10 x0_11 x0_12 x0_13 x0_14 x0_15 x0_16 x0_17 x0_19 x0_20 x0_27 x0_28 x0_29 x0_30 x0_31 x0_32 x0_35 x0_36 x0_37 x0_44 e_x0_49 e_x0_50 e_a1 a2 e_a3)) 0 0 (va_A (wW_X11_write G h0 h1 h2 h3 y0_2 y0_3 y0_4 y0_6 y0_18 y0_21 y0_22 y0_23 y0_24 y0_25 y0_26 y0_33 y0_34 y0_38 y0_39 y0_40 y0_41 y0_42 y0_43 y0_45 y0_47 y0_48 x0_5 x0_7 x0_8 x0_9 x0_10 x0_11 x0_12 x0_13 x0_14 x0_15 x0_16 x0_17 x0_19 x0_20 x0_27 x0_28 x0_29 x0_30 x0_31 x0_32 x0_35 x0_36 x0_37 x0_44 x0_49 x0_50 a1 a2 a3) sz) := by
  refine met_start (by decide) (Nat.le_of_ble_eq_true rfl) ?_
  intro p e s m below meth c hC hr hlk hnm hK hP hD hA hS hX ls hl
  obtain ⟨hx, hb, hml, hown, ht0⟩ := hC
  have hown : s.vm.findClass RX11 = some m.cls := hown
  generalize va_A (wW_X11_write G h0 h1 h2 h3 y0_2 y0_3 y0_4 y0_6 y0_18 y0_21 y0_22 y0_23 y0_24 y0_25 y0_26 y0_33 y0_34 y0_38 y0_39 y0_40 y0_41 y0_42 y0_43 y0_45 y0_47 y0_48 x0_5 x0_7 x0_8 x0_9 x0_10 x0_11 x0_12 x0_13 x0_14 x0_15 x0_16 x0_17 x0_19 x0_20 x0_27 x0_28 x0_29 x0_30 x0_31 x0_32 x0_35 x0_36 x0_37 x0_44 x0_49 x0_50 a1 a2 a3) sz = A at hD hA hS hX ⊢
  have hl : lv_has ls 3 [(0, .ref h0), (1, .int b1), (2, .int b2)] := hl
  have hf : p_X11_write F x0_5 x0_49 x0_50 a1 a2 a3 b1 b2 = some (r0, e_x0_49, e_x0_50, e_a1, e_a3) := hf
  refine lv_iload_n hx hb dX11_write_0 rfl (lv_at hl 1 rfl) ?_
  obtain ⟨r_1_0, hc_r_1_0, hf⟩ := of_bnd hf
  refine cl_Si (w2 := (wW_X11_write G h0 h1 h2 h3 y0_2 y0_3 y0_4 y0_6 y0_18 y0_21 y0_22 y0_23 y0_24 y0_25 y0_26 y0_33 y0_34 y0_38 y0_39 y0_40 y0_41 y0_42 y0_43 y0_45 y0_47 y0_48 x0_5 x0_7 x0_8 x0_9 x0_10 x0_11 x0_12 x0_13 x0_14 x0_15 x0_16 x0_17 x0_19 x0_20 x0_27 x0_28 x0_29 x0_30 x0_31 x0_32 x0_35 x0_36 x0_37 x0_44 x0_49 x0_50 a1 a2 a3)) (As := [.int b1]) (rest := []) ⟨hx, hb, hml, hown, ht0⟩ (c_X11_isWordAt l G _ F b1 _ hc_r_1_0) yk_X11_isWordAt wd_1588 ⟨rfl, rfl, by decide, by decide⟩ ⟨Nat.le_refl _, Nat.le_refl _⟩ hX hK hP hD hS hA [] [0, 1, 2, 3] [0, 1, 2, 3] rfl rfl (by decide) rfl rfl rfl rfl rfl hl.1 rfl (Nat.le_of_ble_eq_true rfl) dX11_write_1 (fun H locs hP hD hS => ?_)
  refine lv_if_eq (tgt := 15) hx hb dX11_write_4 (by decide) (fun c2 => ?_) (fun c2 => ?_)
  · have hf := of_pos hf c2
    refine lv_iconst (v := (0 : Int32)) hx hb dX11_write_15 (by decide) ?_
    cases hf
    exact ret_z hx hb hr hlk hK hP hD hS (by decide) dX11_write_16
  · have hf := of_neg hf c2
    refine lv_aload_n hx hb dX11_write_7 rfl (lv_at hl 0 rfl) ?_
    refine lv_iload_n hx hb dX11_write_8 rfl (lv_at hl 2 rfl) ?_
    obtain ⟨r_9_2, hc_r_9_2, hf⟩ := of_bnd hf
    refine cl_Vi (w2 := (wW_X11_write G h0 h1 h2 h3 y0_2 y0_3 y0_4 y0_6 y0_18 y0_21 y0_22 y0_23 y0_24 y0_25 y0_26 y0_33 y0_34 y0_38 y0_39 y0_40 y0_41 y0_42 y0_43 y0_45 y0_47 y0_48 x0_5 x0_7 x0_8 x0_9 x0_10 x0_11 x0_12 x0_13 x0_14 x0_15 x0_16 x0_17 x0_19 x0_20 x0_27 x0_28 x0_29 x0_30 x0_31 x0_32 x0_35 x0_36 x0_37 x0_44 x0_49 x0_50 a1 a2 a3)) (As := [.int b2]) (rest := []) ⟨hx, hb, hml, hown, ht0⟩ (c_X11_isValue l G h0 h2 h1 y0_2 y0_3 y0_4 y0_6 y0_18 y0_21 y0_22 y0_23 y0_24 y0_25 y0_26 y0_33 y0_34 y0_38 y0_39 y0_40 y0_41 y0_42 y0_43 y0_45 h3 y0_47 y0_48 _ x0_5 x0_7 x0_8 x0_9 x0_10 x0_11 x0_12 x0_13 x0_14 x0_15 x0_16 x0_17 x0_19 x0_20 x0_27 x0_28 x0_29 x0_30 x0_31 x0_32 x0_35 x0_36 x0_37 x0_44 x0_49 x0_50 a2 F b2 _ hc_r_9_2) yk_X11_isValue wd_1591 ⟨rfl, rfl, by decide, by decide⟩ ⟨Nat.le_refl _, Nat.le_refl _⟩ hX hK hP hD hS hA [0, 2] [1, 3] [2, 0, 3, 1] (va_recv hK hP (ci := 11) (q0 := 0) rfl rfl) rfl rfl (by decide) rfl rfl rfl rfl rfl hl.1 rfl (Nat.le_of_ble_eq_true rfl) dX11_write_9 (fun H locs hP hD hS => ?_)
    refine lv_if_ne (tgt := 17) hx hb dX11_write_12 (by decide) (fun c4 => ?_) (fun c4 => ?_)
    · have hf := of_neg hf c4
      refine lv_aload_n hx hb dX11_write_17 rfl (lv_at hl 0 rfl) ?_
      obtain ⟨⟨r_18_4_x0_49, r_18_4_x0_50, r_18_4_a2⟩, hc_r_18_4, hf⟩ := of_bnd hf
      refine cl_Vv (w2 := (wW_X11_write G h0 h1 h2 h3 y0_2 y0_3 y0_4 y0_6 y0_18 y0_21 y0_22 y0_23 y0_24 y0_25 y0_26 y0_33 y0_34 y0_38 y0_39 y0_40 y0_41 y0_42 y0_43 y0_45 y0_47 y0_48 x0_5 x0_7 x0_8 x0_9 x0_10 x0_11 x0_12 x0_13 x0_14 x0_15 x0_16 x0_17 x0_19 x0_20 x0_27 x0_28 x0_29 x0_30 x0_31 x0_32 x0_35 x0_36 x0_37 x0_44 r_18_4_x0_49 r_18_4_x0_50 a1 a2 r_18_4_a2)) (As := []) (rest := []) ⟨hx, hb, hml, hown, ht0⟩ (c_X11_keepAct l G h0 h1 h3 h2 y0_2 y0_3 y0_4 y0_6 y0_18 y0_21 y0_22 y0_23 y0_24 y0_25 y0_26 y0_33 y0_34 y0_38 y0_39 y0_40 y0_41 y0_42 y0_43 y0_45 y0_47 y0_48 _ x0_5 x0_7 x0_8 x0_9 x0_10 x0_11 x0_12 x0_13 x0_14 x0_15 x0_16 x0_17 x0_19 x0_20 x0_27 x0_28 x0_29 x0_30 x0_31 x0_32 x0_35 x0_36 x0_37 x0_44 x0_49 x0_50 a1 a3 F _ _ _ hc_r_18_4) yk_X11_keepAct wd_1595 ⟨rfl, rfl, by decide, by decide⟩ ⟨Nat.le_refl _, Nat.le_refl _⟩ hX hK hP hD hS hA [0, 1, 3] [2] [1, 2, 0, 3] (va_recv hK hP (ci := 11) (q0 := 0) rfl rfl) rfl rfl (by decide) rfl rfl rfl rfl rfl hl.1 rfl (Nat.le_of_ble_eq_true rfl) dX11_write_18 (fun H locs hP hD hS => ?_)
      refine lv_aload_n hx hb dX11_write_21 rfl (lv_at hl 0 rfl) ?_
      refine va_get (ci := 11) (v := .ref h1) (C := RX11) (T := TX11) (N := 51) hx hb ht0 iX11 hown hK hP 0 rfl rfl 0 (by decide) (ht0 _ wd_1406) (fun _ h9 => h9) rfl dX11_write_22 ?_
      refine lv_bipush (v := (65 : Int32)) hx hb dX11_write_25 (by decide) ?_
      refine lv_iload_n hx hb dX11_write_27 rfl (lv_at hl 1 rfl) ?_
      refine lv_iadd hx hb dX11_write_28 ?_
      refine lv_iload_n hx hb dX11_write_29 rfl (lv_at hl 2 rfl) ?_
      obtain ⟨g6, hf⟩ := of_grd hf
      refine va_iast hx hb hK hP hD hS 1 0 rfl rfl g6 dX11_write_30 (fun H locs hP hD hS => ?_)
      have hP : va_P G.1 vwCl (wW_X11_write G h0 h1 h2 h3 y0_2 y0_3 y0_4 y0_6 y0_18 y0_21 y0_22 y0_23 y0_24 y0_25 y0_26 y0_33 y0_34 y0_38 y0_39 y0_40 y0_41 y0_42 y0_43 y0_45 y0_47 y0_48 x0_5 x0_7 x0_8 x0_9 x0_10 x0_11 x0_12 x0_13 x0_14 x0_15 x0_16 x0_17 x0_19 x0_20 x0_27 x0_28 x0_29 x0_30 x0_31 x0_32 x0_35 x0_36 x0_37 x0_44 r_18_4_x0_49 r_18_4_x0_50 (upd a1 ((65 : Int32) + b1).toNatClampNeg b2) a2 r_18_4_a2) H := hP
      have hD : va_D A (wW_X11_write G h0 h1 h2 h3 y0_2 y0_3 y0_4 y0_6 y0_18 y0_21 y0_22 y0_23 y0_24 y0_25 y0_26 y0_33 y0_34 y0_38 y0_39 y0_40 y0_41 y0_42 y0_43 y0_45 y0_47 y0_48 x0_5 x0_7 x0_8 x0_9 x0_10 x0_11 x0_12 x0_13 x0_14 x0_15 x0_16 x0_17 x0_19 x0_20 x0_27 x0_28 x0_29 x0_30 x0_31 x0_32 x0_35 x0_36 x0_37 x0_44 r_18_4_x0_49 r_18_4_x0_50 (upd a1 ((65 : Int32) + b1).toNatClampNeg b2) a2 r_18_4_a2) := hD
      refine lv_aload_n hx hb dX11_write_31 rfl (lv_at hl 0 rfl) ?_
      refine lv_iload_n hx hb dX11_write_32 rfl (lv_at hl 1 rfl) ?_
      refine lv_iload_n hx hb dX11_write_33 rfl (lv_at hl 2 rfl) ?_
      obtain ⟨r_34_6_a1, hc_r_34_6, hf⟩ := of_bnd hf
      refine cl_Vv (w2 := (wW_X11_write G h0 h1 h2 h3 y0_2 y0_3 y0_4 y0_6 y0_18 y0_21 y0_22 y0_23 y0_24 y0_25 y0_26 y0_33 y0_34 y0_38 y0_39 y0_40 y0_41 y0_42 y0_43 y0_45 y0_47 y0_48 x0_5 x0_7 x0_8 x0_9 x0_10 x0_11 x0_12 x0_13 x0_14 x0_15 x0_16 x0_17 x0_19 x0_20 x0_27 x0_28 x0_29 x0_30 x0_31 x0_32 x0_35 x0_36 x0_37 x0_44 r_18_4_x0_49 r_18_4_x0_50 r_34_6_a1 a2 r_18_4_a2)) (As := [.int b1, .int b2]) (rest := []) ⟨hx, hb, hml, hown, ht0⟩ (c_X11_writeWhole l G h0 h1 h2 y0_2 y0_3 y0_4 y0_6 y0_18 y0_21 y0_22 y0_23 y0_24 y0_25 y0_26 y0_33 y0_34 y0_38 y0_39 y0_40 y0_41 y0_42 y0_43 y0_45 h3 y0_47 y0_48 _ x0_5 x0_7 x0_8 x0_9 x0_10 x0_11 x0_12 x0_13 x0_14 x0_15 x0_16 x0_17 x0_19 x0_20 x0_27 x0_28 x0_29 x0_30 x0_31 x0_32 x0_35 x0_36 x0_37 x0_44 r_18_4_x0_49 r_18_4_x0_50 (upd a1 ((65 : Int32) + b1).toNatClampNeg b2) a2 F b1 b2 _ hc_r_34_6) yk_X11_writeWhole wd_1599 ⟨rfl, rfl, by decide, by decide⟩ ⟨Nat.le_refl _, Nat.le_refl _⟩ hX hK hP hD hS hA [0, 1, 2] [3] [1, 2, 3, 0] (va_recv hK hP (ci := 11) (q0 := 0) rfl rfl) rfl rfl (by decide) rfl rfl rfl rfl rfl hl.1 rfl (Nat.le_of_ble_eq_true rfl) dX11_write_34 (fun H locs hP hD hS => ?_)
      refine lv_iconst (v := (1 : Int32)) hx hb dX11_write_37 (by decide) ?_
      cases hf
      exact ret_z hx hb hr hlk hK hP hD hS (by decide) dX11_write_38
    · have hf := of_pos hf c4
      refine lv_iconst (v := (0 : Int32)) hx hb dX11_write_15 (by decide) ?_
      cases hf
      exact ret_z hx hb hr hlk hK hP hD hS (by decide) dX11_write_16
theorem yk_X11_write : ykV yX11_write RX11 cX11_write 3 (some .boolean) 2 := ⟨wd_1585, wd_1586, wd_142, wd_1587, rfl, by decide +kernel, by decide +kernel, by decide +kernel⟩
theorem dX11_part_0 : decode cX11_part 0 = .ok (.iload_n 1, 1) := by decide +kernel
theorem dX11_part_1 : decode cX11_part 1 = .ok (.invokestatic 350, 3) := by decide +kernel
theorem dX11_part_4 : decode cX11_part 4 = .ok (.ifCond .eq 19, 3) := by decide +kernel
theorem dX11_part_7 : decode cX11_part 7 = .ok (.aload_n 0, 1) := by decide +kernel
theorem dX11_part_8 : decode cX11_part 8 = .ok (.iload_n 2, 1) := by decide +kernel
theorem dX11_part_9 : decode cX11_part 9 = .ok (.invokevirtual 353, 3) := by decide +kernel
theorem dX11_part_12 : decode cX11_part 12 = .ok (.ifCond .eq 11, 3) := by decide +kernel
theorem dX11_part_15 : decode cX11_part 15 = .ok (.aload_n 0, 1) := by decide +kernel
theorem dX11_part_16 : decode cX11_part 16 = .ok (.iload_n 3, 1) := by decide +kernel
theorem dX11_part_17 : decode cX11_part 17 = .ok (.invokevirtual 353, 3) := by decide +kernel
theorem dX11_part_20 : decode cX11_part 20 = .ok (.ifCond .ne 5, 3) := by decide +kernel
theorem dX11_part_23 : decode cX11_part 23 = .ok (.iconst (-1), 1) := by decide +kernel
theorem dX11_part_24 : decode cX11_part 24 = .ok (.ireturn, 1) := by decide +kernel
theorem dX11_part_25 : decode cX11_part 25 = .ok (.aload_n 0, 1) := by decide +kernel
theorem dX11_part_26 : decode cX11_part 26 = .ok (.iload_n 1, 1) := by decide +kernel
theorem dX11_part_27 : decode cX11_part 27 = .ok (.invokevirtual 329, 3) := by decide +kernel
theorem dX11_part_30 : decode cX11_part 30 = .ok (.aload_n 0, 1) := by decide +kernel
theorem dX11_part_31 : decode cX11_part 31 = .ok (.invokevirtual 323, 3) := by decide +kernel
theorem dX11_part_34 : decode cX11_part 34 = .ok (.ifCond .eq 8, 3) := by decide +kernel
theorem dX11_part_37 : decode cX11_part 37 = .ok (.aload_n 0, 1) := by decide +kernel
theorem dX11_part_38 : decode cX11_part 38 = .ok (.getfield 296, 3) := by decide +kernel
theorem dX11_part_41 : decode cX11_part 41 = .ok (.ireturn, 1) := by decide +kernel
theorem dX11_part_42 : decode cX11_part 42 = .ok (.aload_n 0, 1) := by decide +kernel
theorem dX11_part_43 : decode cX11_part 43 = .ok (.invokevirtual 356, 3) := by decide +kernel
theorem dX11_part_46 : decode cX11_part 46 = .ok (.aload_n 0, 1) := by decide +kernel
theorem dX11_part_47 : decode cX11_part 47 = .ok (.iload_n 1, 1) := by decide +kernel
theorem dX11_part_48 : decode cX11_part 48 = .ok (.invokevirtual 332, 3) := by decide +kernel
theorem dX11_part_51 : decode cX11_part 51 = .ok (.aload_n 0, 1) := by decide +kernel
theorem dX11_part_52 : decode cX11_part 52 = .ok (.getfield 7, 3) := by decide +kernel
theorem dX11_part_55 : decode cX11_part 55 = .ok (.bipush 65, 2) := by decide +kernel
theorem dX11_part_57 : decode cX11_part 57 = .ok (.iload_n 1, 1) := by decide +kernel
theorem dX11_part_58 : decode cX11_part 58 = .ok (.iadd, 1) := by decide +kernel
theorem dX11_part_59 : decode cX11_part 59 = .ok (.iload_n 3, 1) := by decide +kernel
theorem dX11_part_60 : decode cX11_part 60 = .ok (.iload_n 2, 1) := by decide +kernel
theorem dX11_part_61 : decode cX11_part 61 = .ok (.iand, 1) := by decide +kernel
theorem dX11_part_62 : decode cX11_part 62 = .ok (.aload_n 0, 1) := by decide +kernel
theorem dX11_part_63 : decode cX11_part 63 = .ok (.getfield 7, 3) := by decide +kernel
theorem dX11_part_66 : decode cX11_part 66 = .ok (.bipush 65, 2) := by decide +kernel
theorem dX11_part_68 : decode cX11_part 68 = .ok (.iload_n 1, 1) := by decide +kernel
theorem dX11_part_69 : decode cX11_part 69 = .ok (.iadd, 1) := by decide +kernel
theorem dX11_part_70 : decode cX11_part 70 = .ok (.iaload, 1) := by decide +kernel
theorem dX11_part_71 : decode cX11_part 71 = .ok (.iload_n 2, 1) := by decide +kernel
theorem dX11_part_72 : decode cX11_part 72 = .ok (.iconst (-1), 1) := by decide +kernel
theorem dX11_part_73 : decode cX11_part 73 = .ok (.ixor, 1) := by decide +kernel
theorem dX11_part_74 : decode cX11_part 74 = .ok (.iand, 1) := by decide +kernel
theorem dX11_part_75 : decode cX11_part 75 = .ok (.ior, 1) := by decide +kernel
theorem dX11_part_76 : decode cX11_part 76 = .ok (.iastore, 1) := by decide +kernel
theorem dX11_part_77 : decode cX11_part 77 = .ok (.aload_n 0, 1) := by decide +kernel
theorem dX11_part_78 : decode cX11_part 78 = .ok (.iload_n 1, 1) := by decide +kernel
theorem dX11_part_79 : decode cX11_part 79 = .ok (.iload_n 3, 1) := by decide +kernel
theorem dX11_part_80 : decode cX11_part 80 = .ok (.iload_n 2, 1) := by decide +kernel
theorem dX11_part_81 : decode cX11_part 81 = .ok (.iand, 1) := by decide +kernel
theorem dX11_part_82 : decode cX11_part 82 = .ok (.aload_n 0, 1) := by decide +kernel
theorem dX11_part_83 : decode cX11_part 83 = .ok (.getfield 290, 3) := by decide +kernel
theorem dX11_part_86 : decode cX11_part 86 = .ok (.iload_n 2, 1) := by decide +kernel
theorem dX11_part_87 : decode cX11_part 87 = .ok (.iconst (-1), 1) := by decide +kernel
theorem dX11_part_88 : decode cX11_part 88 = .ok (.ixor, 1) := by decide +kernel
theorem dX11_part_89 : decode cX11_part 89 = .ok (.iand, 1) := by decide +kernel
theorem dX11_part_90 : decode cX11_part 90 = .ok (.ior, 1) := by decide +kernel
theorem dX11_part_91 : decode cX11_part 91 = .ok (.invokevirtual 287, 3) := by decide +kernel
theorem dX11_part_94 : decode cX11_part 94 = .ok (.aload_n 0, 1) := by decide +kernel
theorem dX11_part_95 : decode cX11_part 95 = .ok (.getfield 296, 3) := by decide +kernel
theorem dX11_part_98 : decode cX11_part 98 = .ok (.ireturn, 1) := by decide +kernel
def wW_X11_part (G : GG) (h0 h1 h2 h3 h4 y0_3 y0_4 y0_6 y0_18 y0_21 y0_22 y0_23 y0_24 y0_25 y0_26 y0_33 y0_34 y0_38 y0_39 y0_40 y0_41 y0_42 y0_43 y0_45 y0_47 y0_48 : Nat) (x0_5 : Int32) (x0_7 : Int32) (x0_8 : Int32) (x0_9 : Int32) (x0_10 : Int32) (x0_11 : Int32) (x0_12 : Int32) (x0_13 : Int32) (x0_14 : Int32) (x0_15 : Int32) (x0_16 : Int32) (x0_17 : Int32) (x0_19 : Int32) (x0_20 : Int32) (x0_27 : Int32) (x0_28 : Int32) (x0_29 : Int32) (x0_30 : Int32) (x0_31 : Int32) (x0_32 : Int32) (x0_35 : Int32) (x0_36 : Int32) (x0_37 : Int32) (x0_44 : Int32) (x0_49 : Int32) (x0_50 : Int32) (a1 : Nat → Int32) (a2 : Nat → Int32) (a3 : Nat → Int32) (a4 : Nat → Int32) : va_W := [(h0, .inr (11, [.ref h1, .ref h2, .ref h3, .ref y0_3, .ref y0_4, .int x0_5, .ref y0_6, .int x0_7, .int x0_8, .int x0_9, .int x0_10, .int x0_11, .int x0_12, .int x0_13, .int x0_14, .int x0_15, .int x0_16, .int x0_17, .ref y0_18, .int x0_19, .int x0_20, .ref y0_21, .ref y0_22, .ref y0_23, .ref y0_24, .ref y0_25, .ref y0_26, .int x0_27, .int x0_28, .int x0_29, .int x0_30, .int x0_31, .int x0_32, .ref y0_33, .ref y0_34, .int x0_35, .int x0_36, .int x0_37, .ref y0_38, .ref y0_39, .ref y0_40, .ref y0_41, .ref y0_42, .ref y0_43, .int x0_44, .ref y0_45, .ref h4, .ref y0_47, .ref y0_48, .int x0_49, .int x0_50])), (h1, .inl (G.2.1, 121, .inl a1)), (h2, .inl (G.2.1, 2, .inl a2)), (h3, .inl (G.2.1, 2, .inl a3)), (h4, .inl (G.2.1, 1573, .inl a4))]
set_option maxHeartbeats 4000000 in
set_option maxRecDepth 100000 in
theorem c_X11_part (l : Launch) (G : GG) (h0 h1 h2 h3 h4 y0_3 y0_4 y0_6 y0_18 y0_21 y0_22 y0_23 y0_24 y0_25 y0_26 y0_33 y0_34 y0_38 y0_39 y0_40 y0_41 y0_42 y0_43 y0_45 y0_47 y0_48 : Nat) (sz : Nat) (x0_5 : Int32) (x0_7 : Int32) (x0_8 : Int32) (x0_9 : Int32) (x0_10 : Int32) (x0_11 : Int32) (x0_12 : Int32) (x0_13 : Int32) (x0_14 : Int32) (x0_15 : Int32) (x0_16 : Int32) (x0_17 : Int32) (x0_19 : Int32) (x0_20 : Int32) (x0_27 : Int32) (x0_28 : Int32) (x0_29 : Int32) (x0_30 : Int32) (x0_31 : Int32) (x0_32 : Int32) (x0_35 : Int32) (x0_36 : Int32) (x0_37 : Int32) (x0_44 : Int32) (x0_49 : Int32) (x0_50 : Int32) (a1 : Nat → Int32) (a2 : Nat → Int32) (a3 : Nat → Int32) (a4 : Nat → Int32) (F : Nat) (b1 : Int32) (b2 : Int32) (b3 : Int32)  (r0 : Int32) (e_x0_29 : Int32) (e_x0_30 : Int32) (e_x0_31 : Int32) (e_x0_32 : Int32) (e_x0_49 : Int32) (e_x0_50 : Int32) (e_a1 : Nat → Int32) (e_a4 : Nat → Int32) (hf : p_X11_part F x0_5 x0_29 x0_30 x0_31 x0_32 x0_49 x0_50 a1 a2 a3 a4 b1 b2 b3 = some (r0, e_x0_29, e_x0_30, e_x0_31, e_x0_32, e_x0_49, e_x0_50, e_a1, e_a4)) : Met l yX11_part (.code yX11_part cX11_part 4 (some .int) :: gtbl) ({ frames := 7, cells := 0, slots := 0, locals := 163 } : Room) (PcS G [.ref h0, .int b1, .int b2, .int b3] (wW_X11_part G h0 h1 h2 h3 h4 y0_3 y0_4 y0_6 y0_18 y0_21 y0_22 y0_23 y0_24 y0_25 y0_26 y0_33 y0_34 y0_38 y0_39 y0_40 y0_41 y0_42 y0_43 y0_45 y0_47 y0_48 x0_5 x0_7 x0_8 x0_9 x0_10 x0_11 x0_12 x0_13 x0_14 x0_15 x0_16 x0_17 x0_19 x0_20 x0_27 x0_28 x0_29 x0_30 x0_31 x0_32 x0_35 x0_36 x0_37 x0_44 x0_49 x0_50 a1 a2 a3 a4) sz) (QiS G r0 (va_A (wW_X11_part G h0 h1 h2 h3 h4 y0_3 y0_4 y0_6 y0_18 y0_21 y0_22 y0_23 y0_24 y0_25 y0_26 y0_33 y0_34 y0_38 y0_39 y0_40 y0_41 y0_42 y0_43 y0_45 y0_47 y0_48 x0_5 x0_7 x0_8 x0_9 x0_10 x0_11 x0_12 x0_13 x0_14 x0_15 x0_16 x0_17 x0_19 x0_20 x0_27 x0_28 x0_29 x0_30 x0_31 x0_32 x0_35 x0_36 x0_37 x0_44 x0_49 x0_50 a1 a2 a3 a4) sz) (wW_X11_part G h0 h1 h2 h3 h4 y0_3 y0_4 y0_6 y0_18 y0_21 y0_22 y0_23 y0_24 y0_25 y0_26 y0_33 y0_34 y0_38 y0_39 y0_40 y0_41 y0_42 y0_43 y0_45 y0_47 y0_48 x0_5 x0_7 x0_8 x0_9 x0_10 x0_11 x0_12 x0_13 x0_14 x0_15 x0_16 x0_17 x0_19 x0_20 x0_27 x0_28 e_x0_29 e_x0_30 e_x0_31 e_x0_32 x0_35 x0_36 x0_37 x0_44 e_x0_49 e_x0_50 e_a1 a2 a3 e_a4)) 0 0 (va_A (wW_X11_part G h0 h1 h2 h3 h4 y0_3 y0_4 y0_6 y0_18 y0_21 y0_22 y0_23 y0_24 y0_25 y0_26 y0_33 y0_34 y0_38 y0_39 y0_40 y0_41 y0_42 y0_43 y0_45 y0_47 y0_48 x0_5 x0_7 x0_8 x0_9 x0_10 x0_11 x0_12 x0_13 x0_14 x0_15 x0_16 x0_17 x0_19 x0_20 x0_27 x0_28 x0_29 x0_30 x0_31 x0_32 x0_35 x0_36 x0_37 x0_44 x0_49 x0_50 a1 a2 a3 a4) sz) := by
  refine met_start (by decide) (Nat.le_of_ble_eq_true rfl) ?_
  intro p e s m below meth c hC hr hlk hnm hK hP hD hA hS hX ls hl
  obtain ⟨hx, hb, hml, hown, ht0⟩ := hC
  have hown : s.vm.findClass RX11 = some m.cls := hown
  generalize va_A (wW_X11_part G h0 h1 h2 h3 h4 y0_3 y0_4 y0_6 y0_18 y0_21 y0_22 y0_23 y0_24 y0_25 y0_26 y0_33 y0_34 y0_38 y0_39 y0_40 y0_41 y0_42 y0_43 y0_45 y0_47 y0_48 x0_5 x0_7 x0_8 x0_9 x0_10 x0_11 x0_12 x0_13 x0_14 x0_15 x0_16 x0_17 x0_19 x0_20 x0_27 x0_28 x0_29 x0_30 x0_31 x0_32 x0_35 x0_36 x0_37 x0_44 x0_49 x0_50 a1 a2 a3 a4) sz = A at hD hA hS hX ⊢
  have hl : lv_has ls 4 [(0, .ref h0), (1, .int b1), (2, .int b2), (3, .int b3)] := hl
  have hf : p_X11_part F x0_5 x0_29 x0_30 x0_31 x0_32 x0_49 x0_50 a1 a2 a3 a4 b1 b2 b3 = some (r0, e_x0_29, e_x0_30, e_x0_31, e_x0_32, e_x0_49, e_x0_50, e_a1, e_a4) := hf
  refine lv_iload_n hx hb dX11_part_0 rfl (lv_at hl 1 rfl) ?_
  obtain ⟨r_1_0, hc_r_1_0, hf⟩ := of_bnd hf
  refine cl_Si (w2 := (wW_X11_part G h0 h1 h2 h3 h4 y0_3 y0_4 y0_6 y0_18 y0_21 y0_22 y0_23 y0_24 y0_25 y0_26 y0_33 y0_34 y0_38 y0_39 y0_40 y0_41 y0_42 y0_43 y0_45 y0_47 y0_48 x0_5 x0_7 x0_8 x0_9 x0_10 x0_11 x0_12 x0_13 x0_14 x0_15 x0_16 x0_17 x0_19 x0_20 x0_27 x0_28 x0_29 x0_30 x0_31 x0_32 x0_35 x0_36 x0_37 x0_44 x0_49 x0_50 a1 a2 a3 a4)) (As := [.int b1]) (rest := []) ⟨hx, hb, hml, hown, ht0⟩ (c_X11_isWordAt l G _ F b1 _ hc_r_1_0) yk_X11_isWordAt wd_1588 ⟨rfl, rfl, by decide, by decide⟩ ⟨Nat.le_refl _, Nat.le_refl _⟩ hX hK hP hD hS hA [] [0, 1, 2, 3, 4] [0, 1, 2, 3, 4] rfl rfl (by decide) rfl rfl rfl rfl rfl hl.1 rfl (Nat.le_of_ble_eq_true rfl) dX11_part_1 (fun H locs hP hD hS => ?_)
  refine lv_if_eq (tgt := 23) hx hb dX11_part_4 (by decide) (fun c2 => ?_) (fun c2 => ?_)
  · have hf := of_pos hf c2
    refine lv_iconst (v := (-1 : Int32)) hx hb dX11_part_23 (by decide) ?_
    cases hf
    exact ret_i hx hb hr hlk hK hP hD hS dX11_part_24
  · have hf := of_neg hf c2
    refine lv_aload_n hx hb dX11_part_7 rfl (lv_at hl 0 rfl) ?_
    refine lv_iload_n hx hb dX11_part_8 rfl (lv_at hl 2 rfl) ?_
    obtain ⟨r_9_2, hc_r_9_2, hf⟩ := of_bnd hf
    refine cl_Vi (w2 := (wW_X11_part G h0 h1 h2 h3 h4 y0_3 y0_4 y0_6 y0_18 y0_21 y0_22 y0_23 y0_24 y0_25 y0_26 y0_33 y0_34 y0_38 y0_39 y0_40 y0_41 y0_42 y0_43 y0_45 y0_47 y0_48 x0_5 x0_7 x0_8 x0_9 x0_10 x0_11 x0_12 x0_13 x0_14 x0_15 x0_16 x0_17 x0_19 x0_20 x0_27 x0_28 x0_29 x0_30 x0_31 x0_32 x0_35 x0_36 x0_37 x0_44 x0_49 x0_50 a1 a2 a3 a4)) (As := [.int b2]) (rest := []) ⟨hx, hb, hml, hown, ht0⟩ (c_X11_isValue l G h0 h2 h1 h3 y0_3 y0_4 y0_6 y0_18 y0_21 y0_22 y0_23 y0_24 y0_25 y0_26 y0_33 y0_34 y0_38 y0_39 y0_40 y0_41 y0_42 y0_43 y0_45 h4 y0_47 y0_48 _ x0_5 x0_7 x0_8 x0_9 x0_10 x0_11 x0_12 x0_13 x0_14 x0_15 x0_16 x0_17 x0_19 x0_20 x0_27 x0_28 x0_29 x0_30 x0_31 x0_32 x0_35 x0_36 x0_37 x0_44 x0_49 x0_50 a2 F b2 _ hc_r_9_2) yk_X11_isValue wd_1591 ⟨rfl, rfl, by decide, by decide⟩ ⟨Nat.le_refl _, Nat.le_refl _⟩ hX hK hP hD hS hA [0, 2] [1, 3, 4] [3, 0, 4, 1, 2] (va_recv hK hP (ci := 11) (q0 := 0) rfl rfl) rfl rfl (by decide) rfl rfl rfl rfl rfl hl.1 rfl (Nat.le_of_ble_eq_true rfl) dX11_part_9 (fun H locs hP hD hS => ?_)
    refine lv_if_eq (tgt := 23) hx hb dX11_part_12 (by decide) (fun c4 => ?_) (fun c4 => ?_)
    · have hf := of_pos hf c4
      refine lv_iconst (v := (-1 : Int32)) hx hb dX11_part_23 (by decide) ?_
      cases hf
      exact ret_i hx hb hr hlk hK hP hD hS dX11_part_24
    · have hf := of_neg hf c4
      refine lv_aload_n hx hb dX11_part_15 rfl (lv_at hl 0 rfl) ?_
      refine lv_iload_n hx hb dX11_part_16 rfl (lv_at hl 3 rfl) ?_
      obtain ⟨r_17_4, hc_r_17_4, hf⟩ := of_bnd hf
      refine cl_Vi (w2 := (wW_X11_part G h0 h1 h2 h3 h4 y0_3 y0_4 y0_6 y0_18 y0_21 y0_22 y0_23 y0_24 y0_25 y0_26 y0_33 y0_34 y0_38 y0_39 y0_40 y0_41 y0_42 y0_43 y0_45 y0_47 y0_48 x0_5 x0_7 x0_8 x0_9 x0_10 x0_11 x0_12 x0_13 x0_14 x0_15 x0_16 x0_17 x0_19 x0_20 x0_27 x0_28 x0_29 x0_30 x0_31 x0_32 x0_35 x0_36 x0_37 x0_44 x0_49 x0_50 a1 a2 a3 a4)) (As := [.int b3]) (rest := []) ⟨hx, hb, hml, hown, ht0⟩ (c_X11_isValue l G h0 h2 h1 h3 y0_3 y0_4 y0_6 y0_18 y0_21 y0_22 y0_23 y0_24 y0_25 y0_26 y0_33 y0_34 y0_38 y0_39 y0_40 y0_41 y0_42 y0_43 y0_45 h4 y0_47 y0_48 _ x0_5 x0_7 x0_8 x0_9 x0_10 x0_11 x0_12 x0_13 x0_14 x0_15 x0_16 x0_17 x0_19 x0_20 x0_27 x0_28 x0_29 x0_30 x0_31 x0_32 x0_35 x0_36 x0_37 x0_44 x0_49 x0_50 a2 F b3 _ hc_r_17_4) yk_X11_isValue wd_1591 ⟨rfl, rfl, by decide, by decide⟩ ⟨Nat.le_refl _, Nat.le_refl _⟩ hX hK hP hD hS hA [0, 2] [1, 3, 4] [3, 0, 4, 1, 2] (va_recv hK hP (ci := 11) (q0 := 0) rfl rfl) rfl rfl (by decide) rfl rfl rfl rfl rfl hl.1 rfl (Nat.le_of_ble_eq_true rfl) dX11_part_17 (fun H locs hP hD hS => ?_)
      refine lv_if_ne (tgt := 25) hx hb dX11_part_20 (by decide) (fun c6 => ?_) (fun c6 => ?_)
      · have hf := of_neg hf c6
        refine lv_aload_n hx hb dX11_part_25 rfl (lv_at hl 0 rfl) ?_
        refine lv_iload_n hx hb dX11_part_26 rfl (lv_at hl 1 rfl) ?_
        obtain ⟨⟨r_27_6_x0_29, r_27_6_x0_30, r_27_6_x0_31, r_27_6_x0_32⟩, hc_r_27_6, hf⟩ := of_bnd hf
        refine cl_Vv (w2 := (wW_X11_part G h0 h1 h2 h3 h4 y0_3 y0_4 y0_6 y0_18 y0_21 y0_22 y0_23 y0_24 y0_25 y0_26 y0_33 y0_34 y0_38 y0_39 y0_40 y0_41 y0_42 y0_43 y0_45 y0_47 y0_48 x0_5 x0_7 x0_8 x0_9 x0_10 x0_11 x0_12 x0_13 x0_14 x0_15 x0_16 x0_17 x0_19 x0_20 x0_27 x0_28 r_27_6_x0_29 r_27_6_x0_30 r_27_6_x0_31 r_27_6_x0_32 x0_35 x0_36 x0_37 x0_44 x0_49 x0_50 a1 a2 a3 a4)) (As := [.int b1]) (rest := []) ⟨hx, hb, hml, hown, ht0⟩ (c_X11_readWordNow l G h0 h1 h2 h3 y0_3 y0_4 y0_6 y0_18 y0_21 y0_22 y0_23 y0_24 y0_25 y0_26 y0_33 y0_34 y0_38 y0_39 y0_40 y0_41 y0_42 y0_43 y0_45 h4 y0_47 y0_48 _ x0_5 x0_7 x0_8 x0_9 x0_10 x0_11 x0_12 x0_13 x0_14 x0_15 x0_16 x0_17 x0_19 x0_20 x0_27 x0_28 x0_29 x0_30 x0_31 x0_32 x0_35 x0_36 x0_37 x0_44 x0_49 x0_50 a1 a2 a3 F b1 _ _ _ _ hc_r_27_6) yk_X11_readWordNow wd_1627 ⟨rfl, rfl, by decide, by decide⟩ ⟨Nat.le_refl _, Nat.le_refl _⟩ hX hK hP hD hS hA [0, 1, 2, 3] [4] [1, 2, 3, 4, 0] (va_recv hK hP (ci := 11) (q0 := 0) rfl rfl) rfl rfl (by decide) rfl rfl rfl rfl rfl hl.1 rfl (Nat.le_of_ble_eq_true rfl) dX11_part_27 (fun H locs hP hD hS => ?_)
        refine lv_aload_n hx hb dX11_part_30 rfl (lv_at hl 0 rfl) ?_
        obtain ⟨r_31_7, hc_r_31_7, hf⟩ := of_bnd hf
        refine cl_Vi (w2 := (wW_X11_part G h0 h1 h2 h3 h4 y0_3 y0_4 y0_6 y0_18 y0_21 y0_22 y0_23 y0_24 y0_25 y0_26 y0_33 y0_34 y0_38 y0_39 y0_40 y0_41 y0_42 y0_43 y0_45 y0_47 y0_48 x0_5 x0_7 x0_8 x0_9 x0_10 x0_11 x0_12 x0_13 x0_14 x0_15 x0_16 x0_17 x0_19 x0_20 x0_27 x0_28 r_27_6_x0_29 r_27_6_x0_30 r_27_6_x0_31 r_27_6_x0_32 x0_35 x0_36 x0_37 x0_44 x0_49 x0_50 a1 a2 a3 a4)) (As := []) (rest := []) ⟨hx, hb, hml, hown, ht0⟩ (c_X11_isTold l G h0 h1 h2 h3 y0_3 y0_4 y0_6 y0_18 y0_21 y0_22 y0_23 y0_24 y0_25 y0_26 y0_33 y0_34 y0_38 y0_39 y0_40 y0_41 y0_42 y0_43 y0_45 h4 y0_47 y0_48 _ x0_5 x0_7 x0_8 x0_9 x0_10 x0_11 x0_12 x0_13 x0_14 x0_15 x0_16 x0_17 x0_19 x0_20 x0_27 x0_28 r_27_6_x0_29 r_27_6_x0_30 r_27_6_x0_31 r_27_6_x0_32 x0_35 x0_36 x0_37 x0_44 x0_49 x0_50 F _ hc_r_31_7) yk_X11_isTold wd_1659 ⟨rfl, rfl, by decide, by decide⟩ ⟨Nat.le_refl _, Nat.le_refl _⟩ hX hK hP hD hS hA [0] [1, 2, 3, 4] [4, 0, 1, 2, 3] (va_recv hK hP (ci := 11) (q0 := 0) rfl rfl) rfl rfl (by decide) rfl rfl rfl rfl rfl hl.1 rfl (Nat.le_of_ble_eq_true rfl) dX11_part_31 (fun H locs hP hD hS => ?_)
        refine lv_if_eq (tgt := 42) hx hb dX11_part_34 (by decide) (fun c9 => ?_) (fun c9 => ?_)
        · have hf := of_pos hf c9
          refine lv_aload_n hx hb dX11_part_42 rfl (lv_at hl 0 rfl) ?_
          obtain ⟨⟨r_43_9_x0_49, r_43_9_x0_50, r_43_9_a2⟩, hc_r_43_9, hf⟩ := of_bnd hf
          refine cl_Vv (w2 := (wW_X11_part G h0 h1 h2 h3 h4 y0_3 y0_4 y0_6 y0_18 y0_21 y0_22 y0_23 y0_24 y0_25 y0_26 y0_33 y0_34 y0_38 y0_39 y0_40 y0_41 y0_42 y0_43 y0_45 y0_47 y0_48 x0_5 x0_7 x0_8 x0_9 x0_10 x0_11 x0_12 x0_13 x0_14 x0_15 x0_16 x0_17 x0_19 x0_20 x0_27 x0_28 r_27_6_x0_29 r_27_6_x0_30 r_27_6_x0_31 r_27_6_x0_32 x0_35 x0_36 x0_37 x0_44 r_43_9_x0_49 r_43_9_x0_50 a1 a2 a3 r_43_9_a2)) (As := []) (rest := []) ⟨hx, hb, hml, hown, ht0⟩ (c_X11_keepAct l G h0 h1 h4 h2 h3 y0_3 y0_4 y0_6 y0_18 y0_21 y0_22 y0_23 y0_24 y0_25 y0_26 y0_33 y0_34 y0_38 y0_39 y0_40 y0_41 y0_42 y0_43 y0_45 y0_47 y0_48 _ x0_5 x0_7 x0_8 x0_9 x0_10 x0_11 x0_12 x0_13 x0_14 x0_15 x0_16 x0_17 x0_19 x0_20 x0_27 x0_28 r_27_6_x0_29 r_27_6_x0_30 r_27_6_x0_31 r_27_6_x0_32 x0_35 x0_36 x0_37 x0_44 x0_49 x0_50 a1 a4 F _ _ _ hc_r_43_9) yk_X11_keepAct wd_1595 ⟨rfl, rfl, by decide, by decide⟩ ⟨Nat.le_refl _, Nat.le_refl _⟩ hX hK hP hD hS hA [0, 1, 4] [2, 3] [2, 3, 0, 1, 4] (va_recv hK hP (ci := 11) (q0 := 0) rfl rfl) rfl rfl (by decide) rfl rfl rfl rfl rfl hl.1 rfl (Nat.le_of_ble_eq_true rfl) dX11_part_43 (fun H locs hP hD hS => ?_)
          refine lv_aload_n hx hb dX11_part_46 rfl (lv_at hl 0 rfl) ?_
          refine lv_iload_n hx hb dX11_part_47 rfl (lv_at hl 1 rfl) ?_
          obtain ⟨r_48_10_a1, hc_r_48_10, hf⟩ := of_bnd hf
          refine cl_Vv (w2 := (wW_X11_part G h0 h1 h2 h3 h4 y0_3 y0_4 y0_6 y0_18 y0_21 y0_22 y0_23 y0_24 y0_25 y0_26 y0_33 y0_34 y0_38 y0_39 y0_40 y0_41 y0_42 y0_43 y0_45 y0_47 y0_48 x0_5 x0_7 x0_8 x0_9 x0_10 x0_11 x0_12 x0_13 x0_14 x0_15 x0_16 x0_17 x0_19 x0_20 x0_27 x0_28 r_27_6_x0_29 r_27_6_x0_30 r_27_6_x0_31 r_27_6_x0_32 x0_35 x0_36 x0_37 x0_44 r_43_9_x0_49 r_43_9_x0_50 r_48_10_a1 a2 a3 r_43_9_a2)) (As := [.int b1]) (rest := []) ⟨hx, hb, hml, hown, ht0⟩ (c_X11_tallies l G h0 h1 h2 h3 y0_3 y0_4 y0_6 y0_18 y0_21 y0_22 y0_23 y0_24 y0_25 y0_26 y0_33 y0_34 y0_38 y0_39 y0_40 y0_41 y0_42 y0_43 y0_45 h4 y0_47 y0_48 _ x0_5 x0_7 x0_8 x0_9 x0_10 x0_11 x0_12 x0_13 x0_14 x0_15 x0_16 x0_17 x0_19 x0_20 x0_27 x0_28 r_27_6_x0_29 r_27_6_x0_30 r_27_6_x0_31 r_27_6_x0_32 x0_35 x0_36 x0_37 x0_44 r_43_9_x0_49 r_43_9_x0_50 a1 a2 F b1 _ hc_r_48_10) yk_X11_tallies wd_1663 ⟨rfl, rfl, by decide, by decide⟩ ⟨Nat.le_refl _, Nat.le_refl _⟩ hX hK hP hD hS hA [0, 1, 2] [3, 4] [2, 3, 4, 0, 1] (va_recv hK hP (ci := 11) (q0 := 0) rfl rfl) rfl rfl (by decide) rfl rfl rfl rfl rfl hl.1 rfl (Nat.le_of_ble_eq_true rfl) dX11_part_48 (fun H locs hP hD hS => ?_)
          refine lv_aload_n hx hb dX11_part_51 rfl (lv_at hl 0 rfl) ?_
          refine va_get (ci := 11) (v := .ref h1) (C := RX11) (T := TX11) (N := 51) hx hb ht0 iX11 hown hK hP 0 rfl rfl 0 (by decide) (ht0 _ wd_1406) (fun _ h9 => h9) rfl dX11_part_52 ?_
          refine lv_bipush (v := (65 : Int32)) hx hb dX11_part_55 (by decide) ?_
          refine lv_iload_n hx hb dX11_part_57 rfl (lv_at hl 1 rfl) ?_
          refine lv_iadd hx hb dX11_part_58 ?_
          refine lv_iload_n hx hb dX11_part_59 rfl (lv_at hl 3 rfl) ?_
          refine lv_iload_n hx hb dX11_part_60 rfl (lv_at hl 2 rfl) ?_
          refine lv_iand hx hb dX11_part_61 ?_
          refine lv_aload_n hx hb dX11_part_62 rfl (lv_at hl 0 rfl) ?_
          refine va_get (ci := 11) (v := .ref h1) (C := RX11) (T := TX11) (N := 51) hx hb ht0 iX11 hown hK hP 0 rfl rfl 0 (by decide) (ht0 _ wd_1406) (fun _ h9 => h9) rfl dX11_part_63 ?_
          refine lv_bipush (v := (65 : Int32)) hx hb dX11_part_66 (by decide) ?_
          refine lv_iload_n hx hb dX11_part_68 rfl (lv_at hl 1 rfl) ?_
          refine lv_iadd hx hb dX11_part_69 ?_
          obtain ⟨g12, hf⟩ := of_grd hf
          refine va_iald hx hb hK hP 1 0 rfl rfl g12 dX11_part_70 ?_
          refine lv_iload_n hx hb dX11_part_71 rfl (lv_at hl 2 rfl) ?_
          refine lv_iconst (v := (-1 : Int32)) hx hb dX11_part_72 (by decide) ?_
          refine lv_ixor hx hb dX11_part_73 ?_
          refine lv_iand hx hb dX11_part_74 ?_
          refine lv_ior hx hb dX11_part_75 ?_
          obtain ⟨g13, hf⟩ := of_grd hf
          refine va_iast hx hb hK hP hD hS 1 0 rfl rfl g13 dX11_part_76 (fun H locs hP hD hS => ?_)
          have hP : va_P G.1 vwCl (wW_X11_part G h0 h1 h2 h3 h4 y0_3 y0_4 y0_6 y0_18 y0_21 y0_22 y0_23 y0_24 y0_25 y0_26 y0_33 y0_34 y0_38 y0_39 y0_40 y0_41 y0_42 y0_43 y0_45 y0_47 y0_48 x0_5 x0_7 x0_8 x0_9 x0_10 x0_11 x0_12 x0_13 x0_14 x0_15 x0_16 x0_17 x0_19 x0_20 x0_27 x0_28 r_27_6_x0_29 r_27_6_x0_30 r_27_6_x0_31 r_27_6_x0_32 x0_35 x0_36 x0_37 x0_44 r_43_9_x0_49 r_43_9_x0_50 (upd r_48_10_a1 ((65 : Int32) + b1).toNatClampNeg ((b3 &&& b2) ||| ((r_48_10_a1 ((65 : Int32) + b1).toNatClampNeg) &&& (b2 ^^^ (-1 : Int32))))) a2 a3 r_43_9_a2) H := hP
          have hD : va_D A (wW_X11_part G h0 h1 h2 h3 h4 y0_3 y0_4 y0_6 y0_18 y0_21 y0_22 y0_23 y0_24 y0_25 y0_26 y0_33 y0_34 y0_38 y0_39 y0_40 y0_41 y0_42 y0_43 y0_45 y0_47 y0_48 x0_5 x0_7 x0_8 x0_9 x0_10 x0_11 x0_12 x0_13 x0_14 x0_15 x0_16 x0_17 x0_19 x0_20 x0_27 x0_28 r_27_6_x0_29 r_27_6_x0_30 r_27_6_x0_31 r_27_6_x0_32 x0_35 x0_36 x0_37 x0_44 r_43_9_x0_49 r_43_9_x0_50 (upd r_48_10_a1 ((65 : Int32) + b1).toNatClampNeg ((b3 &&& b2) ||| ((r_48_10_a1 ((65 : Int32) + b1).toNatClampNeg) &&& (b2 ^^^ (-1 : Int32))))) a2 a3 r_43_9_a2) := hD
          refine lv_aload_n hx hb dX11_part_77 rfl (lv_at hl 0 rfl) ?_
          refine lv_iload_n hx hb dX11_part_78 rfl (lv_at hl 1 rfl) ?_
          refine lv_iload_n hx hb dX11_part_79 rfl (lv_at hl 3 rfl) ?_
          refine lv_iload_n hx hb dX11_part_80 rfl (lv_at hl 2 rfl) ?_
          refine lv_iand hx hb dX11_part_81 ?_
          refine lv_aload_n hx hb dX11_part_82 rfl (lv_at hl 0 rfl) ?_
          refine va_get (ci := 11) (v := .int r_27_6_x0_31) (C := RX11) (T := TX11) (N := 51) hx hb ht0 iX11 hown hK hP 0 rfl rfl 31 (by decide) (ht0 _ wd_1437) (fun _ h9 => h9) rfl dX11_part_83 ?_
          refine lv_iload_n hx hb dX11_part_86 rfl (lv_at hl 2 rfl) ?_
          refine lv_iconst (v := (-1 : Int32)) hx hb dX11_part_87 (by decide) ?_
          refine lv_ixor hx hb dX11_part_88 ?_
          refine lv_iand hx hb dX11_part_89 ?_
          refine lv_ior hx hb dX11_part_90 ?_
          obtain ⟨r_91_13_a1, hc_r_91_13, hf⟩ := of_bnd hf
          refine cl_Vv (w2 := (wW_X11_part G h0 h1 h2 h3 h4 y0_3 y0_4 y0_6 y0_18 y0_21 y0_22 y0_23 y0_24 y0_25 y0_26 y0_33 y0_34 y0_38 y0_39 y0_40 y0_41 y0_42 y0_43 y0_45 y0_47 y0_48 x0_5 x0_7 x0_8 x0_9 x0_10 x0_11 x0_12 x0_13 x0_14 x0_15 x0_16 x0_17 x0_19 x0_20 x0_27 x0_28 r_27_6_x0_29 r_27_6_x0_30 r_27_6_x0_31 r_27_6_x0_32 x0_35 x0_36 x0_37 x0_44 r_43_9_x0_49 r_43_9_x0_50 r_91_13_a1 a2 a3 r_43_9_a2)) (As := [.int b1, .int ((b3 &&& b2) ||| (r_27_6_x0_31 &&& (b2 ^^^ (-1 : Int32))))]) (rest := []) ⟨hx, hb, hml, hown, ht0⟩ (c_X11_writeWhole l G h0 h1 h2 h3 y0_3 y0_4 y0_6 y0_18 y0_21 y0_22 y0_23 y0_24 y0_25 y0_26 y0_33 y0_34 y0_38 y0_39 y0_40 y0_41 y0_42 y0_43 y0_45 h4 y0_47 y0_48 _ x0_5 x0_7 x0_8 x0_9 x0_10 x0_11 x0_12 x0_13 x0_14 x0_15 x0_16 x0_17 x0_19 x0_20 x0_27 x0_28 r_27_6_x0_29 r_27_6_x0_30 r_27_6_x0_31 r_27_6_x0_32 x0_35 x0_36 x0_37 x0_44 r_43_9_x0_49 r_43_9_x0_50 (upd r_48_10_a1 ((65 : Int32) + b1).toNatClampNeg ((b3 &&& b2) ||| ((r_48_10_a1 ((65 : Int32) + b1).toNatClampNeg) &&& (b2 ^^^ (-1 : Int32))))) a2 F b1 ((b3 &&& b2) ||| (r_27_6_x0_31 &&& (b2 ^^^ (-1 : Int32)))) _ hc_r_91_13) yk_X11_writeWhole wd_1599 ⟨rfl, rfl, by decide, by decide⟩ ⟨Nat.le_refl _, Nat.le_refl _⟩ hX hK hP hD hS hA [0, 1, 2] [3, 4] [2, 3, 4, 0, 1] (va_recv hK hP (ci := 11) (q0 := 0) rfl rfl) rfl rfl (by decide) rfl rfl rfl rfl rfl hl.1 rfl (Nat.le_of_ble_eq_true rfl) dX11_part_91 (fun H locs hP hD hS => ?_)
          refine lv_aload_n hx hb dX11_part_94 rfl (lv_at hl 0 rfl) ?_
          refine va_get (ci := 11) (v := .int r_27_6_x0_29) (C := RX11) (T := TX11) (N := 51) hx hb ht0 iX11 hown hK hP 0 rfl rfl 29 (by decide) (ht0 _ wd_1435) (fun _ h9 => h9) rfl dX11_part_95 ?_
          cases hf
          exact ret_i hx hb hr hlk hK hP hD hS dX11_part_98
        · have hf := of_neg hf c9
          refine lv_aload_n hx hb dX11_part_37 rfl (lv_at hl 0 rfl) ?_
          refine va_get (ci := 11) (v := .int r_27_6_x0_29) (C := RX11) (T := TX11) (N := 51) hx hb ht0 iX11 hown hK hP 0 rfl rfl 29 (by decide) (ht0 _ wd_1435) (fun _ h9 => h9) rfl dX11_part_38 ?_
          cases hf
          exact ret_i hx hb hr hlk hK hP hD hS dX11_part_41
      · have hf := of_pos hf c6
        refine lv_iconst (v := (-1 : Int32)) hx hb dX11_part_23 (by decide) ?_
        cases hf
        exact ret_i hx hb hr hlk hK hP hD hS dX11_part_24
theorem yk_X11_part : ykV yX11_part RX11 cX11_part 4 (some .int) 3 := ⟨wd_1624, wd_1625, wd_142, wd_1626, rfl, by decide +kernel, by decide +kernel, by decide +kernel⟩
