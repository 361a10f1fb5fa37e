theorem dX11_canTake_0 : decode cX11_canTake 0 = .ok (.aload_n 0, 1) := by decide +kernel
theorem dX11_canTake_1 : decode cX11_canTake 1 = .ok (.getfield 48, 3) := by decide +kernel
theorem dX11_canTake_4 : decode cX11_canTake 4 = .ok (.iload_n 3, 1) := by decide +kernel
theorem dX11_canTake_5 : decode cX11_canTake 5 = .ok (.baload, 1) := by decide +kernel
theorem dX11_canTake_6 : decode cX11_canTake 6 = .ok (.ifCond .eq 5, 3) := by decide +kernel
theorem dX11_canTake_9 : decode cX11_canTake 9 = .ok (.iconst 0, 1) := by decide +kernel
theorem dX11_canTake_10 : decode cX11_canTake 10 = .ok (.ireturn, 1) := by decide +kernel
theorem dX11_canTake_11 : decode cX11_canTake 11 = .ok (.aload_n 0, 1) := by decide +kernel
theorem dX11_canTake_12 : decode cX11_canTake 12 = .ok (.dup, 1) := by decide +kernel
theorem dX11_canTake_13 : decode cX11_canTake 13 = .ok (.getfield 255, 3) := by decide +kernel
theorem dX11_canTake_16 : decode cX11_canTake 16 = .ok (.iconst 1, 1) := by decide +kernel
theorem dX11_canTake_17 : decode cX11_canTake 17 = .ok (.iadd, 1) := by decide +kernel
theorem dX11_canTake_18 : decode cX11_canTake 18 = .ok (.putfield 255, 3) := by decide +kernel
theorem dX11_canTake_21 : decode cX11_canTake 21 = .ok (.aload_n 0, 1) := by decide +kernel
theorem dX11_canTake_22 : decode cX11_canTake 22 = .ok (.getfield 255, 3) := by decide +kernel
theorem dX11_canTake_25 : decode cX11_canTake 25 = .ok (.sipush 20000, 3) := by decide +kernel
theorem dX11_canTake_28 : decode cX11_canTake 28 = .ok (.if_icmp .le 5, 3) := by decide +kernel
theorem dX11_canTake_31 : decode cX11_canTake 31 = .ok (.iconst 0, 1) := by decide +kernel
theorem dX11_canTake_32 : decode cX11_canTake 32 = .ok (.ireturn, 1) := by decide +kernel
theorem dX11_canTake_33 : decode cX11_canTake 33 = .ok (.iload_n 1, 1) := by decide +kernel
theorem dX11_canTake_34 : decode cX11_canTake 34 = .ok (.ifCond .le 16, 3) := by decide +kernel
theorem dX11_canTake_37 : decode cX11_canTake 37 = .ok (.iload_n 3, 1) := by decide +kernel
theorem dX11_canTake_38 : decode cX11_canTake 38 = .ok (.aload_n 0, 1) := by decide +kernel
theorem dX11_canTake_39 : decode cX11_canTake 39 = .ok (.getfield 39, 3) := by decide +kernel
theorem dX11_canTake_42 : decode cX11_canTake 42 = .ok (.iload_n 1, 1) := by decide +kernel
theorem dX11_canTake_43 : decode cX11_canTake 43 = .ok (.iconst 1, 1) := by decide +kernel
theorem dX11_canTake_44 : decode cX11_canTake 44 = .ok (.isub, 1) := by decide +kernel
theorem dX11_canTake_45 : decode cX11_canTake 45 = .ok (.iaload, 1) := by decide +kernel
theorem dX11_canTake_46 : decode cX11_canTake 46 = .ok (.ixor, 1) := by decide +kernel
theorem dX11_canTake_47 : decode cX11_canTake 47 = .ok (.goto 4, 3) := by decide +kernel
theorem dX11_canTake_50 : decode cX11_canTake 50 = .ok (.iconst 0, 1) := by decide +kernel
theorem dX11_canTake_51 : decode cX11_canTake 51 = .ok (.istore 4, 2) := by decide +kernel
theorem dX11_canTake_53 : decode cX11_canTake 53 = .ok (.iload_n 1, 1) := by decide +kernel
theorem dX11_canTake_54 : decode cX11_canTake 54 = .ok (.iload_n 2, 1) := by decide +kernel
theorem dX11_canTake_55 : decode cX11_canTake 55 = .ok (.iconst 1, 1) := by decide +kernel
theorem dX11_canTake_56 : decode cX11_canTake 56 = .ok (.isub, 1) := by decide +kernel
theorem dX11_canTake_57 : decode cX11_canTake 57 = .ok (.if_icmp .ne 9, 3) := by decide +kernel
theorem dX11_canTake_60 : decode cX11_canTake 60 = .ok (.iload_n 3, 1) := by decide +kernel
theorem dX11_canTake_61 : decode cX11_canTake 61 = .ok (.iconst 1, 1) := by decide +kernel
theorem dX11_canTake_62 : decode cX11_canTake 62 = .ok (.ixor, 1) := by decide +kernel
theorem dX11_canTake_63 : decode cX11_canTake 63 = .ok (.goto 4, 3) := by decide +kernel
theorem dX11_canTake_66 : decode cX11_canTake 66 = .ok (.iconst 0, 1) := by decide +kernel
theorem dX11_canTake_67 : decode cX11_canTake 67 = .ok (.istore 5, 2) := by decide +kernel
theorem dX11_canTake_69 : decode cX11_canTake 69 = .ok (.iload_n 1, 1) := by decide +kernel
theorem dX11_canTake_70 : decode cX11_canTake 70 = .ok (.ifCond .le 15, 3) := by decide +kernel
theorem dX11_canTake_73 : decode cX11_canTake 73 = .ok (.aload_n 0, 1) := by decide +kernel
theorem dX11_canTake_74 : decode cX11_canTake 74 = .ok (.getfield 52, 3) := by decide +kernel
theorem dX11_canTake_77 : decode cX11_canTake 77 = .ok (.iload 4, 2) := by decide +kernel
theorem dX11_canTake_79 : decode cX11_canTake 79 = .ok (.baload, 1) := by decide +kernel
theorem dX11_canTake_80 : decode cX11_canTake 80 = .ok (.ifCond .eq 5, 3) := by decide +kernel
theorem dX11_canTake_83 : decode cX11_canTake 83 = .ok (.iconst 0, 1) := by decide +kernel
theorem dX11_canTake_84 : decode cX11_canTake 84 = .ok (.ireturn, 1) := by decide +kernel
theorem dX11_canTake_85 : decode cX11_canTake 85 = .ok (.iload_n 1, 1) := by decide +kernel
theorem dX11_canTake_86 : decode cX11_canTake 86 = .ok (.iload_n 2, 1) := by decide +kernel
theorem dX11_canTake_87 : decode cX11_canTake 87 = .ok (.iconst 1, 1) := by decide +kernel
theorem dX11_canTake_88 : decode cX11_canTake 88 = .ok (.isub, 1) := by decide +kernel
theorem dX11_canTake_89 : decode cX11_canTake 89 = .ok (.if_icmp .lt 24, 3) := by decide +kernel
theorem dX11_canTake_92 : decode cX11_canTake 92 = .ok (.aload_n 0, 1) := by decide +kernel
theorem dX11_canTake_93 : decode cX11_canTake 93 = .ok (.getfield 52, 3) := by decide +kernel
theorem dX11_canTake_96 : decode cX11_canTake 96 = .ok (.iload 5, 2) := by decide +kernel
theorem dX11_canTake_98 : decode cX11_canTake 98 = .ok (.baload, 1) := by decide +kernel
theorem dX11_canTake_99 : decode cX11_canTake 99 = .ok (.ifCond .ne 18, 3) := by decide +kernel
theorem dX11_canTake_102 : decode cX11_canTake 102 = .ok (.iload_n 1, 1) := by decide +kernel
theorem dX11_canTake_103 : decode cX11_canTake 103 = .ok (.ifCond .eq 10, 3) := by decide +kernel
theorem dX11_canTake_106 : decode cX11_canTake 106 = .ok (.iload 4, 2) := by decide +kernel
theorem dX11_canTake_108 : decode cX11_canTake 108 = .ok (.iload 5, 2) := by decide +kernel
theorem dX11_canTake_110 : decode cX11_canTake 110 = .ok (.if_icmp .eq 7, 3) := by decide +kernel
theorem dX11_canTake_113 : decode cX11_canTake 113 = .ok (.iconst 1, 1) := by decide +kernel
theorem dX11_canTake_114 : decode cX11_canTake 114 = .ok (.goto 4, 3) := by decide +kernel
theorem dX11_canTake_117 : decode cX11_canTake 117 = .ok (.iconst 0, 1) := by decide +kernel
theorem dX11_canTake_118 : decode cX11_canTake 118 = .ok (.ireturn, 1) := by decide +kernel
def wW_X11_canTake (G : GG) (h0 h1 h2 h3 y0_0 y0_1 y0_2 y0_3 y0_4 y0_6 y0_18 y0_21 y0_23 y0_24 y0_33 y0_34 y0_38 y0_39 y0_40 y0_41 y0_42 y0_43 y0_45 y0_46 y0_47 y0_48 : Nat) (x0_5 : Int32) (x0_7 : Int32) (x0_8 : Int32) (x0_9 : Int32) (x0_10 : Int32) (x0_11 : Int32) (x0_12 : Int32) (x0_13 : Int32) (x0_14 : Int32) (x0_15 : Int32) (x0_16 : Int32) (x0_17 : Int32) (x0_19 : Int32) (x0_20 : Int32) (x0_27 : Int32) (x0_28 : Int32) (x0_29 : Int32) (x0_30 : Int32) (x0_31 : Int32) (x0_32 : Int32) (x0_35 : Int32) (x0_36 : Int32) (x0_37 : Int32) (x0_44 : Int32) (x0_49 : Int32) (x0_50 : Int32) (a1 : Nat → Int32) (a2 : Nat → Int32) (a3 : Nat → Int32) : va_W := [(h0, .inr (11, [.ref y0_0, .ref y0_1, .ref y0_2, .ref y0_3, .ref y0_4, .int x0_5, .ref y0_6, .int x0_7, .int x0_8, .int x0_9, .int x0_10, .int x0_11, .int x0_12, .int x0_13, .int x0_14, .int x0_15, .int x0_16, .int x0_17, .ref y0_18, .int x0_19, .int x0_20, .ref y0_21, .ref h1, .ref y0_23, .ref y0_24, .ref h2, .ref h3, .int x0_27, .int x0_28, .int x0_29, .int x0_30, .int x0_31, .int x0_32, .ref y0_33, .ref y0_34, .int x0_35, .int x0_36, .int x0_37, .ref y0_38, .ref y0_39, .ref y0_40, .ref y0_41, .ref y0_42, .ref y0_43, .int x0_44, .ref y0_45, .ref y0_46, .ref y0_47, .ref y0_48, .int x0_49, .int x0_50])), (h1, .inl (G.2.1, 32, .inl a1)), (h2, .inl (G.2.2.1, 256, .inl a2)), (h3, .inl (G.2.2.1, 256, .inl a3))]
set_option maxHeartbeats 4000000 in
set_option maxRecDepth 100000 in
theorem c_X11_canTake (l : Launch) (G : GG) (h0 h1 h2 h3 y0_0 y0_1 y0_2 y0_3 y0_4 y0_6 y0_18 y0_21 y0_23 y0_24 y0_33 y0_34 y0_38 y0_39 y0_40 y0_41 y0_42 y0_43 y0_45 y0_46 y0_47 y0_48 : Nat) (sz : Nat) (x0_5 : Int32) (x0_7 : Int32) (x0_8 : Int32) (x0_9 : Int32) (x0_10 : Int32) (x0_11 : Int32) (x0_12 : Int32) (x0_13 : Int32) (x0_14 : Int32) (x0_15 : Int32) (x0_16 : Int32) (x0_17 : Int32) (x0_19 : Int32) (x0_20 : Int32) (x0_27 : Int32) (x0_28 : Int32) (x0_29 : Int32) (x0_30 : Int32) (x0_31 : Int32) (x0_32 : Int32) (x0_35 : Int32) (x0_36 : Int32) (x0_37 : Int32) (x0_44 : Int32) (x0_49 : Int32) (x0_50 : Int32) (a1 : Nat → Int32) (a2 : Nat → Int32) (a3 : Nat → Int32) (F : Nat) (b1 : Int32) (b2 : Int32) (b3 : Int32)  (r0 : Int32) (e_x0_28 : Int32) (hf : p_X11_canTake F x0_28 a1 a2 a3 b1 b2 b3 = some (r0, e_x0_28)) : Met l yX11_canTake (.code yX11_canTake cX11_canTake 6 (some .boolean) :: gtbl) ({ frames := 0, cells := 0, slots := 0, locals := 0 } : Room) (PcS G [.ref h0, .int b1, .int b2, .int b3] (wW_X11_canTake G h0 h1 h2 h3 y0_0 y0_1 y0_2 y0_3 y0_4 y0_6 y0_18 y0_21 y0_23 y0_24 y0_33 y0_34 y0_38 y0_39 y0_40 y0_41 y0_42 y0_43 y0_45 y0_46 y0_47 y0_48 x0_5 x0_7 x0_8 x0_9 x0_10 x0_11 x0_12 x0_13 x0_14 x0_15 x0_16 x0_17 x0_19 x0_20 x0_27 x0_28 x0_29 x0_30 x0_31 x0_32 x0_35 x0_36 x0_37 x0_44 x0_49 x0_50 a1 a2 a3) sz) (QiS G r0 (va_A (wW_X11_canTake G h0 h1 h2 h3 y0_0 y0_1 y0_2 y0_3 y0_4 y0_6 y0_18 y0_21 y0_23 y0_24 y0_33 y0_34 y0_38 y0_39 y0_40 y0_41 y0_42 y0_43 y0_45 y0_46 y0_47 y0_48 x0_5 x0_7 x0_8 x0_9 x0_10 x0_11 x0_12 x0_13 x0_14 x0_15 x0_16 x0_17 x0_19 x0_20 x0_27 x0_28 x0_29 x0_30 x0_31 x0_32 x0_35 x0_36 x0_37 x0_44 x0_49 x0_50 a1 a2 a3) sz) (wW_X11_canTake G h0 h1 h2 h3 y0_0 y0_1 y0_2 y0_3 y0_4 y0_6 y0_18 y0_21 y0_23 y0_24 y0_33 y0_34 y0_38 y0_39 y0_40 y0_41 y0_42 y0_43 y0_45 y0_46 y0_47 y0_48 x0_5 x0_7 x0_8 x0_9 x0_10 x0_11 x0_12 x0_13 x0_14 x0_15 x0_16 x0_17 x0_19 x0_20 x0_27 e_x0_28 x0_29 x0_30 x0_31 x0_32 x0_35 x0_36 x0_37 x0_44 x0_49 x0_50 a1 a2 a3)) 0 0 (va_A (wW_X11_canTake G h0 h1 h2 h3 y0_0 y0_1 y0_2 y0_3 y0_4 y0_6 y0_18 y0_21 y0_23 y0_24 y0_33 y0_34 y0_38 y0_39 y0_40 y0_41 y0_42 y0_43 y0_45 y0_46 y0_47 y0_48 x0_5 x0_7 x0_8 x0_9 x0_10 x0_11 x0_12 x0_13 x0_14 x0_15 x0_16 x0_17 x0_19 x0_20 x0_27 x0_28 x0_29 x0_30 x0_31 x0_32 x0_35 x0_36 x0_37 x0_44 x0_49 x0_50 a1 a2 a3) sz) := by
  refine met_start (by decide) (Nat.le_of_ble_eq_true rfl) ?_
  intro p e s m below meth c hC hr hlk hnm hK hP hD hA hS hX ls hl
  obtain ⟨hx, hb, hml, hown, ht0⟩ := hC
  have hown : s.vm.findClass RX11 = some m.cls := hown
  generalize va_A (wW_X11_canTake G h0 h1 h2 h3 y0_0 y0_1 y0_2 y0_3 y0_4 y0_6 y0_18 y0_21 y0_23 y0_24 y0_33 y0_34 y0_38 y0_39 y0_40 y0_41 y0_42 y0_43 y0_45 y0_46 y0_47 y0_48 x0_5 x0_7 x0_8 x0_9 x0_10 x0_11 x0_12 x0_13 x0_14 x0_15 x0_16 x0_17 x0_19 x0_20 x0_27 x0_28 x0_29 x0_30 x0_31 x0_32 x0_35 x0_36 x0_37 x0_44 x0_49 x0_50 a1 a2 a3) sz = A at hD hA hS hX ⊢
  have hl : lv_has ls 6 [(0, .ref h0), (1, .int b1), (2, .int b2), (3, .int b3)] := hl
  have hf : p_X11_canTake F x0_28 a1 a2 a3 b1 b2 b3 = some (r0, e_x0_28) := hf
  have kJ85 : ∀ (u85_1 : Int32) (u85_2 : Int32) (u85_4 : Int32) (u85_5 : Int32) (x0_28_85 : Int32), p_X11_canTake_J85 F a1 a2 a3 u85_1 u85_2 u85_4 u85_5 x0_28_85 = some (r0, e_x0_28) → ∀ (H : Heap) (locs : List Loc), va_P G.1 vwCl (wW_X11_canTake G h0 h1 h2 h3 y0_0 y0_1 y0_2 y0_3 y0_4 y0_6 y0_18 y0_21 y0_23 y0_24 y0_33 y0_34 y0_38 y0_39 y0_40 y0_41 y0_42 y0_43 y0_45 y0_46 y0_47 y0_48 x0_5 x0_7 x0_8 x0_9 x0_10 x0_11 x0_12 x0_13 x0_14 x0_15 x0_16 x0_17 x0_19 x0_20 x0_27 x0_28_85 x0_29 x0_30 x0_31 x0_32 x0_35 x0_36 x0_37 x0_44 x0_49 x0_50 a1 a2 a3) H → va_D A (wW_X11_canTake G h0 h1 h2 h3 y0_0 y0_1 y0_2 y0_3 y0_4 y0_6 y0_18 y0_21 y0_23 y0_24 y0_33 y0_34 y0_38 y0_39 y0_40 y0_41 y0_42 y0_43 y0_45 y0_46 y0_47 y0_48 x0_5 x0_7 x0_8 x0_9 x0_10 x0_11 x0_12 x0_13 x0_14 x0_15 x0_16 x0_17 x0_19 x0_20 x0_27 x0_28_85 x0_29 x0_30 x0_31 x0_32 x0_35 x0_36 x0_37 x0_44 x0_49 x0_50 a1 a2 a3) → va_S A s.heap H locs → ∀ ls : Array Slot, lv_has ls 6 [(0, .ref h0), (1, .int u85_1), (2, .int u85_2), (4, .int u85_4), (5, .int u85_5)] → W p l e ({ frames := 0, cells := 0, slots := 0, locals := 0 } : Room) s m (List.toArray [.ref h0, .int b1, .int b2, .int b3]) below meth c H locs 0 0 (MQ below (QiS G r0 A (wW_X11_canTake G h0 h1 h2 h3 y0_0 y0_1 y0_2 y0_3 y0_4 y0_6 y0_18 y0_21 y0_23 y0_24 y0_33 y0_34 y0_38 y0_39 y0_40 y0_41 y0_42 y0_43 y0_45 y0_46 y0_47 y0_48 x0_5 x0_7 x0_8 x0_9 x0_10 x0_11 x0_12 x0_13 x0_14 x0_15 x0_16 x0_17 x0_19 x0_20 x0_27 e_x0_28 x0_29 x0_30 x0_31 x0_32 x0_35 x0_36 x0_37 x0_44 x0_49 x0_50 a1 a2 a3)) (List.toArray [.ref h0, .int b1, .int b2, .int b3]) s 0 0 A) (F0 m 85 ls []) := by
    intro u85_1 u85_2 u85_4 u85_5 x0_28_85 hf H locs hP hD hS ls hl
    refine lv_iload_n hx hb dX11_canTake_85 rfl (lv_at hl 1 rfl) ?_
    refine lv_iload_n hx hb dX11_canTake_86 rfl (lv_at hl 2 rfl) ?_
    refine lv_iconst (v := (1 : Int32)) hx hb dX11_canTake_87 (by decide) ?_
    refine lv_isub hx hb dX11_canTake_88 ?_
    refine lv_icmp_lt (tgt := 113) hx hb dX11_canTake_89 (by decide) (fun c1 => ?_) (fun c1 => ?_)
    · have hf := of_pos hf c1
      refine lv_iconst (v := (1 : Int32)) hx hb dX11_canTake_113 (by decide) ?_
      refine lv_goto (tgt := 118) hx hb dX11_canTake_114 (by decide) ?_
      cases hf
      exact ret_z hx hb hr hlk hK hP hD hS (by decide) dX11_canTake_118
    · have hf := of_neg hf c1
      refine lv_aload_n hx hb dX11_canTake_92 rfl (lv_at hl 0 rfl) ?_
      refine va_get (ci := 11) (v := .ref h3) (C := RX11) (T := TX11) (N := 51) hx hb ht0 iX11 hown hK hP 0 rfl rfl 26 (by decide) (ht0 _ wd_1432) (fun _ h9 => h9) rfl dX11_canTake_93 ?_
      refine lv_iload hx hb dX11_canTake_96 (lv_at hl 4 rfl) ?_
      obtain ⟨g2, hf⟩ := of_grd hf
      refine va_zald hx hb hK hP 3 1 rfl rfl g2 dX11_canTake_98 ?_
      refine lv_if_ne (tgt := 117) hx hb dX11_canTake_99 (by decide) (fun c3 => ?_) (fun c3 => ?_)
      · have hf := of_neg hf c3
        refine lv_iconst (v := (0 : Int32)) hx hb dX11_canTake_117 (by decide) ?_
        cases hf
        exact ret_z hx hb hr hlk hK hP hD hS (by decide) dX11_canTake_118
      · have hf := of_pos hf c3
        refine lv_iload_n hx hb dX11_canTake_102 rfl (lv_at hl 1 rfl) ?_
        refine lv_if_eq (tgt := 113) hx hb dX11_canTake_103 (by decide) (fun c4 => ?_) (fun c4 => ?_)
        · have hf := of_pos hf c4
          refine lv_iconst (v := (1 : Int32)) hx hb dX11_canTake_113 (by decide) ?_
          refine lv_goto (tgt := 118) hx hb dX11_canTake_114 (by decide) ?_
          cases hf
          exact ret_z hx hb hr hlk hK hP hD hS (by decide) dX11_canTake_118
        · have hf := of_neg hf c4
          refine lv_iload hx hb dX11_canTake_106 (lv_at hl 3 rfl) ?_
          refine lv_iload hx hb dX11_canTake_108 (lv_at hl 4 rfl) ?_
          refine lv_icmp_eq (tgt := 117) hx hb dX11_canTake_110 (by decide) (fun c5 => ?_) (fun c5 => ?_)
          · have hf := of_pos hf c5
            refine lv_iconst (v := (0 : Int32)) hx hb dX11_canTake_117 (by decide) ?_
            cases hf
            exact ret_z hx hb hr hlk hK hP hD hS (by decide) dX11_canTake_118
          · have hf := of_neg hf c5
            refine lv_iconst (v := (1 : Int32)) hx hb dX11_canTake_113 (by decide) ?_
            refine lv_goto (tgt := 118) hx hb dX11_canTake_114 (by decide) ?_
            cases hf
            exact ret_z hx hb hr hlk hK hP hD hS (by decide) dX11_canTake_118
  have kJ67 : ∀ (u67_1 : Int32) (u67_2 : Int32) (u67_4 : Int32) (s67_0 : Int32) (x0_28_67 : Int32), p_X11_canTake_J67 F a1 a2 a3 u67_1 u67_2 u67_4 s67_0 x0_28_67 = some (r0, e_x0_28) → ∀ (H : Heap) (locs : List Loc), va_P G.1 vwCl (wW_X11_canTake G h0 h1 h2 h3 y0_0 y0_1 y0_2 y0_3 y0_4 y0_6 y0_18 y0_21 y0_23 y0_24 y0_33 y0_34 y0_38 y0_39 y0_40 y0_41 y0_42 y0_43 y0_45 y0_46 y0_47 y0_48 x0_5 x0_7 x0_8 x0_9 x0_10 x0_11 x0_12 x0_13 x0_14 x0_15 x0_16 x0_17 x0_19 x0_20 x0_27 x0_28_67 x0_29 x0_30 x0_31 x0_32 x0_35 x0_36 x0_37 x0_44 x0_49 x0_50 a1 a2 a3) H → va_D A (wW_X11_canTake G h0 h1 h2 h3 y0_0 y0_1 y0_2 y0_3 y0_4 y0_6 y0_18 y0_21 y0_23 y0_24 y0_33 y0_34 y0_38 y0_39 y0_40 y0_41 y0_42 y0_43 y0_45 y0_46 y0_47 y0_48 x0_5 x0_7 x0_8 x0_9 x0_10 x0_11 x0_12 x0_13 x0_14 x0_15 x0_16 x0_17 x0_19 x0_20 x0_27 x0_28_67 x0_29 x0_30 x0_31 x0_32 x0_35 x0_36 x0_37 x0_44 x0_49 x0_50 a1 a2 a3) → va_S A s.heap H locs → ∀ ls : Array Slot, lv_has ls 6 [(0, .ref h0), (1, .int u67_1), (2, .int u67_2), (4, .int u67_4)] → W p l e ({ frames := 0, cells := 0, slots := 0, locals := 0 } : Room) s m (List.toArray [.ref h0, .int b1, .int b2, .int b3]) below meth c H locs 0 0 (MQ below (QiS G r0 A (wW_X11_canTake G h0 h1 h2 h3 y0_0 y0_1 y0_2 y0_3 y0_4 y0_6 y0_18 y0_21 y0_23 y0_24 y0_33 y0_34 y0_38 y0_39 y0_40 y0_41 y0_42 y0_43 y0_45 y0_46 y0_47 y0_48 x0_5 x0_7 x0_8 x0_9 x0_10 x0_11 x0_12 x0_13 x0_14 x0_15 x0_16 x0_17 x0_19 x0_20 x0_27 e_x0_28 x0_29 x0_30 x0_31 x0_32 x0_35 x0_36 x0_37 x0_44 x0_49 x0_50 a1 a2 a3)) (List.toArray [.ref h0, .int b1, .int b2, .int b3]) s 0 0 A) (F0 m 67 ls [.int s67_0]) := by
    intro u67_1 u67_2 u67_4 s67_0 x0_28_67 hf H locs hP hD hS ls hl
    refine lv_istore (lv' := [(5, .int s67_0), (0, .ref h0), (1, .int u67_1), (2, .int u67_2), (4, .int u67_4)]) hx hb dX11_canTake_67 hl (by decide) rfl (fun ls hl => ?_)
    refine lv_iload_n hx hb dX11_canTake_69 rfl (lv_at hl 2 rfl) ?_
    refine lv_if_le (tgt := 85) hx hb dX11_canTake_70 (by decide) (fun c6 => ?_) (fun c6 => ?_)
    · have hf := of_pos hf c6
      exact kJ85 _ _ _ _ _ hf _ _ hP hD hS _ (lv_sub hl [1, 2, 3, 4, 0] rfl)
    · have hf := of_neg hf c6
      refine lv_aload_n hx hb dX11_canTake_73 rfl (lv_at hl 1 rfl) ?_
      refine va_get (ci := 11) (v := .ref h3) (C := RX11) (T := TX11) (N := 51) hx hb ht0 iX11 hown hK hP 0 rfl rfl 26 (by decide) (ht0 _ wd_1432) (fun _ h9 => h9) rfl dX11_canTake_74 ?_
      refine lv_iload hx hb dX11_canTake_77 (lv_at hl 4 rfl) ?_
      obtain ⟨g7, hf⟩ := of_grd hf
      refine va_zald hx hb hK hP 3 1 rfl rfl g7 dX11_canTake_79 ?_
      refine lv_if_eq (tgt := 85) hx hb dX11_canTake_80 (by decide) (fun c8 => ?_) (fun c8 => ?_)
      · have hf := of_pos hf c8
        exact kJ85 _ _ _ _ _ hf _ _ hP hD hS _ (lv_sub hl [1, 2, 3, 4, 0] rfl)
      · have hf := of_neg hf c8
        refine lv_iconst (v := (0 : Int32)) hx hb dX11_canTake_83 (by decide) ?_
        cases hf
        exact ret_z hx hb hr hlk hK hP hD hS (by decide) dX11_canTake_84
  have kJ51 : ∀ (u51_1 : Int32) (u51_2 : Int32) (u51_3 : Int32) (s51_0 : Int32) (x0_28_51 : Int32), p_X11_canTake_J51 F a1 a2 a3 u51_1 u51_2 u51_3 s51_0 x0_28_51 = some (r0, e_x0_28) → ∀ (H : Heap) (locs : List Loc), va_P G.1 vwCl (wW_X11_canTake G h0 h1 h2 h3 y0_0 y0_1 y0_2 y0_3 y0_4 y0_6 y0_18 y0_21 y0_23 y0_24 y0_33 y0_34 y0_38 y0_39 y0_40 y0_41 y0_42 y0_43 y0_45 y0_46 y0_47 y0_48 x0_5 x0_7 x0_8 x0_9 x0_10 x0_11 x0_12 x0_13 x0_14 x0_15 x0_16 x0_17 x0_19 x0_20 x0_27 x0_28_51 x0_29 x0_30 x0_31 x0_32 x0_35 x0_36 x0_37 x0_44 x0_49 x0_50 a1 a2 a3) H → va_D A (wW_X11_canTake G h0 h1 h2 h3 y0_0 y0_1 y0_2 y0_3 y0_4 y0_6 y0_18 y0_21 y0_23 y0_24 y0_33 y0_34 y0_38 y0_39 y0_40 y0_41 y0_42 y0_43 y0_45 y0_46 y0_47 y0_48 x0_5 x0_7 x0_8 x0_9 x0_10 x0_11 x0_12 x0_13 x0_14 x0_15 x0_16 x0_17 x0_19 x0_20 x0_27 x0_28_51 x0_29 x0_30 x0_31 x0_32 x0_35 x0_36 x0_37 x0_44 x0_49 x0_50 a1 a2 a3) → va_S A s.heap H locs → ∀ ls : Array Slot, lv_has ls 6 [(0, .ref h0), (1, .int u51_1), (2, .int u51_2), (3, .int u51_3)] → W p l e ({ frames := 0, cells := 0, slots := 0, locals := 0 } : Room) s m (List.toArray [.ref h0, .int b1, .int b2, .int b3]) below meth c H locs 0 0 (MQ below (QiS G r0 A (wW_X11_canTake G h0 h1 h2 h3 y0_0 y0_1 y0_2 y0_3 y0_4 y0_6 y0_18 y0_21 y0_23 y0_24 y0_33 y0_34 y0_38 y0_39 y0_40 y0_41 y0_42 y0_43 y0_45 y0_46 y0_47 y0_48 x0_5 x0_7 x0_8 x0_9 x0_10 x0_11 x0_12 x0_13 x0_14 x0_15 x0_16 x0_17 x0_19 x0_20 x0_27 e_x0_28 x0_29 x0_30 x0_31 x0_32 x0_35 x0_36 x0_37 x0_44 x0_49 x0_50 a1 a2 a3)) (List.toArray [.ref h0, .int b1, .int b2, .int b3]) s 0 0 A) (F0 m 51 ls [.int s51_0]) := by
    intro u51_1 u51_2 u51_3 s51_0 x0_28_51 hf H locs hP hD hS ls hl
    refine lv_istore (lv' := [(4, .int s51_0), (0, .ref h0), (1, .int u51_1), (2, .int u51_2), (3, .int u51_3)]) hx hb dX11_canTake_51 hl (by decide) rfl (fun ls hl => ?_)
    refine lv_iload_n hx hb dX11_canTake_53 rfl (lv_at hl 2 rfl) ?_
    refine lv_iload_n hx hb dX11_canTake_54 rfl (lv_at hl 3 rfl) ?_
    refine lv_iconst (v := (1 : Int32)) hx hb dX11_canTake_55 (by decide) ?_
    refine lv_isub hx hb dX11_canTake_56 ?_
    refine lv_icmp_ne (tgt := 66) hx hb dX11_canTake_57 (by decide) (fun c9 => ?_) (fun c9 => ?_)
    · have hf := of_neg hf c9
      refine lv_iconst (v := (0 : Int32)) hx hb dX11_canTake_66 (by decide) ?_
      exact kJ67 _ _ _ _ _ hf _ _ hP hD hS _ (lv_sub hl [1, 2, 3, 0] rfl)
    · have hf := of_pos hf c9
      refine lv_iload_n hx hb dX11_canTake_60 rfl (lv_at hl 4 rfl) ?_
      refine lv_iconst (v := (1 : Int32)) hx hb dX11_canTake_61 (by decide) ?_
      refine lv_ixor hx hb dX11_canTake_62 ?_
      refine lv_goto (tgt := 67) hx hb dX11_canTake_63 (by decide) ?_
      exact kJ67 _ _ _ _ _ hf _ _ hP hD hS _ (lv_sub hl [1, 2, 3, 0] rfl)
  refine lv_aload_n hx hb dX11_canTake_0 rfl (lv_at hl 0 rfl) ?_
  refine va_get (ci := 11) (v := .ref h2) (C := RX11) (T := TX11) (N := 51) hx hb ht0 iX11 hown hK hP 0 rfl rfl 25 (by decide) (ht0 _ wd_1431) (fun _ h9 => h9) rfl dX11_canTake_1 ?_
  refine lv_iload_n hx hb dX11_canTake_4 rfl (lv_at hl 3 rfl) ?_
  obtain ⟨g10, hf⟩ := of_grd hf
  refine va_zald hx hb hK hP 2 1 rfl rfl g10 dX11_canTake_5 ?_
  refine lv_if_eq (tgt := 11) hx hb dX11_canTake_6 (by decide) (fun c11 => ?_) (fun c11 => ?_)
  · have hf := of_pos hf c11
    refine lv_aload_n hx hb dX11_canTake_11 rfl (lv_at hl 0 rfl) ?_
    refine lv_dup hx hb dX11_canTake_12 rfl ?_
    refine va_get (ci := 11) (v := .int x0_28) (C := RX11) (T := TX11) (N := 51) hx hb ht0 iX11 hown hK hP 0 rfl rfl 28 (by decide) (ht0 _ wd_1434) (fun _ h9 => h9) rfl dX11_canTake_13 ?_
    refine lv_iconst (v := (1 : Int32)) hx hb dX11_canTake_16 (by decide) ?_
    refine lv_iadd hx hb dX11_canTake_17 ?_
    refine va_put (ci := 11) (v := .int (x0_28 + (1 : Int32))) (ty := .int) (C := RX11) (T := TX11) (N := 51) hx hb ht0 iX11 tyX11 tyX11_ok nmX11 hown hK hP hD hS 0 rfl rfl 28 (by decide) (ht0 _ wd_1434) (fun _ h9 => h9) rfl rfl rfl rfl (Nat.le_of_ble_eq_true rfl) dX11_canTake_18 (fun H locs hP hD hS => ?_)
    have hP : va_P G.1 vwCl (wW_X11_canTake G h0 h1 h2 h3 y0_0 y0_1 y0_2 y0_3 y0_4 y0_6 y0_18 y0_21 y0_23 y0_24 y0_33 y0_34 y0_38 y0_39 y0_40 y0_41 y0_42 y0_43 y0_45 y0_46 y0_47 y0_48 x0_5 x0_7 x0_8 x0_9 x0_10 x0_11 x0_12 x0_13 x0_14 x0_15 x0_16 x0_17 x0_19 x0_20 x0_27 (x0_28 + (1 : Int32)) x0_29 x0_30 x0_31 x0_32 x0_35 x0_36 x0_37 x0_44 x0_49 x0_50 a1 a2 a3) H := hP
    have hD : va_D A (wW_X11_canTake G h0 h1 h2 h3 y0_0 y0_1 y0_2 y0_3 y0_4 y0_6 y0_18 y0_21 y0_23 y0_24 y0_33 y0_34 y0_38 y0_39 y0_40 y0_41 y0_42 y0_43 y0_45 y0_46 y0_47 y0_48 x0_5 x0_7 x0_8 x0_9 x0_10 x0_11 x0_12 x0_13 x0_14 x0_15 x0_16 x0_17 x0_19 x0_20 x0_27 (x0_28 + (1 : Int32)) x0_29 x0_30 x0_31 x0_32 x0_35 x0_36 x0_37 x0_44 x0_49 x0_50 a1 a2 a3) := hD
    refine lv_aload_n hx hb dX11_canTake_21 rfl (lv_at hl 0 rfl) ?_
    refine va_get (ci := 11) (v := .int (x0_28 + (1 : Int32))) (C := RX11) (T := TX11) (N := 51) hx hb ht0 iX11 hown hK hP 0 rfl rfl 28 (by decide) (ht0 _ wd_1434) (fun _ h9 => h9) rfl dX11_canTake_22 ?_
    refine lv_sipush (v := (20000 : Int32)) hx hb dX11_canTake_25 (by decide) ?_
    refine lv_icmp_le (tgt := 33) hx hb dX11_canTake_28 (by decide) (fun c12 => ?_) (fun c12 => ?_)
    · have hf := of_pos hf c12
      refine lv_iload_n hx hb dX11_canTake_33 rfl (lv_at hl 1 rfl) ?_
      refine lv_if_le (tgt := 50) hx hb dX11_canTake_34 (by decide) (fun c13 => ?_) (fun c13 => ?_)
      · have hf := of_pos hf c13
        refine lv_iconst (v := (0 : Int32)) hx hb dX11_canTake_50 (by decide) ?_
        exact kJ51 _ _ _ _ _ hf _ _ hP hD hS _ (lv_sub hl [0, 1, 2, 3] rfl)
      · have hf := of_neg hf c13
        refine lv_iload_n hx hb dX11_canTake_37 rfl (lv_at hl 3 rfl) ?_
        refine lv_aload_n hx hb dX11_canTake_38 rfl (lv_at hl 0 rfl) ?_
        refine va_get (ci := 11) (v := .ref h1) (C := RX11) (T := TX11) (N := 51) hx hb ht0 iX11 hown hK hP 0 rfl rfl 22 (by decide) (ht0 _ wd_1428) (fun _ h9 => h9) rfl dX11_canTake_39 ?_
        refine lv_iload_n hx hb dX11_canTake_42 rfl (lv_at hl 1 rfl) ?_
        refine lv_iconst (v := (1 : Int32)) hx hb dX11_canTake_43 (by decide) ?_
        refine lv_isub hx hb dX11_canTake_44 ?_
        obtain ⟨g14, hf⟩ := of_grd hf
        refine va_iald hx hb hK hP 1 0 rfl rfl g14 dX11_canTake_45 ?_
        refine lv_ixor hx hb dX11_canTake_46 ?_
        refine lv_goto (tgt := 51) hx hb dX11_canTake_47 (by decide) ?_
        exact kJ51 _ _ _ _ _ hf _ _ hP hD hS _ (lv_sub hl [0, 1, 2, 3] rfl)
    · have hf := of_neg hf c12
      refine lv_iconst (v := (0 : Int32)) hx hb dX11_canTake_31 (by decide) ?_
      cases hf
      exact ret_z hx hb hr hlk hK hP hD hS (by decide) dX11_canTake_32
  · have hf := of_neg hf c11
    refine lv_iconst (v := (0 : Int32)) hx hb dX11_canTake_9 (by decide) ?_
    cases hf
    exact ret_z hx hb hr hlk hK hP hD hS (by decide) dX11_canTake_10
theorem yk_X11_canTake : ykV yX11_canTake RX11 cX11_canTake 6 (some .boolean) 3 := ⟨wd_1357, wd_59, wd_142, wd_1358, rfl, by decide +kernel, by decide +kernel, by decide +kernel⟩
theorem dX11_takeOn_0 : decode cX11_takeOn 0 = .ok (.aload_n 0, 1) := by decide +kernel
theorem dX11_takeOn_1 : decode cX11_takeOn 1 = .ok (.getfield 39, 3) := by decide +kernel
theorem dX11_takeOn_4 : decode cX11_takeOn 4 = .ok (.iload_n 1, 1) := by decide +kernel
theorem dX11_takeOn_5 : decode cX11_takeOn 5 = .ok (.iload_n 3, 1) := by decide +kernel
theorem dX11_takeOn_6 : decode cX11_takeOn 6 = .ok (.iastore, 1) := by decide +kernel
theorem dX11_takeOn_7 : decode cX11_takeOn 7 = .ok (.aload_n 0, 1) := by decide +kernel
theorem dX11_takeOn_8 : decode cX11_takeOn 8 = .ok (.getfield 48, 3) := by decide +kernel
theorem dX11_takeOn_11 : decode cX11_takeOn 11 = .ok (.iload_n 3, 1) := by decide +kernel
theorem dX11_takeOn_12 : decode cX11_takeOn 12 = .ok (.iconst 1, 1) := by decide +kernel
theorem dX11_takeOn_13 : decode cX11_takeOn 13 = .ok (.bastore, 1) := by decide +kernel
theorem dX11_takeOn_14 : decode cX11_takeOn 14 = .ok (.iload_n 1, 1) := by decide +kernel
theorem dX11_takeOn_15 : decode cX11_takeOn 15 = .ok (.ifCond .le 19, 3) := by decide +kernel
theorem dX11_takeOn_18 : decode cX11_takeOn 18 = .ok (.aload_n 0, 1) := by decide +kernel
theorem dX11_takeOn_19 : decode cX11_takeOn 19 = .ok (.getfield 52, 3) := by decide +kernel
theorem dX11_takeOn_22 : decode cX11_takeOn 22 = .ok (.iload_n 3, 1) := by decide +kernel
theorem dX11_takeOn_23 : decode cX11_takeOn 23 = .ok (.aload_n 0, 1) := by decide +kernel
theorem dX11_takeOn_24 : decode cX11_takeOn 24 = .ok (.getfield 39, 3) := by decide +kernel
theorem dX11_takeOn_27 : decode cX11_takeOn 27 = .ok (.iload_n 1, 1) := by decide +kernel
theorem dX11_takeOn_28 : decode cX11_takeOn 28 = .ok (.iconst 1, 1) := by decide +kernel
theorem dX11_takeOn_29 : decode cX11_takeOn 29 = .ok (.isub, 1) := by decide +kernel
theorem dX11_takeOn_30 : decode cX11_takeOn 30 = .ok (.iaload, 1) := by decide +kernel
theorem dX11_takeOn_31 : decode cX11_takeOn 31 = .ok (.ixor, 1) := by decide +kernel
theorem dX11_takeOn_32 : decode cX11_takeOn 32 = .ok (.iconst 1, 1) := by decide +kernel
theorem dX11_takeOn_33 : decode cX11_takeOn 33 = .ok (.bastore, 1) := by decide +kernel
theorem dX11_takeOn_34 : decode cX11_takeOn 34 = .ok (.iload_n 1, 1) := by decide +kernel
theorem dX11_takeOn_35 : decode cX11_takeOn 35 = .ok (.iload_n 2, 1) := by decide +kernel
theorem dX11_takeOn_36 : decode cX11_takeOn 36 = .ok (.iconst 1, 1) := by decide +kernel
theorem dX11_takeOn_37 : decode cX11_takeOn 37 = .ok (.isub, 1) := by decide +kernel
theorem dX11_takeOn_38 : decode cX11_takeOn 38 = .ok (.if_icmp .ne 12, 3) := by decide +kernel
theorem dX11_takeOn_41 : decode cX11_takeOn 41 = .ok (.aload_n 0, 1) := by decide +kernel
theorem dX11_takeOn_42 : decode cX11_takeOn 42 = .ok (.getfield 52, 3) := by decide +kernel
theorem dX11_takeOn_45 : decode cX11_takeOn 45 = .ok (.iload_n 3, 1) := by decide +kernel
theorem dX11_takeOn_46 : decode cX11_takeOn 46 = .ok (.iconst 1, 1) := by decide +kernel
theorem dX11_takeOn_47 : decode cX11_takeOn 47 = .ok (.ixor, 1) := by decide +kernel
theorem dX11_takeOn_48 : decode cX11_takeOn 48 = .ok (.iconst 1, 1) := by decide +kernel
theorem dX11_takeOn_49 : decode cX11_takeOn 49 = .ok (.bastore, 1) := by decide +kernel
theorem dX11_takeOn_50 : decode cX11_takeOn 50 = .ok (.return_, 1) := by decide +kernel
def wW_X11_takeOn (G : GG) (h0 h1 h2 h3 y0_0 y0_1 y0_2 y0_3 y0_4 y0_6 y0_18 y0_21 y0_23 y0_24 y0_33 y0_34 y0_38 y0_39 y0_40 y0_41 y0_42 y0_43 y0_45 y0_46 y0_47 y0_48 : Nat) (x0_5 : Int32) (x0_7 : Int32) (x0_8 : Int32) (x0_9 : Int32) (x0_10 : Int32) (x0_11 : Int32) (x0_12 : Int32) (x0_13 : Int32) (x0_14 : Int32) (x0_15 : Int32) (x0_16 : Int32) (x0_17 : Int32) (x0_19 : Int32) (x0_20 : Int32) (x0_27 : Int32) (x0_28 : Int32) (x0_29 : Int32) (x0_30 : Int32) (x0_31 : Int32) (x0_32 : Int32) (x0_35 : Int32) (x0_36 : Int32) (x0_37 : Int32) (x0_44 : Int32) (x0_49 : Int32) (x0_50 : Int32) (a1 : Nat → Int32) (a2 : Nat → Int32) (a3 : Nat → Int32) : va_W := [(h0, .inr (11, [.ref y0_0, .ref y0_1, .ref y0_2, .ref y0_3, .ref y0_4, .int x0_5, .ref y0_6, .int x0_7, .int x0_8, .int x0_9, .int x0_10, .int x0_11, .int x0_12, .int x0_13, .int x0_14, .int x0_15, .int x0_16, .int x0_17, .ref y0_18, .int x0_19, .int x0_20, .ref y0_21, .ref h1, .ref y0_23, .ref y0_24, .ref h2, .ref h3, .int x0_27, .int x0_28, .int x0_29, .int x0_30, .int x0_31, .int x0_32, .ref y0_33, .ref y0_34, .int x0_35, .int x0_36, .int x0_37, .ref y0_38, .ref y0_39, .ref y0_40, .ref y0_41, .ref y0_42, .ref y0_43, .int x0_44, .ref y0_45, .ref y0_46, .ref y0_47, .ref y0_48, .int x0_49, .int x0_50])), (h1, .inl (G.2.1, 32, .inl a1)), (h2, .inl (G.2.2.1, 256, .inl a2)), (h3, .inl (G.2.2.1, 256, .inl a3))]
set_option maxHeartbeats 4000000 in
set_option maxRecDepth 100000 in
theorem c_X11_takeOn (l : Launch) (G : GG) (h0 h1 h2 h3 y0_0 y0_1 y0_2 y0_3 y0_4 y0_6 y0_18 y0_21 y0_23 y0_24 y0_33 y0_34 y0_38 y0_39 y0_40 y0_41 y0_42 y0_43 y0_45 y0_46 y0_47 y0_48 : Nat) (sz : Nat) (x0_5 : Int32) (x0_7 : Int32) (x0_8 : Int32) (x0_9 : Int32) (x0_10 : Int32) (x0_11 : Int32) (x0_12 : Int32) (x0_13 : Int32) (x0_14 : Int32) (x0_15 : Int32) (x0_16 : Int32) (x0_17 : Int32) (x0_19 : Int32) (x0_20 : Int32) (x0_27 : Int32) (x0_28 : Int32) (x0_29 : Int32) (x0_30 : Int32) (x0_31 : Int32) (x0_32 : Int32) (x0_35 : Int32) (x0_36 : Int32) (x0_37 : Int32) (x0_44 : Int32) (x0_49 : Int32) (x0_50 : Int32) (a1 : Nat → Int32) (a2 : Nat → Int32) (a3 : Nat → Int32) (F : Nat) (b1 : Int32) (b2 : Int32) (b3 : Int32)  (e_a1 : Nat → Int32) (e_a2 : Nat → Int32) (e_a3 : Nat → Int32) (hf : p_X11_takeOn F a1 a2 a3 b1 b2 b3 = some (e_a1, e_a2, e_a3)) : Met l yX11_takeOn (.code yX11_takeOn cX11_takeOn 4 none :: gtbl) ({ frames := 0, cells := 0, slots := 0, locals := 0 } : Room) (PcS G [.ref h0, .int b1, .int b2, .int b3] (wW_X11_takeOn G h0 h1 h2 h3 y0_0 y0_1 y0_2 y0_3 y0_4 y0_6 y0_18 y0_21 y0_23 y0_24 y0_33 y0_34 y0_38 y0_39 y0_40 y0_41 y0_42 y0_43 y0_45 y0_46 y0_47 y0_48 x0_5 x0_7 x0_8 x0_9 x0_10 x0_11 x0_12 x0_13 x0_14 x0_15 x0_16 x0_17 x0_19 x0_20 x0_27 x0_28 x0_29 x0_30 x0_31 x0_32 x0_35 x0_36 x0_37 x0_44 x0_49 x0_50 a1 a2 a3) sz) (QvS G (va_A (wW_X11_takeOn G h0 h1 h2 h3 y0_0 y0_1 y0_2 y0_3 y0_4 y0_6 y0_18 y0_21 y0_23 y0_24 y0_33 y0_34 y0_38 y0_39 y0_40 y0_41 y0_42 y0_43 y0_45 y0_46 y0_47 y0_48 x0_5 x0_7 x0_8 x0_9 x0_10 x0_11 x0_12 x0_13 x0_14 x0_15 x0_16 x0_17 x0_19 x0_20 x0_27 x0_28 x0_29 x0_30 x0_31 x0_32 x0_35 x0_36 x0_37 x0_44 x0_49 x0_50 a1 a2 a3) sz) (wW_X11_takeOn G h0 h1 h2 h3 y0_0 y0_1 y0_2 y0_3 y0_4 y0_6 y0_18 y0_21 y0_23 y0_24 y0_33 y0_34 y0_38 y0_39 y0_40 y0_41 y0_42 y0_43 y0_45 y0_46 y0_47 y0_48 x0_5 x0_7 x0_8 x0_9 x0_10 x0_11 x0_12 x0_13 x0_14 x0_15 x0_16 x0_17 x0_19 x0_20 x0_27 x0_28 x0_29 x0_30 x0_31 x0_32 x0_35 x0_36 x0_37 x0_44 x0_49 x0_50 e_a1 e_a2 e_a3)) 0 0 (va_A (wW_X11_takeOn G h0 h1 h2 h3 y0_0 y0_1 y0_2 y0_3 y0_4 y0_6 y0_18 y0_21 y0_23 y0_24 y0_33 y0_34 y0_38 y0_39 y0_40 y0_41 y0_42 y0_43 y0_45 y0_46 y0_47 y0_48 x0_5 x0_7 x0_8 x0_9 x0_10 x0_11 x0_12 x0_13 x0_14 x0_15 x0_16 x0_17 x0_19 x0_20 x0_27 x0_28 x0_29 x0_30 x0_31 x0_32 x0_35 x0_36 x0_37 x0_44 x0_49 x0_50 a1 a2 a3) sz) := by
  refine met_start (by decide) (Nat.le_of_ble_eq_true rfl) ?_
  intro p e s m below meth c hC hr hlk hnm hK hP hD hA hS hX ls hl
  obtain ⟨hx, hb, hml, hown, ht0⟩ := hC
  have hown : s.vm.findClass RX11 = some m.cls := hown
  generalize va_A (wW_X11_takeOn G h0 h1 h2 h3 y0_0 y0_1 y0_2 y0_3 y0_4 y0_6 y0_18 y0_21 y0_23 y0_24 y0_33 y0_34 y0_38 y0_39 y0_40 y0_41 y0_42 y0_43 y0_45 y0_46 y0_47 y0_48 x0_5 x0_7 x0_8 x0_9 x0_10 x0_11 x0_12 x0_13 x0_14 x0_15 x0_16 x0_17 x0_19 x0_20 x0_27 x0_28 x0_29 x0_30 x0_31 x0_32 x0_35 x0_36 x0_37 x0_44 x0_49 x0_50 a1 a2 a3) sz = A at hD hA hS hX ⊢
  have hl : lv_has ls 4 [(0, .ref h0), (1, .int b1), (2, .int b2), (3, .int b3)] := hl
  have hf : p_X11_takeOn F a1 a2 a3 b1 b2 b3 = some (e_a1, e_a2, e_a3) := hf
  have kJ34 : ∀ (u34_1 : Int32) (u34_2 : Int32) (u34_3 : Int32) (a1_34 : Nat → Int32) (a2_34 : Nat → Int32) (a3_34 : Nat → Int32), p_X11_takeOn_J34 F u34_1 u34_2 u34_3 a1_34 a2_34 a3_34 = some (e_a1, e_a2, e_a3) → ∀ (H : Heap) (locs : List Loc), va_P G.1 vwCl (wW_X11_takeOn G h0 h1 h2 h3 y0_0 y0_1 y0_2 y0_3 y0_4 y0_6 y0_18 y0_21 y0_23 y0_24 y0_33 y0_34 y0_38 y0_39 y0_40 y0_41 y0_42 y0_43 y0_45 y0_46 y0_47 y0_48 x0_5 x0_7 x0_8 x0_9 x0_10 x0_11 x0_12 x0_13 x0_14 x0_15 x0_16 x0_17 x0_19 x0_20 x0_27 x0_28 x0_29 x0_30 x0_31 x0_32 x0_35 x0_36 x0_37 x0_44 x0_49 x0_50 a1_34 a2_34 a3_34) H → va_D A (wW_X11_takeOn G h0 h1 h2 h3 y0_0 y0_1 y0_2 y0_3 y0_4 y0_6 y0_18 y0_21 y0_23 y0_24 y0_33 y0_34 y0_38 y0_39 y0_40 y0_41 y0_42 y0_43 y0_45 y0_46 y0_47 y0_48 x0_5 x0_7 x0_8 x0_9 x0_10 x0_11 x0_12 x0_13 x0_14 x0_15 x0_16 x0_17 x0_19 x0_20 x0_27 x0_28 x0_29 x0_30 x0_31 x0_32 x0_35 x0_36 x0_37 x0_44 x0_49 x0_50 a1_34 a2_34 a3_34) → va_S A s.heap H locs → ∀ ls : Array Slot, lv_has ls 4 [(0, .ref h0), (1, .int u34_1), (2, .int u34_2), (3, .int u34_3)] → W p l e ({ frames := 0, cells := 0, slots := 0, locals := 0 } : Room) s m (List.toArray [.ref h0, .int b1, .int b2, .int b3]) below meth c H locs 0 0 (MQ below (QvS G A (wW_X11_takeOn G h0 h1 h2 h3 y0_0 y0_1 y0_2 y0_3 y0_4 y0_6 y0_18 y0_21 y0_23 y0_24 y0_33 y0_34 y0_38 y0_39 y0_40 y0_41 y0_42 y0_43 y0_45 y0_46 y0_47 y0_48 x0_5 x0_7 x0_8 x0_9 x0_10 x0_11 x0_12 x0_13 x0_14 x0_15 x0_16 x0_17 x0_19 x0_20 x0_27 x0_28 x0_29 x0_30 x0_31 x0_32 x0_35 x0_36 x0_37 x0_44 x0_49 x0_50 e_a1 e_a2 e_a3)) (List.toArray [.ref h0, .int b1, .int b2, .int b3]) s 0 0 A) (F0 m 34 ls []) := by
    intro u34_1 u34_2 u34_3 a1_34 a2_34 a3_34 hf H locs hP hD hS ls hl
    refine lv_iload_n hx hb dX11_takeOn_34 rfl (lv_at hl 1 rfl) ?_
    refine lv_iload_n hx hb dX11_takeOn_35 rfl (lv_at hl 2 rfl) ?_
    refine lv_iconst (v := (1 : Int32)) hx hb dX11_takeOn_36 (by decide) ?_
    refine lv_isub hx hb dX11_takeOn_37 ?_
    refine lv_icmp_ne (tgt := 50) hx hb dX11_takeOn_38 (by decide) (fun c1 => ?_) (fun c1 => ?_)
    · have hf := of_neg hf c1
      cases hf
      exact ret_v hx hb hr hlk hK hP hD hS dX11_takeOn_50
    · have hf := of_pos hf c1
      refine lv_aload_n hx hb dX11_takeOn_41 rfl (lv_at hl 0 rfl) ?_
      refine va_get (ci := 11) (v := .ref h3) (C := RX11) (T := TX11) (N := 51) hx hb ht0 iX11 hown hK hP 0 rfl rfl 26 (by decide) (ht0 _ wd_1432) (fun _ h9 => h9) rfl dX11_takeOn_42 ?_
      refine lv_iload_n hx hb dX11_takeOn_45 rfl (lv_at hl 3 rfl) ?_
      refine lv_iconst (v := (1 : Int32)) hx hb dX11_takeOn_46 (by decide) ?_
      refine lv_ixor hx hb dX11_takeOn_47 ?_
      refine lv_iconst (v := (1 : Int32)) hx hb dX11_takeOn_48 (by decide) ?_
      obtain ⟨g2, hf⟩ := of_grd hf
      refine va_zast hx hb hK hP hD hS 3 1 rfl rfl g2 dX11_takeOn_49 (fun H locs hP hD hS => ?_)
      have hP : va_P G.1 vwCl (wW_X11_takeOn G h0 h1 h2 h3 y0_0 y0_1 y0_2 y0_3 y0_4 y0_6 y0_18 y0_21 y0_23 y0_24 y0_33 y0_34 y0_38 y0_39 y0_40 y0_41 y0_42 y0_43 y0_45 y0_46 y0_47 y0_48 x0_5 x0_7 x0_8 x0_9 x0_10 x0_11 x0_12 x0_13 x0_14 x0_15 x0_16 x0_17 x0_19 x0_20 x0_27 x0_28 x0_29 x0_30 x0_31 x0_32 x0_35 x0_36 x0_37 x0_44 x0_49 x0_50 a1_34 a2_34 (upd a3_34 (u34_3 ^^^ (1 : Int32)).toNatClampNeg (vp_nar .boolean (1 : Int32)))) H := hP
      have hD : va_D A (wW_X11_takeOn G h0 h1 h2 h3 y0_0 y0_1 y0_2 y0_3 y0_4 y0_6 y0_18 y0_21 y0_23 y0_24 y0_33 y0_34 y0_38 y0_39 y0_40 y0_41 y0_42 y0_43 y0_45 y0_46 y0_47 y0_48 x0_5 x0_7 x0_8 x0_9 x0_10 x0_11 x0_12 x0_13 x0_14 x0_15 x0_16 x0_17 x0_19 x0_20 x0_27 x0_28 x0_29 x0_30 x0_31 x0_32 x0_35 x0_36 x0_37 x0_44 x0_49 x0_50 a1_34 a2_34 (upd a3_34 (u34_3 ^^^ (1 : Int32)).toNatClampNeg (vp_nar .boolean (1 : Int32)))) := hD
      cases hf
      exact ret_v hx hb hr hlk hK hP hD hS dX11_takeOn_50
  refine lv_aload_n hx hb dX11_takeOn_0 rfl (lv_at hl 0 rfl) ?_
  refine va_get (ci := 11) (v := .ref h1) (C := RX11) (T := TX11) (N := 51) hx hb ht0 iX11 hown hK hP 0 rfl rfl 22 (by decide) (ht0 _ wd_1428) (fun _ h9 => h9) rfl dX11_takeOn_1 ?_
  refine lv_iload_n hx hb dX11_takeOn_4 rfl (lv_at hl 1 rfl) ?_
  refine lv_iload_n hx hb dX11_takeOn_5 rfl (lv_at hl 3 rfl) ?_
  obtain ⟨g3, hf⟩ := of_grd hf
  refine va_iast hx hb hK hP hD hS 1 0 rfl rfl g3 dX11_takeOn_6 (fun H locs hP hD hS => ?_)
  have hP : va_P G.1 vwCl (wW_X11_takeOn G h0 h1 h2 h3 y0_0 y0_1 y0_2 y0_3 y0_4 y0_6 y0_18 y0_21 y0_23 y0_24 y0_33 y0_34 y0_38 y0_39 y0_40 y0_41 y0_42 y0_43 y0_45 y0_46 y0_47 y0_48 x0_5 x0_7 x0_8 x0_9 x0_10 x0_11 x0_12 x0_13 x0_14 x0_15 x0_16 x0_17 x0_19 x0_20 x0_27 x0_28 x0_29 x0_30 x0_31 x0_32 x0_35 x0_36 x0_37 x0_44 x0_49 x0_50 (upd a1 b1.toNatClampNeg b3) a2 a3) H := hP
  have hD : va_D A (wW_X11_takeOn G h0 h1 h2 h3 y0_0 y0_1 y0_2 y0_3 y0_4 y0_6 y0_18 y0_21 y0_23 y0_24 y0_33 y0_34 y0_38 y0_39 y0_40 y0_41 y0_42 y0_43 y0_45 y0_46 y0_47 y0_48 x0_5 x0_7 x0_8 x0_9 x0_10 x0_11 x0_12 x0_13 x0_14 x0_15 x0_16 x0_17 x0_19 x0_20 x0_27 x0_28 x0_29 x0_30 x0_31 x0_32 x0_35 x0_36 x0_37 x0_44 x0_49 x0_50 (upd a1 b1.toNatClampNeg b3) a2 a3) := hD
  refine lv_aload_n hx hb dX11_takeOn_7 rfl (lv_at hl 0 rfl) ?_
  refine va_get (ci := 11) (v := .ref h2) (C := RX11) (T := TX11) (N := 51) hx hb ht0 iX11 hown hK hP 0 rfl rfl 25 (by decide) (ht0 _ wd_1431) (fun _ h9 => h9) rfl dX11_takeOn_8 ?_
  refine lv_iload_n hx hb dX11_takeOn_11 rfl (lv_at hl 3 rfl) ?_
  refine lv_iconst (v := (1 : Int32)) hx hb dX11_takeOn_12 (by decide) ?_
  obtain ⟨g4, hf⟩ := of_grd hf
  refine va_zast hx hb hK hP hD hS 2 1 rfl rfl g4 dX11_takeOn_13 (fun H locs hP hD hS => ?_)
  have hP : va_P G.1 vwCl (wW_X11_takeOn G h0 h1 h2 h3 y0_0 y0_1 y0_2 y0_3 y0_4 y0_6 y0_18 y0_21 y0_23 y0_24 y0_33 y0_34 y0_38 y0_39 y0_40 y0_41 y0_42 y0_43 y0_45 y0_46 y0_47 y0_48 x0_5 x0_7 x0_8 x0_9 x0_10 x0_11 x0_12 x0_13 x0_14 x0_15 x0_16 x0_17 x0_19 x0_20 x0_27 x0_28 x0_29 x0_30 x0_31 x0_32 x0_35 x0_36 x0_37 x0_44 x0_49 x0_50 (upd a1 b1.toNatClampNeg b3) (upd a2 b3.toNatClampNeg (vp_nar .boolean (1 : Int32))) a3) H := hP
  have hD : va_D A (wW_X11_takeOn G h0 h1 h2 h3 y0_0 y0_1 y0_2 y0_3 y0_4 y0_6 y0_18 y0_21 y0_23 y0_24 y0_33 y0_34 y0_38 y0_39 y0_40 y0_41 y0_42 y0_43 y0_45 y0_46 y0_47 y0_48 x0_5 x0_7 x0_8 x0_9 x0_10 x0_11 x0_12 x0_13 x0_14 x0_15 x0_16 x0_17 x0_19 x0_20 x0_27 x0_28 x0_29 x0_30 x0_31 x0_32 x0_35 x0_36 x0_37 x0_44 x0_49 x0_50 (upd a1 b1.toNatClampNeg b3) (upd a2 b3.toNatClampNeg (vp_nar .boolean (1 : Int32))) a3) := hD
  refine lv_iload_n hx hb dX11_takeOn_14 rfl (lv_at hl 1 rfl) ?_
  refine lv_if_le (tgt := 34) hx hb dX11_takeOn_15 (by decide) (fun c5 => ?_) (fun c5 => ?_)
  · have hf := of_pos hf c5
    exact kJ34 _ _ _ _ _ _ hf _ _ hP hD hS _ (lv_sub hl [0, 1, 2, 3] rfl)
  · have hf := of_neg hf c5
    refine lv_aload_n hx hb dX11_takeOn_18 rfl (lv_at hl 0 rfl) ?_
    refine va_get (ci := 11) (v := .ref h3) (C := RX11) (T := TX11) (N := 51) hx hb ht0 iX11 hown hK hP 0 rfl rfl 26 (by decide) (ht0 _ wd_1432) (fun _ h9 => h9) rfl dX11_takeOn_19 ?_
    refine lv_iload_n hx hb dX11_takeOn_22 rfl (lv_at hl 3 rfl) ?_
    refine lv_aload_n hx hb dX11_takeOn_23 rfl (lv_at hl 0 rfl) ?_
    refine va_get (ci := 11) (v := .ref h1) (C := RX11) (T := TX11) (N := 51) hx hb ht0 iX11 hown hK hP 0 rfl rfl 22 (by decide) (ht0 _ wd_1428) (fun _ h9 => h9) rfl dX11_takeOn_24 ?_
    refine lv_iload_n hx hb dX11_takeOn_27 rfl (lv_at hl 1 rfl) ?_
    refine lv_iconst (v := (1 : Int32)) hx hb dX11_takeOn_28 (by decide) ?_
    refine lv_isub hx hb dX11_takeOn_29 ?_
    obtain ⟨g6, hf⟩ := of_grd hf
    refine va_iald hx hb hK hP 1 0 rfl rfl g6 dX11_takeOn_30 ?_
    refine lv_ixor hx hb dX11_takeOn_31 ?_
    refine lv_iconst (v := (1 : Int32)) hx hb dX11_takeOn_32 (by decide) ?_
    obtain ⟨g7, hf⟩ := of_grd hf
    refine va_zast hx hb hK hP hD hS 3 1 rfl rfl g7 dX11_takeOn_33 (fun H locs hP hD hS => ?_)
    have hP : va_P G.1 vwCl (wW_X11_takeOn G h0 h1 h2 h3 y0_0 y0_1 y0_2 y0_3 y0_4 y0_6 y0_18 y0_21 y0_23 y0_24 y0_33 y0_34 y0_38 y0_39 y0_40 y0_41 y0_42 y0_43 y0_45 y0_46 y0_47 y0_48 x0_5 x0_7 x0_8 x0_9 x0_10 x0_11 x0_12 x0_13 x0_14 x0_15 x0_16 x0_17 x0_19 x0_20 x0_27 x0_28 x0_29 x0_30 x0_31 x0_32 x0_35 x0_36 x0_37 x0_44 x0_49 x0_50 (upd a1 b1.toNatClampNeg b3) (upd a2 b3.toNatClampNeg (vp_nar .boolean (1 : Int32))) (upd a3 (b3 ^^^ ((upd a1 b1.toNatClampNeg b3) (b1 - (1 : Int32)).toNatClampNeg)).toNatClampNeg (vp_nar .boolean (1 : Int32)))) H := hP
    have hD : va_D A (wW_X11_takeOn G h0 h1 h2 h3 y0_0 y0_1 y0_2 y0_3 y0_4 y0_6 y0_18 y0_21 y0_23 y0_24 y0_33 y0_34 y0_38 y0_39 y0_40 y0_41 y0_42 y0_43 y0_45 y0_46 y0_47 y0_48 x0_5 x0_7 x0_8 x0_9 x0_10 x0_11 x0_12 x0_13 x0_14 x0_15 x0_16 x0_17 x0_19 x0_20 x0_27 x0_28 x0_29 x0_30 x0_31 x0_32 x0_35 x0_36 x0_37 x0_44 x0_49 x0_50 (upd a1 b1.toNatClampNeg b3) (upd a2 b3.toNatClampNeg (vp_nar .boolean (1 : Int32))) (upd a3 (b3 ^^^ ((upd a1 b1.toNatClampNeg b3) (b1 - (1 : Int32)).toNatClampNeg)).toNatClampNeg (vp_nar .boolean (1 : Int32)))) := hD
    exact kJ34 _ _ _ _ _ _ hf _ _ hP hD hS _ (lv_sub hl [0, 1, 2, 3] rfl)
theorem yk_X11_takeOn : ykV yX11_takeOn RX11 cX11_takeOn 4 none 3 := ⟨wd_1361, wd_60, wd_142, wd_1362, rfl, by decide +kernel, by decide +kernel, by decide +kernel⟩
theorem dX11_choosePaired_0 : decode cX11_choosePaired 0 = .ok (.iconst 0, 1) := by decide +kernel
theorem dX11_choosePaired_1 : decode cX11_choosePaired 1 = .ok (.istore_n 3, 1) := by decide +kernel
theorem dX11_choosePaired_2 : decode cX11_choosePaired 2 = .ok (.iload_n 3, 1) := by decide +kernel
theorem dX11_choosePaired_3 : decode cX11_choosePaired 3 = .ok (.iconst 1, 1) := by decide +kernel
theorem dX11_choosePaired_4 : decode cX11_choosePaired 4 = .ok (.iadd, 1) := by decide +kernel
theorem dX11_choosePaired_5 : decode cX11_choosePaired 5 = .ok (.iload_n 2, 1) := by decide +kernel
theorem dX11_choosePaired_6 : decode cX11_choosePaired 6 = .ok (.if_icmp .ge 24, 3) := by decide +kernel
theorem dX11_choosePaired_9 : decode cX11_choosePaired 9 = .ok (.aload_n 0, 1) := by decide +kernel
theorem dX11_choosePaired_10 : decode cX11_choosePaired 10 = .ok (.getfield 52, 3) := by decide +kernel
theorem dX11_choosePaired_13 : decode cX11_choosePaired 13 = .ok (.iconst 1, 1) := by decide +kernel
theorem dX11_choosePaired_14 : decode cX11_choosePaired 14 = .ok (.iload_n 3, 1) := by decide +kernel
theorem dX11_choosePaired_15 : decode cX11_choosePaired 15 = .ok (.ishl, 1) := by decide +kernel
theorem dX11_choosePaired_16 : decode cX11_choosePaired 16 = .ok (.iconst 1, 1) := by decide +kernel
theorem dX11_choosePaired_17 : decode cX11_choosePaired 17 = .ok (.iload_n 3, 1) := by decide +kernel
theorem dX11_choosePaired_18 : decode cX11_choosePaired 18 = .ok (.iconst 1, 1) := by decide +kernel
theorem dX11_choosePaired_19 : decode cX11_choosePaired 19 = .ok (.iadd, 1) := by decide +kernel
theorem dX11_choosePaired_20 : decode cX11_choosePaired 20 = .ok (.ishl, 1) := by decide +kernel
theorem dX11_choosePaired_21 : decode cX11_choosePaired 21 = .ok (.ixor, 1) := by decide +kernel
theorem dX11_choosePaired_22 : decode cX11_choosePaired 22 = .ok (.iconst 1, 1) := by decide +kernel
theorem dX11_choosePaired_23 : decode cX11_choosePaired 23 = .ok (.bastore, 1) := by decide +kernel
theorem dX11_choosePaired_24 : decode cX11_choosePaired 24 = .ok (.iinc 3 1, 3) := by decide +kernel
theorem dX11_choosePaired_27 : decode cX11_choosePaired 27 = .ok (.goto (-25), 3) := by decide +kernel
theorem dX11_choosePaired_30 : decode cX11_choosePaired 30 = .ok (.aload_n 0, 1) := by decide +kernel
theorem dX11_choosePaired_31 : decode cX11_choosePaired 31 = .ok (.iconst 0, 1) := by decide +kernel
theorem dX11_choosePaired_32 : decode cX11_choosePaired 32 = .ok (.putfield 255, 3) := by decide +kernel
theorem dX11_choosePaired_35 : decode cX11_choosePaired 35 = .ok (.iconst 0, 1) := by decide +kernel
theorem dX11_choosePaired_36 : decode cX11_choosePaired 36 = .ok (.istore_n 3, 1) := by decide +kernel
theorem dX11_choosePaired_37 : decode cX11_choosePaired 37 = .ok (.aload_n 0, 1) := by decide +kernel
theorem dX11_choosePaired_38 : decode cX11_choosePaired 38 = .ok (.getfield 42, 3) := by decide +kernel
theorem dX11_choosePaired_41 : decode cX11_choosePaired 41 = .ok (.iconst 0, 1) := by decide +kernel
theorem dX11_choosePaired_42 : decode cX11_choosePaired 42 = .ok (.iconst (-1), 1) := by decide +kernel
theorem dX11_choosePaired_43 : decode cX11_choosePaired 43 = .ok (.iastore, 1) := by decide +kernel
theorem dX11_choosePaired_44 : decode cX11_choosePaired 44 = .ok (.iload_n 3, 1) := by decide +kernel
theorem dX11_choosePaired_45 : decode cX11_choosePaired 45 = .ok (.ifCond .lt 142, 3) := by decide +kernel
theorem dX11_choosePaired_48 : decode cX11_choosePaired 48 = .ok (.iload_n 3, 1) := by decide +kernel
theorem dX11_choosePaired_49 : decode cX11_choosePaired 49 = .ok (.iload_n 1, 1) := by decide +kernel
theorem dX11_choosePaired_50 : decode cX11_choosePaired 50 = .ok (.if_icmp .ge 137, 3) := by decide +kernel
theorem dX11_choosePaired_53 : decode cX11_choosePaired 53 = .ok (.aload_n 0, 1) := by decide +kernel
theorem dX11_choosePaired_54 : decode cX11_choosePaired 54 = .ok (.getfield 42, 3) := by decide +kernel
theorem dX11_choosePaired_57 : decode cX11_choosePaired 57 = .ok (.iload_n 3, 1) := by decide +kernel
theorem dX11_choosePaired_58 : decode cX11_choosePaired 58 = .ok (.iaload, 1) := by decide +kernel
theorem dX11_choosePaired_59 : decode cX11_choosePaired 59 = .ok (.ifCond .lt 9, 3) := by decide +kernel
theorem dX11_choosePaired_62 : decode cX11_choosePaired 62 = .ok (.aload_n 0, 1) := by decide +kernel
theorem dX11_choosePaired_63 : decode cX11_choosePaired 63 = .ok (.iload_n 3, 1) := by decide +kernel
theorem dX11_choosePaired_64 : decode cX11_choosePaired 64 = .ok (.iload_n 1, 1) := by decide +kernel
theorem dX11_choosePaired_65 : decode cX11_choosePaired 65 = .ok (.invokevirtual 258, 3) := by decide +kernel
theorem dX11_choosePaired_68 : decode cX11_choosePaired 68 = .ok (.aload_n 0, 1) := by decide +kernel
theorem dX11_choosePaired_69 : decode cX11_choosePaired 69 = .ok (.getfield 42, 3) := by decide +kernel
theorem dX11_choosePaired_72 : decode cX11_choosePaired 72 = .ok (.iload_n 3, 1) := by decide +kernel
theorem dX11_choosePaired_73 : decode cX11_choosePaired 73 = .ok (.iaload, 1) := by decide +kernel
theorem dX11_choosePaired_74 : decode cX11_choosePaired 74 = .ok (.iconst 1, 1) := by decide +kernel
theorem dX11_choosePaired_75 : decode cX11_choosePaired 75 = .ok (.iadd, 1) := by decide +kernel
theorem dX11_choosePaired_76 : decode cX11_choosePaired 76 = .ok (.istore 4, 2) := by decide +kernel
theorem dX11_choosePaired_78 : decode cX11_choosePaired 78 = .ok (.iload 4, 2) := by decide +kernel
theorem dX11_choosePaired_80 : decode cX11_choosePaired 80 = .ok (.aload_n 0, 1) := by decide +kernel
theorem dX11_choosePaired_81 : decode cX11_choosePaired 81 = .ok (.getfield 236, 3) := by decide +kernel
theorem dX11_choosePaired_84 : decode cX11_choosePaired 84 = .ok (.if_icmp .ge 37, 3) := by decide +kernel
theorem dX11_choosePaired_87 : decode cX11_choosePaired 87 = .ok (.aload_n 0, 1) := by decide +kernel
theorem dX11_choosePaired_88 : decode cX11_choosePaired 88 = .ok (.iload_n 3, 1) := by decide +kernel
theorem dX11_choosePaired_89 : decode cX11_choosePaired 89 = .ok (.iload_n 1, 1) := by decide +kernel
theorem dX11_choosePaired_90 : decode cX11_choosePaired 90 = .ok (.aload_n 0, 1) := by decide +kernel
theorem dX11_choosePaired_91 : decode cX11_choosePaired 91 = .ok (.getfield 36, 3) := by decide +kernel
theorem dX11_choosePaired_94 : decode cX11_choosePaired 94 = .ok (.iload 4, 2) := by decide +kernel
theorem dX11_choosePaired_96 : decode cX11_choosePaired 96 = .ok (.iaload, 1) := by decide +kernel
theorem dX11_choosePaired_97 : decode cX11_choosePaired 97 = .ok (.invokevirtual 262, 3) := by decide +kernel
theorem dX11_choosePaired_100 : decode cX11_choosePaired 100 = .ok (.ifCond .ne 21, 3) := by decide +kernel
theorem dX11_choosePaired_103 : decode cX11_choosePaired 103 = .ok (.aload_n 0, 1) := by decide +kernel
theorem dX11_choosePaired_104 : decode cX11_choosePaired 104 = .ok (.getfield 255, 3) := by decide +kernel
theorem dX11_choosePaired_107 : decode cX11_choosePaired 107 = .ok (.sipush 20000, 3) := by decide +kernel
theorem dX11_choosePaired_110 : decode cX11_choosePaired 110 = .ok (.if_icmp .le 5, 3) := by decide +kernel
theorem dX11_choosePaired_113 : decode cX11_choosePaired 113 = .ok (.iconst 0, 1) := by decide +kernel
theorem dX11_choosePaired_114 : decode cX11_choosePaired 114 = .ok (.ireturn, 1) := by decide +kernel
theorem dX11_choosePaired_115 : decode cX11_choosePaired 115 = .ok (.iinc 4 1, 3) := by decide +kernel
theorem dX11_choosePaired_118 : decode cX11_choosePaired 118 = .ok (.goto (-40), 3) := by decide +kernel
theorem dX11_choosePaired_121 : decode cX11_choosePaired 121 = .ok (.aload_n 0, 1) := by decide +kernel
theorem dX11_choosePaired_122 : decode cX11_choosePaired 122 = .ok (.getfield 255, 3) := by decide +kernel
theorem dX11_choosePaired_125 : decode cX11_choosePaired 125 = .ok (.sipush 20000, 3) := by decide +kernel
theorem dX11_choosePaired_128 : decode cX11_choosePaired 128 = .ok (.if_icmp .le 5, 3) := by decide +kernel
theorem dX11_choosePaired_131 : decode cX11_choosePaired 131 = .ok (.iconst 0, 1) := by decide +kernel
theorem dX11_choosePaired_132 : decode cX11_choosePaired 132 = .ok (.ireturn, 1) := by decide +kernel
theorem dX11_choosePaired_133 : decode cX11_choosePaired 133 = .ok (.iload 4, 2) := by decide +kernel
theorem dX11_choosePaired_135 : decode cX11_choosePaired 135 = .ok (.aload_n 0, 1) := by decide +kernel
theorem dX11_choosePaired_136 : decode cX11_choosePaired 136 = .ok (.getfield 236, 3) := by decide +kernel
theorem dX11_choosePaired_139 : decode cX11_choosePaired 139 = .ok (.if_icmp .ne 9, 3) := by decide +kernel
theorem dX11_choosePaired_142 : decode cX11_choosePaired 142 = .ok (.iinc 3 (-1), 3) := by decide +kernel
theorem dX11_choosePaired_145 : decode cX11_choosePaired 145 = .ok (.goto (-101), 3) := by decide +kernel
theorem dX11_choosePaired_148 : decode cX11_choosePaired 148 = .ok (.aload_n 0, 1) := by decide +kernel
theorem dX11_choosePaired_149 : decode cX11_choosePaired 149 = .ok (.getfield 42, 3) := by decide +kernel
theorem dX11_choosePaired_152 : decode cX11_choosePaired 152 = .ok (.iload_n 3, 1) := by decide +kernel
theorem dX11_choosePaired_153 : decode cX11_choosePaired 153 = .ok (.iload 4, 2) := by decide +kernel
theorem dX11_choosePaired_155 : decode cX11_choosePaired 155 = .ok (.iastore, 1) := by decide +kernel
theorem dX11_choosePaired_156 : decode cX11_choosePaired 156 = .ok (.aload_n 0, 1) := by decide +kernel
theorem dX11_choosePaired_157 : decode cX11_choosePaired 157 = .ok (.iload_n 3, 1) := by decide +kernel
theorem dX11_choosePaired_158 : decode cX11_choosePaired 158 = .ok (.iload_n 1, 1) := by decide +kernel
theorem dX11_choosePaired_159 : decode cX11_choosePaired 159 = .ok (.aload_n 0, 1) := by decide +kernel
theorem dX11_choosePaired_160 : decode cX11_choosePaired 160 = .ok (.getfield 36, 3) := by decide +kernel
theorem dX11_choosePaired_163 : decode cX11_choosePaired 163 = .ok (.iload 4, 2) := by decide +kernel
theorem dX11_choosePaired_165 : decode cX11_choosePaired 165 = .ok (.iaload, 1) := by decide +kernel
theorem dX11_choosePaired_166 : decode cX11_choosePaired 166 = .ok (.invokevirtual 265, 3) := by decide +kernel
theorem dX11_choosePaired_169 : decode cX11_choosePaired 169 = .ok (.iinc 3 1, 3) := by decide +kernel
theorem dX11_choosePaired_172 : decode cX11_choosePaired 172 = .ok (.iload_n 3, 1) := by decide +kernel
theorem dX11_choosePaired_173 : decode cX11_choosePaired 173 = .ok (.iload_n 1, 1) := by decide +kernel
theorem dX11_choosePaired_174 : decode cX11_choosePaired 174 = .ok (.if_icmp .ge 10, 3) := by decide +kernel
theorem dX11_choosePaired_177 : decode cX11_choosePaired 177 = .ok (.aload_n 0, 1) := by decide +kernel
theorem dX11_choosePaired_178 : decode cX11_choosePaired 178 = .ok (.getfield 42, 3) := by decide +kernel
theorem dX11_choosePaired_181 : decode cX11_choosePaired 181 = .ok (.iload_n 3, 1) := by decide +kernel
theorem dX11_choosePaired_182 : decode cX11_choosePaired 182 = .ok (.iconst (-1), 1) := by decide +kernel
theorem dX11_choosePaired_183 : decode cX11_choosePaired 183 = .ok (.iastore, 1) := by decide +kernel
theorem dX11_choosePaired_184 : decode cX11_choosePaired 184 = .ok (.goto (-140), 3) := by decide +kernel
theorem dX11_choosePaired_187 : decode cX11_choosePaired 187 = .ok (.iload_n 3, 1) := by decide +kernel
theorem dX11_choosePaired_188 : decode cX11_choosePaired 188 = .ok (.iload_n 1, 1) := by decide +kernel
theorem dX11_choosePaired_189 : decode cX11_choosePaired 189 = .ok (.if_icmp .ne 7, 3) := by decide +kernel
theorem dX11_choosePaired_192 : decode cX11_choosePaired 192 = .ok (.iconst 1, 1) := by decide +kernel
theorem dX11_choosePaired_193 : decode cX11_choosePaired 193 = .ok (.goto 4, 3) := by decide +kernel
theorem dX11_choosePaired_196 : decode cX11_choosePaired 196 = .ok (.iconst 0, 1) := by decide +kernel
theorem dX11_choosePaired_197 : decode cX11_choosePaired 197 = .ok (.ireturn, 1) := by decide +kernel
def wW_X11_choosePaired (G : GG) (h0 h1 h2 h3 h4 h5 y0_0 y0_1 y0_2 y0_3 y0_4 y0_6 y0_18 y0_24 y0_33 y0_34 y0_38 y0_39 y0_40 y0_41 y0_42 y0_43 y0_45 y0_46 y0_47 y0_48 : Nat) (x0_5 : Int32) (x0_7 : Int32) (x0_8 : Int32) (x0_9 : Int32) (x0_10 : Int32) (x0_11 : Int32) (x0_12 : Int32) (x0_13 : Int32) (x0_14 : Int32) (x0_15 : Int32) (x0_16 : Int32) (x0_17 : Int32) (x0_19 : Int32) (x0_20 : Int32) (x0_27 : Int32) (x0_28 : Int32) (x0_29 : Int32) (x0_30 : Int32) (x0_31 : Int32) (x0_32 : Int32) (x0_35 : Int32) (x0_36 : Int32) (x0_37 : Int32) (x0_44 : Int32) (x0_49 : Int32) (x0_50 : Int32) (a1 : Nat → Int32) (a2 : Nat → Int32) (a3 : Nat → Int32) (a4 : Nat → Int32) (a5 : Nat → Int32) : va_W := [(h0, .inr (11, [.ref y0_0, .ref y0_1, .ref y0_2, .ref y0_3, .ref y0_4, .int x0_5, .ref y0_6, .int x0_7, .int x0_8, .int x0_9, .int x0_10, .int x0_11, .int x0_12, .int x0_13, .int x0_14, .int x0_15, .int x0_16, .int x0_17, .ref y0_18, .int x0_19, .int x0_20, .ref h1, .ref h2, .ref h3, .ref y0_24, .ref h4, .ref h5, .int x0_27, .int x0_28, .int x0_29, .int x0_30, .int x0_31, .int x0_32, .ref y0_33, .ref y0_34, .int x0_35, .int x0_36, .int x0_37, .ref y0_38, .ref y0_39, .ref y0_40, .ref y0_41, .ref y0_42, .ref y0_43, .int x0_44, .ref y0_45, .ref y0_46, .ref y0_47, .ref y0_48, .int x0_49, .int x0_50])), (h1, .inl (G.2.1, 128, .inl a1)), (h2, .inl (G.2.1, 32, .inl a2)), (h3, .inl (G.2.1, 32, .inl a3)), (h4, .inl (G.2.2.1, 256, .inl a4)), (h5, .inl (G.2.2.1, 256, .inl a5))]
set_option maxHeartbeats 4000000 in
set_option maxRecDepth 100000 in
theorem c_X11_choosePaired (l : Launch) (G : GG) (h0 h1 h2 h3 h4 h5 y0_0 y0_1 y0_2 y0_3 y0_4 y0_6 y0_18 y0_24 y0_33 y0_34 y0_38 y0_39 y0_40 y0_41 y0_42 y0_43 y0_45 y0_46 y0_47 y0_48 : Nat) (sz : Nat) (x0_5 : Int32) (x0_7 : Int32) (x0_8 : Int32) (x0_9 : Int32) (x0_10 : Int32) (x0_11 : Int32) (x0_12 : Int32) (x0_13 : Int32) (x0_14 : Int32) (x0_15 : Int32) (x0_16 : Int32) (x0_17 : Int32) (x0_19 : Int32) (x0_20 : Int32) (x0_27 : Int32) (x0_28 : Int32) (x0_29 : Int32) (x0_30 : Int32) (x0_31 : Int32) (x0_32 : Int32) (x0_35 : Int32) (x0_36 : Int32) (x0_37 : Int32) (x0_44 : Int32) (x0_49 : Int32) (x0_50 : Int32) (a1 : Nat → Int32) (a2 : Nat → Int32) (a3 : Nat → Int32) (a4 : Nat → Int32) (a5 : Nat → Int32) (F : Nat) (b1 : Int32) (b2 : Int32)  (r0 : Int32) (e_x0_28 : Int32) (e_a2 : Nat → Int32) (e_a3 : Nat → Int32) (e_a4 : Nat → Int32) (e_a5 : Nat → Int32) (hf : p_X11_choosePaired F x0_27 x0_28 a1 a2 a3 a4 a5 b1 b2 = some (r0, e_x0_28, e_a2, e_a3, e_a4, e_a5)) : Met l yX11_choosePaired (.code yX11_choosePaired cX11_choosePaired 5 (some .boolean) :: gtbl) ({ frames := 1, cells := 0, slots := 0, locals := 25 } : Room) (PcS G [.ref h0, .int b1, .int b2] (wW_X11_choosePaired G h0 h1 h2 h3 h4 h5 y0_0 y0_1 y0_2 y0_3 y0_4 y0_6 y0_18 y0_24 y0_33 y0_34 y0_38 y0_39 y0_40 y0_41 y0_42 y0_43 y0_45 y0_46 y0_47 y0_48 x0_5 x0_7 x0_8 x0_9 x0_10 x0_11 x0_12 x0_13 x0_14 x0_15 x0_16 x0_17 x0_19 x0_20 x0_27 x0_28 x0_29 x0_30 x0_31 x0_32 x0_35 x0_36 x0_37 x0_44 x0_49 x0_50 a1 a2 a3 a4 a5) sz) (QiS G r0 (va_A (wW_X11_choosePaired G h0 h1 h2 h3 h4 h5 y0_0 y0_1 y0_2 y0_3 y0_4 y0_6 y0_18 y0_24 y0_33 y0_34 y0_38 y0_39 y0_40 y0_41 y0_42 y0_43 y0_45 y0_46 y0_47 y0_48 x0_5 x0_7 x0_8 x0_9 x0_10 x0_11 x0_12 x0_13 x0_14 x0_15 x0_16 x0_17 x0_19 x0_20 x0_27 x0_28 x0_29 x0_30 x0_31 x0_32 x0_35 x0_36 x0_37 x0_44 x0_49 x0_50 a1 a2 a3 a4 a5) sz) (wW_X11_choosePaired G h0 h1 h2 h3 h4 h5 y0_0 y0_1 y0_2 y0_3 y0_4 y0_6 y0_18 y0_24 y0_33 y0_34 y0_38 y0_39 y0_40 y0_41 y0_42 y0_43 y0_45 y0_46 y0_47 y0_48 x0_5 x0_7 x0_8 x0_9 x0_10 x0_11 x0_12 x0_13 x0_14 x0_15 x0_16 x0_17 x0_19 x0_20 x0_27 e_x0_28 x0_29 x0_30 x0_31 x0_32 x0_35 x0_36 x0_37 x0_44 x0_49 x0_50 a1 e_a2 e_a3 e_a4 e_a5)) 0 0 (va_A (wW_X11_choosePaired G h0 h1 h2 h3 h4 h5 y0_0 y0_1 y0_2 y0_3 y0_4 y0_6 y0_18 y0_24 y0_33 y0_34 y0_38 y0_39 y0_40 y0_41 y0_42 y0_43 y0_45 y0_46 y0_47 y0_48 x0_5 x0_7 x0_8 x0_9 x0_10 x0_11 x0_12 x0_13 x0_14 x0_15 x0_16 x0_17 x0_19 x0_20 x0_27 x0_28 x0_29 x0_30 x0_31 x0_32 x0_35 x0_36 x0_37 x0_44 x0_49 x0_50 a1 a2 a3 a4 a5) sz) := by
  refine met_start (by decide) (Nat.le_of_ble_eq_true rfl) ?_
  intro p e s m below meth c hC hr hlk hnm hK hP hD hA hS hX ls hl
  obtain ⟨hx, hb, hml, hown, ht0⟩ := hC
  have hown : s.vm.findClass RX11 = some m.cls := hown
  generalize va_A (wW_X11_choosePaired G h0 h1 h2 h3 h4 h5 y0_0 y0_1 y0_2 y0_3 y0_4 y0_6 y0_18 y0_24 y0_33 y0_34 y0_38 y0_39 y0_40 y0_41 y0_42 y0_43 y0_45 y0_46 y0_47 y0_48 x0_5 x0_7 x0_8 x0_9 x0_10 x0_11 x0_12 x0_13 x0_14 x0_15 x0_16 x0_17 x0_19 x0_20 x0_27 x0_28 x0_29 x0_30 x0_31 x0_32 x0_35 x0_36 x0_37 x0_44 x0_49 x0_50 a1 a2 a3 a4 a5) sz = A at hD hA hS hX ⊢
  have hl : lv_has ls 5 [(0, .ref h0), (1, .int b1), (2, .int b2)] := hl
  have hf : p_X11_choosePaired F x0_27 x0_28 a1 a2 a3 a4 a5 b1 b2 = some (r0, e_x0_28, e_a2, e_a3, e_a4, e_a5) := hf
  have kJ187 : ∀ (u187_1 : Int32) (u187_3 : Int32) (x0_28_187 : Int32) (a2_187 : Nat → Int32) (a3_187 : Nat → Int32) (a4_187 : Nat → Int32) (a5_187 : Nat → Int32), p_X11_choosePaired_J187 F x0_27 a1 u187_1 u187_3 x0_28_187 a2_187 a3_187 a4_187 a5_187 = some (r0, e_x0_28, e_a2, e_a3, e_a4, e_a5) → ∀ (H : Heap) (locs : List Loc), va_P G.1 vwCl (wW_X11_choosePaired G h0 h1 h2 h3 h4 h5 y0_0 y0_1 y0_2 y0_3 y0_4 y0_6 y0_18 y0_24 y0_33 y0_34 y0_38 y0_39 y0_40 y0_41 y0_42 y0_43 y0_45 y0_46 y0_47 y0_48 x0_5 x0_7 x0_8 x0_9 x0_10 x0_11 x0_12 x0_13 x0_14 x0_15 x0_16 x0_17 x0_19 x0_20 x0_27 x0_28_187 x0_29 x0_30 x0_31 x0_32 x0_35 x0_36 x0_37 x0_44 x0_49 x0_50 a1 a2_187 a3_187 a4_187 a5_187) H → va_D A (wW_X11_choosePaired G h0 h1 h2 h3 h4 h5 y0_0 y0_1 y0_2 y0_3 y0_4 y0_6 y0_18 y0_24 y0_33 y0_34 y0_38 y0_39 y0_40 y0_41 y0_42 y0_43 y0_45 y0_46 y0_47 y0_48 x0_5 x0_7 x0_8 x0_9 x0_10 x0_11 x0_12 x0_13 x0_14 x0_15 x0_16 x0_17 x0_19 x0_20 x0_27 x0_28_187 x0_29 x0_30 x0_31 x0_32 x0_35 x0_36 x0_37 x0_44 x0_49 x0_50 a1 a2_187 a3_187 a4_187 a5_187) → va_S A s.heap H locs → ∀ ls : Array Slot, lv_has ls 5 [(1, .int u187_1), (3, .int u187_3)] → W p l e ({ frames := 1, cells := 0, slots := 0, locals := 25 } : Room) s m (List.toArray [.ref h0, .int b1, .int b2]) below meth c H locs 0 0 (MQ below (QiS G r0 A (wW_X11_choosePaired G h0 h1 h2 h3 h4 h5 y0_0 y0_1 y0_2 y0_3 y0_4 y0_6 y0_18 y0_24 y0_33 y0_34 y0_38 y0_39 y0_40 y0_41 y0_42 y0_43 y0_45 y0_46 y0_47 y0_48 x0_5 x0_7 x0_8 x0_9 x0_10 x0_11 x0_12 x0_13 x0_14 x0_15 x0_16 x0_17 x0_19 x0_20 x0_27 e_x0_28 x0_29 x0_30 x0_31 x0_32 x0_35 x0_36 x0_37 x0_44 x0_49 x0_50 a1 e_a2 e_a3 e_a4 e_a5)) (List.toArray [.ref h0, .int b1, .int b2]) s 0 0 A) (F0 m 187 ls []) := by
    intro u187_1 u187_3 x0_28_187 a2_187 a3_187 a4_187 a5_187 hf H locs hP hD hS ls hl
    refine lv_iload_n hx hb dX11_choosePaired_187 rfl (lv_at hl 1 rfl) ?_
    refine lv_iload_n hx hb dX11_choosePaired_188 rfl (lv_at hl 0 rfl) ?_
    refine lv_icmp_ne (tgt := 196) hx hb dX11_choosePaired_189 (by decide) (fun c1 => ?_) (fun c1 => ?_)
    · have hf := of_neg hf c1
      refine lv_iconst (v := (0 : Int32)) hx hb dX11_choosePaired_196 (by decide) ?_
      cases hf
      exact ret_z hx hb hr hlk hK hP hD hS (by decide) dX11_choosePaired_197
    · have hf := of_pos hf c1
      refine lv_iconst (v := (1 : Int32)) hx hb dX11_choosePaired_192 (by decide) ?_
      refine lv_goto (tgt := 197) hx hb dX11_choosePaired_193 (by decide) ?_
      cases hf
      exact ret_z hx hb hr hlk hK hP hD hS (by decide) dX11_choosePaired_197
  have kL44 : ∀ (c44_1 : Int32) (n44 : Nat) (u44_3 : Int32) (x0_28_44 : Int32) (a2_44 : Nat → Int32) (a3_44 : Nat → Int32) (a4_44 : Nat → Int32) (a5_44 : Nat → Int32), p_X11_choosePaired_L44 F x0_27 a1 c44_1 n44 u44_3 x0_28_44 a2_44 a3_44 a4_44 a5_44 = some (r0, e_x0_28, e_a2, e_a3, e_a4, e_a5) → ∀ (H : Heap) (locs : List Loc), va_P G.1 vwCl (wW_X11_choosePaired G h0 h1 h2 h3 h4 h5 y0_0 y0_1 y0_2 y0_3 y0_4 y0_6 y0_18 y0_24 y0_33 y0_34 y0_38 y0_39 y0_40 y0_41 y0_42 y0_43 y0_45 y0_46 y0_47 y0_48 x0_5 x0_7 x0_8 x0_9 x0_10 x0_11 x0_12 x0_13 x0_14 x0_15 x0_16 x0_17 x0_19 x0_20 x0_27 x0_28_44 x0_29 x0_30 x0_31 x0_32 x0_35 x0_36 x0_37 x0_44 x0_49 x0_50 a1 a2_44 a3_44 a4_44 a5_44) H → va_D A (wW_X11_choosePaired G h0 h1 h2 h3 h4 h5 y0_0 y0_1 y0_2 y0_3 y0_4 y0_6 y0_18 y0_24 y0_33 y0_34 y0_38 y0_39 y0_40 y0_41 y0_42 y0_43 y0_45 y0_46 y0_47 y0_48 x0_5 x0_7 x0_8 x0_9 x0_10 x0_11 x0_12 x0_13 x0_14 x0_15 x0_16 x0_17 x0_19 x0_20 x0_27 x0_28_44 x0_29 x0_30 x0_31 x0_32 x0_35 x0_36 x0_37 x0_44 x0_49 x0_50 a1 a2_44 a3_44 a4_44 a5_44) → va_S A s.heap H locs → ∀ ls : Array Slot, lv_has ls 5 [(0, .ref h0), (1, .int c44_1), (3, .int u44_3)] → W p l e ({ frames := 1, cells := 0, slots := 0, locals := 25 } : Room) s m (List.toArray [.ref h0, .int b1, .int b2]) below meth c H locs 0 0 (MQ below (QiS G r0 A (wW_X11_choosePaired G h0 h1 h2 h3 h4 h5 y0_0 y0_1 y0_2 y0_3 y0_4 y0_6 y0_18 y0_24 y0_33 y0_34 y0_38 y0_39 y0_40 y0_41 y0_42 y0_43 y0_45 y0_46 y0_47 y0_48 x0_5 x0_7 x0_8 x0_9 x0_10 x0_11 x0_12 x0_13 x0_14 x0_15 x0_16 x0_17 x0_19 x0_20 x0_27 e_x0_28 x0_29 x0_30 x0_31 x0_32 x0_35 x0_36 x0_37 x0_44 x0_49 x0_50 a1 e_a2 e_a3 e_a4 e_a5)) (List.toArray [.ref h0, .int b1, .int b2]) s 0 0 A) (F0 m 44 ls []) := by
    intro c44_1 n44
    induction n44 with
    | zero =>
      intro u44_3 x0_28_44 a2_44 a3_44 a4_44 a5_44 hf
      cases hf
    | succ n44 ih44 =>
      have kJ184 : ∀ (u184_3 : Int32) (x0_28_184 : Int32) (a2_184 : Nat → Int32) (a3_184 : Nat → Int32) (a4_184 : Nat → Int32) (a5_184 : Nat → Int32), p_X11_choosePaired_J184 F x0_27 a1 c44_1 (p_X11_choosePaired_L44 F x0_27 a1 c44_1 n44) u184_3 x0_28_184 a2_184 a3_184 a4_184 a5_184 = some (r0, e_x0_28, e_a2, e_a3, e_a4, e_a5) → ∀ (H : Heap) (locs : List Loc), va_P G.1 vwCl (wW_X11_choosePaired G h0 h1 h2 h3 h4 h5 y0_0 y0_1 y0_2 y0_3 y0_4 y0_6 y0_18 y0_24 y0_33 y0_34 y0_38 y0_39 y0_40 y0_41 y0_42 y0_43 y0_45 y0_46 y0_47 y0_48 x0_5 x0_7 x0_8 x0_9 x0_10 x0_11 x0_12 x0_13 x0_14 x0_15 x0_16 x0_17 x0_19 x0_20 x0_27 x0_28_184 x0_29 x0_30 x0_31 x0_32 x0_35 x0_36 x0_37 x0_44 x0_49 x0_50 a1 a2_184 a3_184 a4_184 a5_184) H → va_D A (wW_X11_choosePaired G h0 h1 h2 h3 h4 h5 y0_0 y0_1 y0_2 y0_3 y0_4 y0_6 y0_18 y0_24 y0_33 y0_34 y0_38 y0_39 y0_40 y0_41 y0_42 y0_43 y0_45 y0_46 y0_47 y0_48 x0_5 x0_7 x0_8 x0_9 x0_10 x0_11 x0_12 x0_13 x0_14 x0_15 x0_16 x0_17 x0_19 x0_20 x0_27 x0_28_184 x0_29 x0_30 x0_31 x0_32 x0_35 x0_36 x0_37 x0_44 x0_49 x0_50 a1 a2_184 a3_184 a4_184 a5_184) → va_S A s.heap H locs → ∀ ls : Array Slot, lv_has ls 5 [(0, .ref h0), (1, .int c44_1), (3, .int u184_3)] → W p l e ({ frames := 1, cells := 0, slots := 0, locals := 25 } : Room) s m (List.toArray [.ref h0, .int b1, .int b2]) below meth c H locs 0 0 (MQ below (QiS G r0 A (wW_X11_choosePaired G h0 h1 h2 h3 h4 h5 y0_0 y0_1 y0_2 y0_3 y0_4 y0_6 y0_18 y0_24 y0_33 y0_34 y0_38 y0_39 y0_40 y0_41 y0_42 y0_43 y0_45 y0_46 y0_47 y0_48 x0_5 x0_7 x0_8 x0_9 x0_10 x0_11 x0_12 x0_13 x0_14 x0_15 x0_16 x0_17 x0_19 x0_20 x0_27 e_x0_28 x0_29 x0_30 x0_31 x0_32 x0_35 x0_36 x0_37 x0_44 x0_49 x0_50 a1 e_a2 e_a3 e_a4 e_a5)) (List.toArray [.ref h0, .int b1, .int b2]) s 0 0 A) (F0 m 184 ls []) := by
        intro u184_3 x0_28_184 a2_184 a3_184 a4_184 a5_184 hf H locs hP hD hS ls hl
        refine lv_goto (tgt := 44) hx hb dX11_choosePaired_184 (by decide) ?_
        exact ih44 _ _ _ _ _ _ hf _ _ hP hD hS _ (lv_sub hl [0, 1, 2] rfl)
      have kJ121 : ∀ (u121_3 : Int32) (u121_4 : Int32) (x0_28_121 : Int32) (a2_121 : Nat → Int32) (a3_121 : Nat → Int32) (a4_121 : Nat → Int32) (a5_121 : Nat → Int32), p_X11_choosePaired_J121 F x0_27 a1 c44_1 (p_X11_choosePaired_L44 F x0_27 a1 c44_1 n44) u121_3 u121_4 x0_28_121 a2_121 a3_121 a4_121 a5_121 = some (r0, e_x0_28, e_a2, e_a3, e_a4, e_a5) → ∀ (H : Heap) (locs : List Loc), va_P G.1 vwCl (wW_X11_choosePaired G h0 h1 h2 h3 h4 h5 y0_0 y0_1 y0_2 y0_3 y0_4 y0_6 y0_18 y0_24 y0_33 y0_34 y0_38 y0_39 y0_40 y0_41 y0_42 y0_43 y0_45 y0_46 y0_47 y0_48 x0_5 x0_7 x0_8 x0_9 x0_10 x0_11 x0_12 x0_13 x0_14 x0_15 x0_16 x0_17 x0_19 x0_20 x0_27 x0_28_121 x0_29 x0_30 x0_31 x0_32 x0_35 x0_36 x0_37 x0_44 x0_49 x0_50 a1 a2_121 a3_121 a4_121 a5_121) H → va_D A (wW_X11_choosePaired G h0 h1 h2 h3 h4 h5 y0_0 y0_1 y0_2 y0_3 y0_4 y0_6 y0_18 y0_24 y0_33 y0_34 y0_38 y0_39 y0_40 y0_41 y0_42 y0_43 y0_45 y0_46 y0_47 y0_48 x0_5 x0_7 x0_8 x0_9 x0_10 x0_11 x0_12 x0_13 x0_14 x0_15 x0_16 x0_17 x0_19 x0_20 x0_27 x0_28_121 x0_29 x0_30 x0_31 x0_32 x0_35 x0_36 x0_37 x0_44 x0_49 x0_50 a1 a2_121 a3_121 a4_121 a5_121) → va_S A s.heap H locs → ∀ ls : Array Slot, lv_has ls 5 [(0, .ref h0), (1, .int c44_1), (3, .int u121_3), (4, .int u121_4)] → W p l e ({ frames := 1, cells := 0, slots := 0, locals := 25 } : Room) s m (List.toArray [.ref h0, .int b1, .int b2]) below meth c H locs 0 0 (MQ below (QiS G r0 A (wW_X11_choosePaired G h0 h1 h2 h3 h4 h5 y0_0 y0_1 y0_2 y0_3 y0_4 y0_6 y0_18 y0_24 y0_33 y0_34 y0_38 y0_39 y0_40 y0_41 y0_42 y0_43 y0_45 y0_46 y0_47 y0_48 x0_5 x0_7 x0_8 x0_9 x0_10 x0_11 x0_12 x0_13 x0_14 x0_15 x0_16 x0_17 x0_19 x0_20 x0_27 e_x0_28 x0_29 x0_30 x0_31 x0_32 x0_35 x0_36 x0_37 x0_44 x0_49 x0_50 a1 e_a2 e_a3 e_a4 e_a5)) (List.toArray [.ref h0, .int b1, .int b2]) s 0 0 A) (F0 m 121 ls []) := by
        intro u121_3 u121_4 x0_28_121 a2_121 a3_121 a4_121 a5_121 hf H locs hP hD hS ls hl
        refine lv_aload_n hx hb dX11_choosePaired_121 rfl (lv_at hl 0 rfl) ?_
        refine va_get (ci := 11) (v := .int x0_28_121) (C := RX11) (T := TX11) (N := 51) hx hb ht0 iX11 hown hK hP 0 rfl rfl 28 (by decide) (ht0 _ wd_1434) (fun _ h9 => h9) rfl dX11_choosePaired_122 ?_
        refine lv_sipush (v := (20000 : Int32)) hx hb dX11_choosePaired_125 (by decide) ?_
        refine lv_icmp_le (tgt := 133) hx hb dX11_choosePaired_128 (by decide) (fun c2 => ?_) (fun c2 => ?_)
        · have hf := of_pos hf c2
          refine lv_iload hx hb dX11_choosePaired_133 (lv_at hl 3 rfl) ?_
          refine lv_aload_n hx hb dX11_choosePaired_135 rfl (lv_at hl 0 rfl) ?_
          refine va_get (ci := 11) (v := .int x0_27) (C := RX11) (T := TX11) (N := 51) hx hb ht0 iX11 hown hK hP 0 rfl rfl 27 (by decide) (ht0 _ wd_1433) (fun _ h9 => h9) rfl dX11_choosePaired_136 ?_
          refine lv_icmp_ne (tgt := 148) hx hb dX11_choosePaired_139 (by decide) (fun c3 => ?_) (fun c3 => ?_)
          · have hf := of_neg hf c3
            refine lv_aload_n hx hb dX11_choosePaired_148 rfl (lv_at hl 0 rfl) ?_
            refine va_get (ci := 11) (v := .ref h3) (C := RX11) (T := TX11) (N := 51) hx hb ht0 iX11 hown hK hP 0 rfl rfl 23 (by decide) (ht0 _ wd_1429) (fun _ h9 => h9) rfl dX11_choosePaired_149 ?_
            refine lv_iload_n hx hb dX11_choosePaired_152 rfl (lv_at hl 2 rfl) ?_
            refine lv_iload hx hb dX11_choosePaired_153 (lv_at hl 3 rfl) ?_
            obtain ⟨g4, hf⟩ := of_grd hf
            refine va_iast hx hb hK hP hD hS 3 0 rfl rfl g4 dX11_choosePaired_155 (fun H locs hP hD hS => ?_)
            have hP : va_P G.1 vwCl (wW_X11_choosePaired G h0 h1 h2 h3 h4 h5 y0_0 y0_1 y0_2 y0_3 y0_4 y0_6 y0_18 y0_24 y0_33 y0_34 y0_38 y0_39 y0_40 y0_41 y0_42 y0_43 y0_45 y0_46 y0_47 y0_48 x0_5 x0_7 x0_8 x0_9 x0_10 x0_11 x0_12 x0_13 x0_14 x0_15 x0_16 x0_17 x0_19 x0_20 x0_27 x0_28_121 x0_29 x0_30 x0_31 x0_32 x0_35 x0_36 x0_37 x0_44 x0_49 x0_50 a1 a2_121 (upd a3_121 u121_3.toNatClampNeg u121_4) a4_121 a5_121) H := hP
            have hD : va_D A (wW_X11_choosePaired G h0 h1 h2 h3 h4 h5 y0_0 y0_1 y0_2 y0_3 y0_4 y0_6 y0_18 y0_24 y0_33 y0_34 y0_38 y0_39 y0_40 y0_41 y0_42 y0_43 y0_45 y0_46 y0_47 y0_48 x0_5 x0_7 x0_8 x0_9 x0_10 x0_11 x0_12 x0_13 x0_14 x0_15 x0_16 x0_17 x0_19 x0_20 x0_27 x0_28_121 x0_29 x0_30 x0_31 x0_32 x0_35 x0_36 x0_37 x0_44 x0_49 x0_50 a1 a2_121 (upd a3_121 u121_3.toNatClampNeg u121_4) a4_121 a5_121) := hD
            refine lv_aload_n hx hb dX11_choosePaired_156 rfl (lv_at hl 0 rfl) ?_
            refine lv_iload_n hx hb dX11_choosePaired_157 rfl (lv_at hl 2 rfl) ?_
            refine lv_iload_n hx hb dX11_choosePaired_158 rfl (lv_at hl 1 rfl) ?_
            refine lv_aload_n hx hb dX11_choosePaired_159 rfl (lv_at hl 0 rfl) ?_
            refine va_get (ci := 11) (v := .ref h1) (C := RX11) (T := TX11) (N := 51) hx hb ht0 iX11 hown hK hP 0 rfl rfl 21 (by decide) (ht0 _ wd_1427) (fun _ h9 => h9) rfl dX11_choosePaired_160 ?_
            refine lv_iload hx hb dX11_choosePaired_163 (lv_at hl 3 rfl) ?_
            obtain ⟨g5, hf⟩ := of_grd hf
            refine va_iald hx hb hK hP 1 0 rfl rfl g5 dX11_choosePaired_165 ?_
            obtain ⟨⟨r_166_5_a1, r_166_5_a2, r_166_5_a3⟩, hc_r_166_5, hf⟩ := of_bnd hf
            refine cl_Vv (w2 := (wW_X11_choosePaired G h0 h1 h2 h3 h4 h5 y0_0 y0_1 y0_2 y0_3 y0_4 y0_6 y0_18 y0_24 y0_33 y0_34 y0_38 y0_39 y0_40 y0_41 y0_42 y0_43 y0_45 y0_46 y0_47 y0_48 x0_5 x0_7 x0_8 x0_9 x0_10 x0_11 x0_12 x0_13 x0_14 x0_15 x0_16 x0_17 x0_19 x0_20 x0_27 x0_28_121 x0_29 x0_30 x0_31 x0_32 x0_35 x0_36 x0_37 x0_44 x0_49 x0_50 a1 r_166_5_a1 (upd a3_121 u121_3.toNatClampNeg u121_4) r_166_5_a2 r_166_5_a3)) (As := [.int u121_3, .int c44_1, .int (a1 u121_4.toNatClampNeg)]) (rest := []) ⟨hx, hb, hml, hown, ht0⟩ (c_X11_takeOn l G h0 h2 h4 h5 y0_0 y0_1 y0_2 y0_3 y0_4 y0_6 y0_18 h1 h3 y0_24 y0_33 y0_34 y0_38 y0_39 y0_40 y0_41 y0_42 y0_43 y0_45 y0_46 y0_47 y0_48 _ x0_5 x0_7 x0_8 x0_9 x0_10 x0_11 x0_12 x0_13 x0_14 x0_15 x0_16 x0_17 x0_19 x0_20 x0_27 x0_28_121 x0_29 x0_30 x0_31 x0_32 x0_35 x0_36 x0_37 x0_44 x0_49 x0_50 a2_121 a4_121 a5_121 F u121_3 c44_1 (a1 u121_4.toNatClampNeg) _ _ _ hc_r_166_5) yk_X11_takeOn wd_1359 ⟨rfl, rfl, by decide, by decide⟩ ⟨Nat.le_refl _, Nat.le_refl _⟩ hX hK hP hD hS hA [0, 2, 4, 5] [1, 3] [2, 0, 3, 1, 4, 5] (va_recv hK hP (ci := 11) (q0 := 0) rfl rfl) rfl rfl (by decide) rfl rfl rfl rfl rfl hl.1 rfl (Nat.le_of_ble_eq_true rfl) dX11_choosePaired_166 (fun H locs hP hD hS => ?_)
            refine lv_iinc (v := u121_3 + (1 : Int32)) (lv' := [(3, .int (u121_3 + (1 : Int32))), (0, .ref h0), (1, .int c44_1), (4, .int u121_4)]) hx hb dX11_choosePaired_169 hl (k := 2) rfl (by rfl) (by decide) rfl (fun ls hl => ?_)
            refine lv_iload_n hx hb dX11_choosePaired_172 rfl (lv_at hl 0 rfl) ?_
            refine lv_iload_n hx hb dX11_choosePaired_173 rfl (lv_at hl 2 rfl) ?_
            refine lv_icmp_ge (tgt := 184) hx hb dX11_choosePaired_174 (by decide) (fun c7 => ?_) (fun c7 => ?_)
            · have hf := of_pos hf c7
              exact kJ184 _ _ _ _ _ _ hf _ _ hP hD hS _ (lv_sub hl [1, 2, 0] rfl)
            · have hf := of_neg hf c7
              refine lv_aload_n hx hb dX11_choosePaired_177 rfl (lv_at hl 1 rfl) ?_
              refine va_get (ci := 11) (v := .ref h3) (C := RX11) (T := TX11) (N := 51) hx hb ht0 iX11 hown hK hP 0 rfl rfl 23 (by decide) (ht0 _ wd_1429) (fun _ h9 => h9) rfl dX11_choosePaired_178 ?_
              refine lv_iload_n hx hb dX11_choosePaired_181 rfl (lv_at hl 0 rfl) ?_
              refine lv_iconst (v := (-1 : Int32)) hx hb dX11_choosePaired_182 (by decide) ?_
              obtain ⟨g8, hf⟩ := of_grd hf
              refine va_iast hx hb hK hP hD hS 3 0 rfl rfl g8 dX11_choosePaired_183 (fun H locs hP hD hS => ?_)
              have hP : va_P G.1 vwCl (wW_X11_choosePaired G h0 h1 h2 h3 h4 h5 y0_0 y0_1 y0_2 y0_3 y0_4 y0_6 y0_18 y0_24 y0_33 y0_34 y0_38 y0_39 y0_40 y0_41 y0_42 y0_43 y0_45 y0_46 y0_47 y0_48 x0_5 x0_7 x0_8 x0_9 x0_10 x0_11 x0_12 x0_13 x0_14 x0_15 x0_16 x0_17 x0_19 x0_20 x0_27 x0_28_121 x0_29 x0_30 x0_31 x0_32 x0_35 x0_36 x0_37 x0_44 x0_49 x0_50 a1 r_166_5_a1 (upd (upd a3_121 u121_3.toNatClampNeg u121_4) (u121_3 + (1 : Int32)).toNatClampNeg (-1 : Int32)) r_166_5_a2 r_166_5_a3) H := hP
              have hD : va_D A (wW_X11_choosePaired G h0 h1 h2 h3 h4 h5 y0_0 y0_1 y0_2 y0_3 y0_4 y0_6 y0_18 y0_24 y0_33 y0_34 y0_38 y0_39 y0_40 y0_41 y0_42 y0_43 y0_45 y0_46 y0_47 y0_48 x0_5 x0_7 x0_8 x0_9 x0_10 x0_11 x0_12 x0_13 x0_14 x0_15 x0_16 x0_17 x0_19 x0_20 x0_27 x0_28_121 x0_29 x0_30 x0_31 x0_32 x0_35 x0_36 x0_37 x0_44 x0_49 x0_50 a1 r_166_5_a1 (upd (upd a3_121 u121_3.toNatClampNeg u121_4) (u121_3 + (1 : Int32)).toNatClampNeg (-1 : Int32)) r_166_5_a2 r_166_5_a3) := hD
              exact kJ184 _ _ _ _ _ _ hf _ _ hP hD hS _ (lv_sub hl [1, 2, 0] rfl)
          · have hf := of_pos hf c3
            refine lv_iinc (v := u121_3 + (-1 : Int32)) (lv' := [(3, .int (u121_3 + (-1 : Int32))), (0, .ref h0), (1, .int c44_1), (4, .int u121_4)]) hx hb dX11_choosePaired_142 hl (k := 2) rfl (by rfl) (by decide) rfl (fun ls hl => ?_)
            refine lv_goto (tgt := 44) hx hb dX11_choosePaired_145 (by decide) ?_
            exact ih44 _ _ _ _ _ _ hf _ _ hP hD hS _ (lv_sub hl [1, 2, 0] rfl)
        · have hf := of_neg hf c2
          refine lv_iconst (v := (0 : Int32)) hx hb dX11_choosePaired_131 (by decide) ?_
          cases hf
          exact ret_z hx hb hr hlk hK hP hD hS (by decide) dX11_choosePaired_132
      have kL78 : ∀ (c78_3 : Int32) (n78 : Nat) (u78_4 : Int32) (x0_28_78 : Int32) (a2_78 : Nat → Int32) (a3_78 : Nat → Int32) (a4_78 : Nat → Int32) (a5_78 : Nat → Int32), p_X11_choosePaired_L78 F x0_27 a1 c44_1 c78_3 (p_X11_choosePaired_L44 F x0_27 a1 c44_1 n44) n78 u78_4 x0_28_78 a2_78 a3_78 a4_78 a5_78 = some (r0, e_x0_28, e_a2, e_a3, e_a4, e_a5) → ∀ (H : Heap) (locs : List Loc), va_P G.1 vwCl (wW_X11_choosePaired G h0 h1 h2 h3 h4 h5 y0_0 y0_1 y0_2 y0_3 y0_4 y0_6 y0_18 y0_24 y0_33 y0_34 y0_38 y0_39 y0_40 y0_41 y0_42 y0_43 y0_45 y0_46 y0_47 y0_48 x0_5 x0_7 x0_8 x0_9 x0_10 x0_11 x0_12 x0_13 x0_14 x0_15 x0_16 x0_17 x0_19 x0_20 x0_27 x0_28_78 x0_29 x0_30 x0_31 x0_32 x0_35 x0_36 x0_37 x0_44 x0_49 x0_50 a1 a2_78 a3_78 a4_78 a5_78) H → va_D A (wW_X11_choosePaired G h0 h1 h2 h3 h4 h5 y0_0 y0_1 y0_2 y0_3 y0_4 y0_6 y0_18 y0_24 y0_33 y0_34 y0_38 y0_39 y0_40 y0_41 y0_42 y0_43 y0_45 y0_46 y0_47 y0_48 x0_5 x0_7 x0_8 x0_9 x0_10 x0_11 x0_12 x0_13 x0_14 x0_15 x0_16 x0_17 x0_19 x0_20 x0_27 x0_28_78 x0_29 x0_30 x0_31 x0_32 x0_35 x0_36 x0_37 x0_44 x0_49 x0_50 a1 a2_78 a3_78 a4_78 a5_78) → va_S A s.heap H locs → ∀ ls : Array Slot, lv_has ls 5 [(0, .ref h0), (1, .int c44_1), (3, .int c78_3), (4, .int u78_4)] → W p l e ({ frames := 1, cells := 0, slots := 0, locals := 25 } : Room) s m (List.toArray [.ref h0, .int b1, .int b2]) below meth c H locs 0 0 (MQ below (QiS G r0 A (wW_X11_choosePaired G h0 h1 h2 h3 h4 h5 y0_0 y0_1 y0_2 y0_3 y0_4 y0_6 y0_18 y0_24 y0_33 y0_34 y0_38 y0_39 y0_40 y0_41 y0_42 y0_43 y0_45 y0_46 y0_47 y0_48 x0_5 x0_7 x0_8 x0_9 x0_10 x0_11 x0_12 x0_13 x0_14 x0_15 x0_16 x0_17 x0_19 x0_20 x0_27 e_x0_28 x0_29 x0_30 x0_31 x0_32 x0_35 x0_36 x0_37 x0_44 x0_49 x0_50 a1 e_a2 e_a3 e_a4 e_a5)) (List.toArray [.ref h0, .int b1, .int b2]) s 0 0 A) (F0 m 78 ls []) := by
        intro c78_3 n78
        induction n78 with
        | zero =>
          intro u78_4 x0_28_78 a2_78 a3_78 a4_78 a5_78 hf
          cases hf
        | succ n78 ih78 =>
          intro u78_4 x0_28_78 a2_78 a3_78 a4_78 a5_78 hf H locs hP hD hS ls hl
          have hf : p_X11_choosePaired_L78b F x0_27 a1 c44_1 c78_3 (p_X11_choosePaired_L44 F x0_27 a1 c44_1 n44) (p_X11_choosePaired_L78 F x0_27 a1 c44_1 c78_3 (p_X11_choosePaired_L44 F x0_27 a1 c44_1 n44) n78) u78_4 x0_28_78 a2_78 a3_78 a4_78 a5_78 = some (r0, e_x0_28, e_a2, e_a3, e_a4, e_a5) := hf
          refine lv_iload hx hb dX11_choosePaired_78 (lv_at hl 3 rfl) ?_
          refine lv_aload_n hx hb dX11_choosePaired_80 rfl (lv_at hl 0 rfl) ?_
          refine va_get (ci := 11) (v := .int x0_27) (C := RX11) (T := TX11) (N := 51) hx hb ht0 iX11 hown hK hP 0 rfl rfl 27 (by decide) (ht0 _ wd_1433) (fun _ h9 => h9) rfl dX11_choosePaired_81 ?_
          refine lv_icmp_ge (tgt := 121) hx hb dX11_choosePaired_84 (by decide) (fun c9 => ?_) (fun c9 => ?_)
          · have hf := of_pos hf c9
            exact kJ121 _ _ _ _ _ _ _ hf _ _ hP hD hS _ (lv_sub hl [0, 1, 2, 3] rfl)
          · have hf := of_neg hf c9
            refine lv_aload_n hx hb dX11_choosePaired_87 rfl (lv_at hl 0 rfl) ?_
            refine lv_iload_n hx hb dX11_choosePaired_88 rfl (lv_at hl 2 rfl) ?_
            refine lv_iload_n hx hb dX11_choosePaired_89 rfl (lv_at hl 1 rfl) ?_
            refine lv_aload_n hx hb dX11_choosePaired_90 rfl (lv_at hl 0 rfl) ?_
            refine va_get (ci := 11) (v := .ref h1) (C := RX11) (T := TX11) (N := 51) hx hb ht0 iX11 hown hK hP 0 rfl rfl 21 (by decide) (ht0 _ wd_1427) (fun _ h9 => h9) rfl dX11_choosePaired_91 ?_
            refine lv_iload hx hb dX11_choosePaired_94 (lv_at hl 3 rfl) ?_
            obtain ⟨g10, hf⟩ := of_grd hf
            refine va_iald hx hb hK hP 1 0 rfl rfl g10 dX11_choosePaired_96 ?_
            obtain ⟨⟨r_97_10, r_97_10_x0_28⟩, hc_r_97_10, hf⟩ := of_bnd hf
            refine cl_Vi (w2 := (wW_X11_choosePaired G h0 h1 h2 h3 h4 h5 y0_0 y0_1 y0_2 y0_3 y0_4 y0_6 y0_18 y0_24 y0_33 y0_34 y0_38 y0_39 y0_40 y0_41 y0_42 y0_43 y0_45 y0_46 y0_47 y0_48 x0_5 x0_7 x0_8 x0_9 x0_10 x0_11 x0_12 x0_13 x0_14 x0_15 x0_16 x0_17 x0_19 x0_20 x0_27 r_97_10_x0_28 x0_29 x0_30 x0_31 x0_32 x0_35 x0_36 x0_37 x0_44 x0_49 x0_50 a1 a2_78 a3_78 a4_78 a5_78)) (As := [.int c78_3, .int c44_1, .int (a1 u78_4.toNatClampNeg)]) (rest := []) ⟨hx, hb, hml, hown, ht0⟩ (c_X11_canTake l G h0 h2 h4 h5 y0_0 y0_1 y0_2 y0_3 y0_4 y0_6 y0_18 h1 h3 y0_24 y0_33 y0_34 y0_38 y0_39 y0_40 y0_41 y0_42 y0_43 y0_45 y0_46 y0_47 y0_48 _ x0_5 x0_7 x0_8 x0_9 x0_10 x0_11 x0_12 x0_13 x0_14 x0_15 x0_16 x0_17 x0_19 x0_20 x0_27 x0_28_78 x0_29 x0_30 x0_31 x0_32 x0_35 x0_36 x0_37 x0_44 x0_49 x0_50 a2_78 a4_78 a5_78 F c78_3 c44_1 (a1 u78_4.toNatClampNeg) _ _ hc_r_97_10) yk_X11_canTake wd_1355 ⟨rfl, rfl, by decide, by decide⟩ ⟨Nat.le_refl _, Nat.le_refl _⟩ hX hK hP hD hS hA [0, 2, 4, 5] [1, 3] [2, 0, 3, 1, 4, 5] (va_recv hK hP (ci := 11) (q0 := 0) rfl rfl) rfl rfl (by decide) rfl rfl rfl rfl rfl hl.1 rfl (Nat.le_of_ble_eq_true rfl) dX11_choosePaired_97 (fun H locs hP hD hS => ?_)
            refine lv_if_ne (tgt := 121) hx hb dX11_choosePaired_100 (by decide) (fun c12 => ?_) (fun c12 => ?_)
            · have hf := of_neg hf c12
              exact kJ121 _ _ _ _ _ _ _ hf _ _ hP hD hS _ (lv_sub hl [0, 1, 2, 3] rfl)
            · have hf := of_pos hf c12
              refine lv_aload_n hx hb dX11_choosePaired_103 rfl (lv_at hl 0 rfl) ?_
              refine va_get (ci := 11) (v := .int r_97_10_x0_28) (C := RX11) (T := TX11) (N := 51) hx hb ht0 iX11 hown hK hP 0 rfl rfl 28 (by decide) (ht0 _ wd_1434) (fun _ h9 => h9) rfl dX11_choosePaired_104 ?_
              refine lv_sipush (v := (20000 : Int32)) hx hb dX11_choosePaired_107 (by decide) ?_
              refine lv_icmp_le (tgt := 115) hx hb dX11_choosePaired_110 (by decide) (fun c13 => ?_) (fun c13 => ?_)
              · have hf := of_pos hf c13
                refine lv_iinc (v := u78_4 + (1 : Int32)) (lv' := [(4, .int (u78_4 + (1 : Int32))), (0, .ref h0), (1, .int c44_1), (3, .int c78_3)]) hx hb dX11_choosePaired_115 hl (k := 3) rfl (by rfl) (by decide) rfl (fun ls hl => ?_)
                refine lv_goto (tgt := 78) hx hb dX11_choosePaired_118 (by decide) ?_
                exact ih78 _ _ _ _ _ _ hf _ _ hP hD hS _ (lv_sub hl [1, 2, 3, 0] rfl)
              · have hf := of_neg hf c13
                refine lv_iconst (v := (0 : Int32)) hx hb dX11_choosePaired_113 (by decide) ?_
                cases hf
                exact ret_z hx hb hr hlk hK hP hD hS (by decide) dX11_choosePaired_114
      have kJ68 : ∀ (u68_3 : Int32) (x0_28_68 : Int32) (a2_68 : Nat → Int32) (a3_68 : Nat → Int32) (a4_68 : Nat → Int32) (a5_68 : Nat → Int32), p_X11_choosePaired_J68 F x0_27 a1 c44_1 (p_X11_choosePaired_L44 F x0_27 a1 c44_1 n44) u68_3 x0_28_68 a2_68 a3_68 a4_68 a5_68 = some (r0, e_x0_28, e_a2, e_a3, e_a4, e_a5) → ∀ (H : Heap) (locs : List Loc), va_P G.1 vwCl (wW_X11_choosePaired G h0 h1 h2 h3 h4 h5 y0_0 y0_1 y0_2 y0_3 y0_4 y0_6 y0_18 y0_24 y0_33 y0_34 y0_38 y0_39 y0_40 y0_41 y0_42 y0_43 y0_45 y0_46 y0_47 y0_48 x0_5 x0_7 x0_8 x0_9 x0_10 x0_11 x0_12 x0_13 x0_14 x0_15 x0_16 x0_17 x0_19 x0_20 x0_27 x0_28_68 x0_29 x0_30 x0_31 x0_32 x0_35 x0_36 x0_37 x0_44 x0_49 x0_50 a1 a2_68 a3_68 a4_68 a5_68) H → va_D A (wW_X11_choosePaired G h0 h1 h2 h3 h4 h5 y0_0 y0_1 y0_2 y0_3 y0_4 y0_6 y0_18 y0_24 y0_33 y0_34 y0_38 y0_39 y0_40 y0_41 y0_42 y0_43 y0_45 y0_46 y0_47 y0_48 x0_5 x0_7 x0_8 x0_9 x0_10 x0_11 x0_12 x0_13 x0_14 x0_15 x0_16 x0_17 x0_19 x0_20 x0_27 x0_28_68 x0_29 x0_30 x0_31 x0_32 x0_35 x0_36 x0_37 x0_44 x0_49 x0_50 a1 a2_68 a3_68 a4_68 a5_68) → va_S A s.heap H locs → ∀ ls : Array Slot, lv_has ls 5 [(0, .ref h0), (1, .int c44_1), (3, .int u68_3)] → W p l e ({ frames := 1, cells := 0, slots := 0, locals := 25 } : Room) s m (List.toArray [.ref h0, .int b1, .int b2]) below meth c H locs 0 0 (MQ below (QiS G r0 A (wW_X11_choosePaired G h0 h1 h2 h3 h4 h5 y0_0 y0_1 y0_2 y0_3 y0_4 y0_6 y0_18 y0_24 y0_33 y0_34 y0_38 y0_39 y0_40 y0_41 y0_42 y0_43 y0_45 y0_46 y0_47 y0_48 x0_5 x0_7 x0_8 x0_9 x0_10 x0_11 x0_12 x0_13 x0_14 x0_15 x0_16 x0_17 x0_19 x0_20 x0_27 e_x0_28 x0_29 x0_30 x0_31 x0_32 x0_35 x0_36 x0_37 x0_44 x0_49 x0_50 a1 e_a2 e_a3 e_a4 e_a5)) (List.toArray [.ref h0, .int b1, .int b2]) s 0 0 A) (F0 m 68 ls []) := by
        intro u68_3 x0_28_68 a2_68 a3_68 a4_68 a5_68 hf H locs hP hD hS ls hl
        refine lv_aload_n hx hb dX11_choosePaired_68 rfl (lv_at hl 0 rfl) ?_
        refine va_get (ci := 11) (v := .ref h3) (C := RX11) (T := TX11) (N := 51) hx hb ht0 iX11 hown hK hP 0 rfl rfl 23 (by decide) (ht0 _ wd_1429) (fun _ h9 => h9) rfl dX11_choosePaired_69 ?_
        refine lv_iload_n hx hb dX11_choosePaired_72 rfl (lv_at hl 2 rfl) ?_
        obtain ⟨g14, hf⟩ := of_grd hf
        refine va_iald hx hb hK hP 3 0 rfl rfl g14 dX11_choosePaired_73 ?_
        refine lv_iconst (v := (1 : Int32)) hx hb dX11_choosePaired_74 (by decide) ?_
        refine lv_iadd hx hb dX11_choosePaired_75 ?_
        refine lv_topi (fun z15 ez15 => ?_)
        have hf := of_jlet hf ez15
        refine lv_istore (lv' := [(4, .int z15), (0, .ref h0), (1, .int c44_1), (3, .int u68_3)]) hx hb dX11_choosePaired_76 hl (by decide) rfl (fun ls hl => ?_)
        exact kL78 _ _ _ _ _ _ _ _ hf _ _ hP hD hS _ (lv_sub hl [1, 2, 3, 0] rfl)
      intro u44_3 x0_28_44 a2_44 a3_44 a4_44 a5_44 hf H locs hP hD hS ls hl
      have hf : p_X11_choosePaired_L44b F x0_27 a1 c44_1 (p_X11_choosePaired_L44 F x0_27 a1 c44_1 n44) u44_3 x0_28_44 a2_44 a3_44 a4_44 a5_44 = some (r0, e_x0_28, e_a2, e_a3, e_a4, e_a5) := hf
      refine lv_iload_n hx hb dX11_choosePaired_44 rfl (lv_at hl 2 rfl) ?_
      refine lv_if_lt (tgt := 187) hx hb dX11_choosePaired_45 (by decide) (fun c16 => ?_) (fun c16 => ?_)
      · have hf := of_pos hf c16
        exact kJ187 _ _ _ _ _ _ _ hf _ _ hP hD hS _ (lv_sub hl [1, 2] rfl)
      · have hf := of_neg hf c16
        refine lv_iload_n hx hb dX11_choosePaired_48 rfl (lv_at hl 2 rfl) ?_
        refine lv_iload_n hx hb dX11_choosePaired_49 rfl (lv_at hl 1 rfl) ?_
        refine lv_icmp_ge (tgt := 187) hx hb dX11_choosePaired_50 (by decide) (fun c17 => ?_) (fun c17 => ?_)
        · have hf := of_pos hf c17
          exact kJ187 _ _ _ _ _ _ _ hf _ _ hP hD hS _ (lv_sub hl [1, 2] rfl)
        · have hf := of_neg hf c17
          refine lv_aload_n hx hb dX11_choosePaired_53 rfl (lv_at hl 0 rfl) ?_
          refine va_get (ci := 11) (v := .ref h3) (C := RX11) (T := TX11) (N := 51) hx hb ht0 iX11 hown hK hP 0 rfl rfl 23 (by decide) (ht0 _ wd_1429) (fun _ h9 => h9) rfl dX11_choosePaired_54 ?_
          refine lv_iload_n hx hb dX11_choosePaired_57 rfl (lv_at hl 2 rfl) ?_
          obtain ⟨g18, hf⟩ := of_grd hf
          refine va_iald hx hb hK hP 3 0 rfl rfl g18 dX11_choosePaired_58 ?_
          refine lv_if_lt (tgt := 68) hx hb dX11_choosePaired_59 (by decide) (fun c19 => ?_) (fun c19 => ?_)
          · have hf := of_pos hf c19
            exact kJ68 _ _ _ _ _ _ hf _ _ hP hD hS _ (lv_sub hl [0, 1, 2] rfl)
          · have hf := of_neg hf c19
            refine lv_aload_n hx hb dX11_choosePaired_62 rfl (lv_at hl 0 rfl) ?_
            refine lv_iload_n hx hb dX11_choosePaired_63 rfl (lv_at hl 2 rfl) ?_
            refine lv_iload_n hx hb dX11_choosePaired_64 rfl (lv_at hl 1 rfl) ?_
            obtain ⟨⟨r_65_19_a2, r_65_19_a3⟩, hc_r_65_19, hf⟩ := of_bnd hf
            refine cl_Vv (w2 := (wW_X11_choosePaired G h0 h1 h2 h3 h4 h5 y0_0 y0_1 y0_2 y0_3 y0_4 y0_6 y0_18 y0_24 y0_33 y0_34 y0_38 y0_39 y0_40 y0_41 y0_42 y0_43 y0_45 y0_46 y0_47 y0_48 x0_5 x0_7 x0_8 x0_9 x0_10 x0_11 x0_12 x0_13 x0_14 x0_15 x0_16 x0_17 x0_19 x0_20 x0_27 x0_28_44 x0_29 x0_30 x0_31 x0_32 x0_35 x0_36 x0_37 x0_44 x0_49 x0_50 a1 a2_44 a3_44 r_65_19_a2 r_65_19_a3)) (As := [.int u44_3, .int c44_1]) (rest := []) ⟨hx, hb, hml, hown, ht0⟩ (c_X11_takeOff l G h0 h2 h4 h5 y0_0 y0_1 y0_2 y0_3 y0_4 y0_6 y0_18 h1 h3 y0_24 y0_33 y0_34 y0_38 y0_39 y0_40 y0_41 y0_42 y0_43 y0_45 y0_46 y0_47 y0_48 _ x0_5 x0_7 x0_8 x0_9 x0_10 x0_11 x0_12 x0_13 x0_14 x0_15 x0_16 x0_17 x0_19 x0_20 x0_27 x0_28_44 x0_29 x0_30 x0_31 x0_32 x0_35 x0_36 x0_37 x0_44 x0_49 x0_50 a2_44 a4_44 a5_44 F u44_3 c44_1 _ _ hc_r_65_19) yk_X11_takeOff wd_1351 ⟨rfl, rfl, by decide, by decide⟩ ⟨Nat.le_refl _, Nat.le_refl _⟩ hX hK hP hD hS hA [0, 2, 4, 5] [1, 3] [2, 0, 3, 1, 4, 5] (va_recv hK hP (ci := 11) (q0 := 0) rfl rfl) rfl rfl (by decide) rfl rfl rfl rfl rfl hl.1 rfl (Nat.le_of_ble_eq_true rfl) dX11_choosePaired_65 (fun H locs hP hD hS => ?_)
            exact kJ68 _ _ _ _ _ _ hf _ _ hP hD hS _ (lv_sub hl [0, 1, 2] rfl)
  have kL2 : ∀ (c2_1 : Int32) (c2_2 : Int32) (n2 : Nat) (u2_3 : Int32) (x0_28_2 : Int32) (a2_2 : Nat → Int32) (a3_2 : Nat → Int32) (a4_2 : Nat → Int32) (a5_2 : Nat → Int32), p_X11_choosePaired_L2 F x0_27 a1 c2_1 c2_2 n2 u2_3 x0_28_2 a2_2 a3_2 a4_2 a5_2 = some (r0, e_x0_28, e_a2, e_a3, e_a4, e_a5) → ∀ (H : Heap) (locs : List Loc), va_P G.1 vwCl (wW_X11_choosePaired G h0 h1 h2 h3 h4 h5 y0_0 y0_1 y0_2 y0_3 y0_4 y0_6 y0_18 y0_24 y0_33 y0_34 y0_38 y0_39 y0_40 y0_41 y0_42 y0_43 y0_45 y0_46 y0_47 y0_48 x0_5 x0_7 x0_8 x0_9 x0_10 x0_11 x0_12 x0_13 x0_14 x0_15 x0_16 x0_17 x0_19 x0_20 x0_27 x0_28_2 x0_29 x0_30 x0_31 x0_32 x0_35 x0_36 x0_37 x0_44 x0_49 x0_50 a1 a2_2 a3_2 a4_2 a5_2) H → va_D A (wW_X11_choosePaired G h0 h1 h2 h3 h4 h5 y0_0 y0_1 y0_2 y0_3 y0_4 y0_6 y0_18 y0_24 y0_33 y0_34 y0_38 y0_39 y0_40 y0_41 y0_42 y0_43 y0_45 y0_46 y0_47 y0_48 x0_5 x0_7 x0_8 x0_9 x0_10 x0_11 x0_12 x0_13 x0_14 x0_15 x0_16 x0_17 x0_19 x0_20 x0_27 x0_28_2 x0_29 x0_30 x0_31 x0_32 x0_35 x0_36 x0_37 x0_44 x0_49 x0_50 a1 a2_2 a3_2 a4_2 a5_2) → va_S A s.heap H locs → ∀ ls : Array Slot, lv_has ls 5 [(0, .ref h0), (1, .int c2_1), (2, .int c2_2), (3, .int u2_3)] → W p l e ({ frames := 1, cells := 0, slots := 0, locals := 25 } : Room) s m (List.toArray [.ref h0, .int b1, .int b2]) below meth c H locs 0 0 (MQ below (QiS G r0 A (wW_X11_choosePaired G h0 h1 h2 h3 h4 h5 y0_0 y0_1 y0_2 y0_3 y0_4 y0_6 y0_18 y0_24 y0_33 y0_34 y0_38 y0_39 y0_40 y0_41 y0_42 y0_43 y0_45 y0_46 y0_47 y0_48 x0_5 x0_7 x0_8 x0_9 x0_10 x0_11 x0_12 x0_13 x0_14 x0_15 x0_16 x0_17 x0_19 x0_20 x0_27 e_x0_28 x0_29 x0_30 x0_31 x0_32 x0_35 x0_36 x0_37 x0_44 x0_49 x0_50 a1 e_a2 e_a3 e_a4 e_a5)) (List.toArray [.ref h0, .int b1, .int b2]) s 0 0 A) (F0 m 2 ls []) := by
    intro c2_1 c2_2 n2
    induction n2 with
    | zero =>
      intro u2_3 x0_28_2 a2_2 a3_2 a4_2 a5_2 hf
      cases hf
    | succ n2 ih2 =>
      intro u2_3 x0_28_2 a2_2 a3_2 a4_2 a5_2 hf H locs hP hD hS ls hl
      have hf : p_X11_choosePaired_L2b F x0_27 a1 c2_1 c2_2 (p_X11_choosePaired_L2 F x0_27 a1 c2_1 c2_2 n2) u2_3 x0_28_2 a2_2 a3_2 a4_2 a5_2 = some (r0, e_x0_28, e_a2, e_a3, e_a4, e_a5) := hf
      refine lv_iload_n hx hb dX11_choosePaired_2 rfl (lv_at hl 3 rfl) ?_
      refine lv_iconst (v := (1 : Int32)) hx hb dX11_choosePaired_3 (by decide) ?_
      refine lv_iadd hx hb dX11_choosePaired_4 ?_
      refine lv_iload_n hx hb dX11_choosePaired_5 rfl (lv_at hl 2 rfl) ?_
      refine lv_icmp_ge (tgt := 30) hx hb dX11_choosePaired_6 (by decide) (fun c21 => ?_) (fun c21 => ?_)
      · have hf := of_pos hf c21
        refine lv_aload_n hx hb dX11_choosePaired_30 rfl (lv_at hl 0 rfl) ?_
        refine lv_iconst (v := (0 : Int32)) hx hb dX11_choosePaired_31 (by decide) ?_
        refine va_put (ci := 11) (v := .int (0 : Int32)) (ty := .int) (C := RX11) (T := TX11) (N := 51) hx hb ht0 iX11 tyX11 tyX11_ok nmX11 hown hK hP hD hS 0 rfl rfl 28 (by decide) (ht0 _ wd_1434) (fun _ h9 => h9) rfl rfl rfl rfl (Nat.le_of_ble_eq_true rfl) dX11_choosePaired_32 (fun H locs hP hD hS => ?_)
        have hP : va_P G.1 vwCl (wW_X11_choosePaired G h0 h1 h2 h3 h4 h5 y0_0 y0_1 y0_2 y0_3 y0_4 y0_6 y0_18 y0_24 y0_33 y0_34 y0_38 y0_39 y0_40 y0_41 y0_42 y0_43 y0_45 y0_46 y0_47 y0_48 x0_5 x0_7 x0_8 x0_9 x0_10 x0_11 x0_12 x0_13 x0_14 x0_15 x0_16 x0_17 x0_19 x0_20 x0_27 (0 : Int32) x0_29 x0_30 x0_31 x0_32 x0_35 x0_36 x0_37 x0_44 x0_49 x0_50 a1 a2_2 a3_2 a4_2 a5_2) H := hP
        have hD : va_D A (wW_X11_choosePaired G h0 h1 h2 h3 h4 h5 y0_0 y0_1 y0_2 y0_3 y0_4 y0_6 y0_18 y0_24 y0_33 y0_34 y0_38 y0_39 y0_40 y0_41 y0_42 y0_43 y0_45 y0_46 y0_47 y0_48 x0_5 x0_7 x0_8 x0_9 x0_10 x0_11 x0_12 x0_13 x0_14 x0_15 x0_16 x0_17 x0_19 x0_20 x0_27 (0 : Int32) x0_29 x0_30 x0_31 x0_32 x0_35 x0_36 x0_37 x0_44 x0_49 x0_50 a1 a2_2 a3_2 a4_2 a5_2) := hD
        refine lv_iconst (v := (0 : Int32)) hx hb dX11_choosePaired_35 (by decide) ?_
        refine lv_istore_n (lv' := [(3, .int (0 : Int32)), (0, .ref h0), (1, .int c2_1), (2, .int c2_2)]) hx hb dX11_choosePaired_36 rfl hl (by decide) rfl (fun ls hl => ?_)
        refine lv_aload_n hx hb dX11_choosePaired_37 rfl (lv_at hl 1 rfl) ?_
        refine va_get (ci := 11) (v := .ref h3) (C := RX11) (T := TX11) (N := 51) hx hb ht0 iX11 hown hK hP 0 rfl rfl 23 (by decide) (ht0 _ wd_1429) (fun _ h9 => h9) rfl dX11_choosePaired_38 ?_
        refine lv_iconst (v := (0 : Int32)) hx hb dX11_choosePaired_41 (by decide) ?_
        refine lv_iconst (v := (-1 : Int32)) hx hb dX11_choosePaired_42 (by decide) ?_
        refine va_iast hx hb hK hP hD hS 3 0 rfl rfl (show ¬ ixBad (0 : Int32) 32 by decide) dX11_choosePaired_43 (fun H locs hP hD hS => ?_)
        have hP : va_P G.1 vwCl (wW_X11_choosePaired G h0 h1 h2 h3 h4 h5 y0_0 y0_1 y0_2 y0_3 y0_4 y0_6 y0_18 y0_24 y0_33 y0_34 y0_38 y0_39 y0_40 y0_41 y0_42 y0_43 y0_45 y0_46 y0_47 y0_48 x0_5 x0_7 x0_8 x0_9 x0_10 x0_11 x0_12 x0_13 x0_14 x0_15 x0_16 x0_17 x0_19 x0_20 x0_27 (0 : Int32) x0_29 x0_30 x0_31 x0_32 x0_35 x0_36 x0_37 x0_44 x0_49 x0_50 a1 a2_2 (upd a3_2 (0 : Int32).toNatClampNeg (-1 : Int32)) a4_2 a5_2) H := hP
        have hD : va_D A (wW_X11_choosePaired G h0 h1 h2 h3 h4 h5 y0_0 y0_1 y0_2 y0_3 y0_4 y0_6 y0_18 y0_24 y0_33 y0_34 y0_38 y0_39 y0_40 y0_41 y0_42 y0_43 y0_45 y0_46 y0_47 y0_48 x0_5 x0_7 x0_8 x0_9 x0_10 x0_11 x0_12 x0_13 x0_14 x0_15 x0_16 x0_17 x0_19 x0_20 x0_27 (0 : Int32) x0_29 x0_30 x0_31 x0_32 x0_35 x0_36 x0_37 x0_44 x0_49 x0_50 a1 a2_2 (upd a3_2 (0 : Int32).toNatClampNeg (-1 : Int32)) a4_2 a5_2) := hD
        exact kL44 _ _ _ _ _ _ _ _ hf _ _ hP hD hS _ (lv_sub hl [1, 2, 0] rfl)
      · have hf := of_neg hf c21
        refine lv_aload_n hx hb dX11_choosePaired_9 rfl (lv_at hl 0 rfl) ?_
        refine va_get (ci := 11) (v := .ref h5) (C := RX11) (T := TX11) (N := 51) hx hb ht0 iX11 hown hK hP 0 rfl rfl 26 (by decide) (ht0 _ wd_1432) (fun _ h9 => h9) rfl dX11_choosePaired_10 ?_
        refine lv_iconst (v := (1 : Int32)) hx hb dX11_choosePaired_13 (by decide) ?_
        refine lv_iload_n hx hb dX11_choosePaired_14 rfl (lv_at hl 3 rfl) ?_
        refine lv_ishl hx hb dX11_choosePaired_15 ?_
        refine lv_iconst (v := (1 : Int32)) hx hb dX11_choosePaired_16 (by decide) ?_
        refine lv_iload_n hx hb dX11_choosePaired_17 rfl (lv_at hl 3 rfl) ?_
        refine lv_iconst (v := (1 : Int32)) hx hb dX11_choosePaired_18 (by decide) ?_
        refine lv_iadd hx hb dX11_choosePaired_19 ?_
        refine lv_ishl hx hb dX11_choosePaired_20 ?_
        refine lv_ixor hx hb dX11_choosePaired_21 ?_
        refine lv_iconst (v := (1 : Int32)) hx hb dX11_choosePaired_22 (by decide) ?_
        obtain ⟨g22, hf⟩ := of_grd hf
        refine va_zast hx hb hK hP hD hS 5 1 rfl rfl g22 dX11_choosePaired_23 (fun H locs hP hD hS => ?_)
        have hP : va_P G.1 vwCl (wW_X11_choosePaired G h0 h1 h2 h3 h4 h5 y0_0 y0_1 y0_2 y0_3 y0_4 y0_6 y0_18 y0_24 y0_33 y0_34 y0_38 y0_39 y0_40 y0_41 y0_42 y0_43 y0_45 y0_46 y0_47 y0_48 x0_5 x0_7 x0_8 x0_9 x0_10 x0_11 x0_12 x0_13 x0_14 x0_15 x0_16 x0_17 x0_19 x0_20 x0_27 x0_28_2 x0_29 x0_30 x0_31 x0_32 x0_35 x0_36 x0_37 x0_44 x0_49 x0_50 a1 a2_2 a3_2 a4_2 (upd a5_2 (((1 : Int32) <<< (u2_3 &&& 31)) ^^^ ((1 : Int32) <<< ((u2_3 + (1 : Int32)) &&& 31))).toNatClampNeg (vp_nar .boolean (1 : Int32)))) H := hP
        have hD : va_D A (wW_X11_choosePaired G h0 h1 h2 h3 h4 h5 y0_0 y0_1 y0_2 y0_3 y0_4 y0_6 y0_18 y0_24 y0_33 y0_34 y0_38 y0_39 y0_40 y0_41 y0_42 y0_43 y0_45 y0_46 y0_47 y0_48 x0_5 x0_7 x0_8 x0_9 x0_10 x0_11 x0_12 x0_13 x0_14 x0_15 x0_16 x0_17 x0_19 x0_20 x0_27 x0_28_2 x0_29 x0_30 x0_31 x0_32 x0_35 x0_36 x0_37 x0_44 x0_49 x0_50 a1 a2_2 a3_2 a4_2 (upd a5_2 (((1 : Int32) <<< (u2_3 &&& 31)) ^^^ ((1 : Int32) <<< ((u2_3 + (1 : Int32)) &&& 31))).toNatClampNeg (vp_nar .boolean (1 : Int32)))) := hD
        refine lv_iinc (v := u2_3 + (1 : Int32)) (lv' := [(3, .int (u2_3 + (1 : Int32))), (0, .ref h0), (1, .int c2_1), (2, .int c2_2)]) hx hb dX11_choosePaired_24 hl (k := 3) rfl (by rfl) (by decide) rfl (fun ls hl => ?_)
        refine lv_goto (tgt := 2) hx hb dX11_choosePaired_27 (by decide) ?_
        exact ih2 _ _ _ _ _ _ hf _ _ hP hD hS _ (lv_sub hl [1, 2, 3, 0] rfl)
  refine lv_iconst (v := (0 : Int32)) hx hb dX11_choosePaired_0 (by decide) ?_
  refine lv_istore_n (lv' := [(3, .int (0 : Int32)), (0, .ref h0), (1, .int b1), (2, .int b2)]) hx hb dX11_choosePaired_1 rfl hl (by decide) rfl (fun ls hl => ?_)
  exact kL2 _ _ _ _ _ _ _ _ _ hf _ _ hP hD hS _ (lv_sub hl [1, 2, 3, 0] rfl)
theorem yk_X11_choosePaired : ykV yX11_choosePaired RX11 cX11_choosePaired 5 (some .boolean) 2 := ⟨wd_1349, wd_57, wd_142, wd_1350, rfl, by decide +kernel, by decide +kernel, by decide +kernel⟩
theorem dX11_noneTaken_0 : decode cX11_noneTaken 0 = .ok (.iconst 0, 1) := by decide +kernel
theorem dX11_noneTaken_1 : decode cX11_noneTaken 1 = .ok (.istore_n 1, 1) := by decide +kernel
theorem dX11_noneTaken_2 : decode cX11_noneTaken 2 = .ok (.iload_n 1, 1) := by decide +kernel
theorem dX11_noneTaken_3 : decode cX11_noneTaken 3 = .ok (.sipush 256, 3) := by decide +kernel
theorem dX11_noneTaken_6 : decode cX11_noneTaken 6 = .ok (.if_icmp .ge 20, 3) := by decide +kernel
theorem dX11_noneTaken_9 : decode cX11_noneTaken 9 = .ok (.aload_n 0, 1) := by decide +kernel
theorem dX11_noneTaken_10 : decode cX11_noneTaken 10 = .ok (.getfield 48, 3) := by decide +kernel
theorem dX11_noneTaken_13 : decode cX11_noneTaken 13 = .ok (.iload_n 1, 1) := by decide +kernel
theorem dX11_noneTaken_14 : decode cX11_noneTaken 14 = .ok (.baload, 1) := by decide +kernel
theorem dX11_noneTaken_15 : decode cX11_noneTaken 15 = .ok (.ifCond .eq 5, 3) := by decide +kernel
theorem dX11_noneTaken_18 : decode cX11_noneTaken 18 = .ok (.iconst 0, 1) := by decide +kernel
theorem dX11_noneTaken_19 : decode cX11_noneTaken 19 = .ok (.ireturn, 1) := by decide +kernel
theorem dX11_noneTaken_20 : decode cX11_noneTaken 20 = .ok (.iinc 1 1, 3) := by decide +kernel
theorem dX11_noneTaken_23 : decode cX11_noneTaken 23 = .ok (.goto (-21), 3) := by decide +kernel
theorem dX11_noneTaken_26 : decode cX11_noneTaken 26 = .ok (.iconst 1, 1) := by decide +kernel
theorem dX11_noneTaken_27 : decode cX11_noneTaken 27 = .ok (.ireturn, 1) := by decide +kernel
def wW_X11_noneTaken (G : GG) (h0 h1 y0_0 y0_1 y0_2 y0_3 y0_4 y0_6 y0_18 y0_21 y0_22 y0_23 y0_24 y0_26 y0_33 y0_34 y0_38 y0_39 y0_40 y0_41 y0_42 y0_43 y0_45 y0_46 y0_47 y0_48 : Nat) (x0_5 : Int32) (x0_7 : Int32) (x0_8 : Int32) (x0_9 : Int32) (x0_10 : Int32) (x0_11 : Int32) (x0_12 : Int32) (x0_13 : Int32) (x0_14 : Int32) (x0_15 : Int32) (x0_16 : Int32) (x0_17 : Int32) (x0_19 : Int32) (x0_20 : Int32) (x0_27 : Int32) (x0_28 : Int32) (x0_29 : Int32) (x0_30 : Int32) (x0_31 : Int32) (x0_32 : Int32) (x0_35 : Int32) (x0_36 : Int32) (x0_37 : Int32) (x0_44 : Int32) (x0_49 : Int32) (x0_50 : Int32) (a1 : Nat → Int32) : va_W := [(h0, .inr (11, [.ref y0_0, .ref y0_1, .ref y0_2, .ref y0_3, .ref y0_4, .int x0_5, .ref y0_6, .int x0_7, .int x0_8, .int x0_9, .int x0_10, .int x0_11, .int x0_12, .int x0_13, .int x0_14, .int x0_15, .int x0_16, .int x0_17, .ref y0_18, .int x0_19, .int x0_20, .ref y0_21, .ref y0_22, .ref y0_23, .ref y0_24, .ref h1, .ref y0_26, .int x0_27, .int x0_28, .int x0_29, .int x0_30, .int x0_31, .int x0_32, .ref y0_33, .ref y0_34, .int x0_35, .int x0_36, .int x0_37, .ref y0_38, .ref y0_39, .ref y0_40, .ref y0_41, .ref y0_42, .ref y0_43, .int x0_44, .ref y0_45, .ref y0_46, .ref y0_47, .ref y0_48, .int x0_49, .int x0_50])), (h1, .inl (G.2.2.1, 256, .inl a1))]
set_option maxHeartbeats 4000000 in
set_option maxRecDepth 100000 in
theorem c_X11_noneTaken (l : Launch) (G : GG) (h0 h1 y0_0 y0_1 y0_2 y0_3 y0_4 y0_6 y0_18 y0_21 y0_22 y0_23 y0_24 y0_26 y0_33 y0_34 y0_38 y0_39 y0_40 y0_41 y0_42 y0_43 y0_45 y0_46 y0_47 y0_48 : Nat) (sz : Nat) (x0_5 : Int32) (x0_7 : Int32) (x0_8 : Int32) (x0_9 : Int32) (x0_10 : Int32) (x0_11 : Int32) (x0_12 : Int32) (x0_13 : Int32) (x0_14 : Int32) (x0_15 : Int32) (x0_16 : Int32) (x0_17 : Int32) (x0_19 : Int32) (x0_20 : Int32) (x0_27 : Int32) (x0_28 : Int32) (x0_29 : Int32) (x0_30 : Int32) (x0_31 : Int32) (x0_32 : Int32) (x0_35 : Int32) (x0_36 : Int32) (x0_37 : Int32) (x0_44 : Int32) (x0_49 : Int32) (x0_50 : Int32) (a1 : Nat → Int32) (F : Nat)   (r0 : Int32) (hf : p_X11_noneTaken F a1  = some r0) : Met l yX11_noneTaken (.code yX11_noneTaken cX11_noneTaken 2 (some .boolean) :: gtbl) ({ frames := 0, cells := 0, slots := 0, locals := 0 } : Room) (PcS G [.ref h0] (wW_X11_noneTaken G h0 h1 y0_0 y0_1 y0_2 y0_3 y0_4 y0_6 y0_18 y0_21 y0_22 y0_23 y0_24 y0_26 y0_33 y0_34 y0_38 y0_39 y0_40 y0_41 y0_42 y0_43 y0_45 y0_46 y0_47 y0_48 x0_5 x0_7 x0_8 x0_9 x0_10 x0_11 x0_12 x0_13 x0_14 x0_15 x0_16 x0_17 x0_19 x0_20 x0_27 x0_28 x0_29 x0_30 x0_31 x0_32 x0_35 x0_36 x0_37 x0_44 x0_49 x0_50 a1) sz) (QiS G r0 (va_A (wW_X11_noneTaken G h0 h1 y0_0 y0_1 y0_2 y0_3 y0_4 y0_6 y0_18 y0_21 y0_22 y0_23 y0_24 y0_26 y0_33 y0_34 y0_38 y0_39 y0_40 y0_41 y0_42 y0_43 y0_45 y0_46 y0_47 y0_48 x0_5 x0_7 x0_8 x0_9 x0_10 x0_11 x0_12 x0_13 x0_14 x0_15 x0_16 x0_17 x0_19 x0_20 x0_27 x0_28 x0_29 x0_30 x0_31 x0_32 x0_35 x0_36 x0_37 x0_44 x0_49 x0_50 a1) sz) (wW_X11_noneTaken G h0 h1 y0_0 y0_1 y0_2 y0_3 y0_4 y0_6 y0_18 y0_21 y0_22 y0_23 y0_24 y0_26 y0_33 y0_34 y0_38 y0_39 y0_40 y0_41 y0_42 y0_43 y0_45 y0_46 y0_47 y0_48 x0_5 x0_7 x0_8 x0_9 x0_10 x0_11 x0_12 x0_13 x0_14 x0_15 x0_16 x0_17 x0_19 x0_20 x0_27 x0_28 x0_29 x0_30 x0_31 x0_32 x0_35 x0_36 x0_37 x0_44 x0_49 x0_50 a1)) 0 0 (va_A (wW_X11_noneTaken G h0 h1 y0_0 y0_1 y0_2 y0_3 y0_4 y0_6 y0_18 y0_21 y0_22 y0_23 y0_24 y0_26 y0_33 y0_34 y0_38 y0_39 y0_40 y0_41 y0_42 y0_43 y0_45 y0_46 y0_47 y0_48 x0_5 x0_7 x0_8 x0_9 x0_10 x0_11 x0_12 x0_13 x0_14 x0_15 x0_16 x0_17 x0_19 x0_20 x0_27 x0_28 x0_29 x0_30 x0_31 x0_32 x0_35 x0_36 x0_37 x0_44 x0_49 x0_50 a1) sz) := by
  refine met_start (by decide) (Nat.le_of_ble_eq_true rfl) ?_
  intro p e s m below meth c hC hr hlk hnm hK hP hD hA hS hX ls hl
  obtain ⟨hx, hb, hml, hown, ht0⟩ := hC
  have hown : s.vm.findClass RX11 = some m.cls := hown
  generalize va_A (wW_X11_noneTaken G h0 h1 y0_0 y0_1 y0_2 y0_3 y0_4 y0_6 y0_18 y0_21 y0_22 y0_23 y0_24 y0_26 y0_33 y0_34 y0_38 y0_39 y0_40 y0_41 y0_42 y0_43 y0_45 y0_46 y0_47 y0_48 x0_5 x0_7 x0_8 x0_9 x0_10 x0_11 x0_12 x0_13 x0_14 x0_15 x0_16 x0_17 x0_19 x0_20 x0_27 x0_28 x0_29 x0_30 x0_31 x0_32 x0_35 x0_36 x0_37 x0_44 x0_49 x0_50 a1) sz = A at hD hA hS hX ⊢
  have hl : lv_has ls 2 [(0, .ref h0)] := hl
  have hf : p_X11_noneTaken F a1  = some r0 := hf
  have kL2 : ∀ (n2 : Nat) (u2_1 : Int32), p_X11_noneTaken_L2 F a1 n2 u2_1 = some r0 → ∀ (H : Heap) (locs : List Loc), va_P G.1 vwCl (wW_X11_noneTaken G h0 h1 y0_0 y0_1 y0_2 y0_3 y0_4 y0_6 y0_18 y0_21 y0_22 y0_23 y0_24 y0_26 y0_33 y0_34 y0_38 y0_39 y0_40 y0_41 y0_42 y0_43 y0_45 y0_46 y0_47 y0_48 x0_5 x0_7 x0_8 x0_9 x0_10 x0_11 x0_12 x0_13 x0_14 x0_15 x0_16 x0_17 x0_19 x0_20 x0_27 x0_28 x0_29 x0_30 x0_31 x0_32 x0_35 x0_36 x0_37 x0_44 x0_49 x0_50 a1) H → va_D A (wW_X11_noneTaken G h0 h1 y0_0 y0_1 y0_2 y0_3 y0_4 y0_6 y0_18 y0_21 y0_22 y0_23 y0_24 y0_26 y0_33 y0_34 y0_38 y0_39 y0_40 y0_41 y0_42 y0_43 y0_45 y0_46 y0_47 y0_48 x0_5 x0_7 x0_8 x0_9 x0_10 x0_11 x0_12 x0_13 x0_14 x0_15 x0_16 x0_17 x0_19 x0_20 x0_27 x0_28 x0_29 x0_30 x0_31 x0_32 x0_35 x0_36 x0_37 x0_44 x0_49 x0_50 a1) → va_S A s.heap H locs → ∀ ls : Array Slot, lv_has ls 2 [(0, .ref h0), (1, .int u2_1)] → W p l e ({ frames := 0, cells := 0, slots := 0, locals := 0 } : Room) s m (List.toArray [.ref h0]) below meth c H locs 0 0 (MQ below (QiS G r0 A (wW_X11_noneTaken G h0 h1 y0_0 y0_1 y0_2 y0_3 y0_4 y0_6 y0_18 y0_21 y0_22 y0_23 y0_24 y0_26 y0_33 y0_34 y0_38 y0_39 y0_40 y0_41 y0_42 y0_43 y0_45 y0_46 y0_47 y0_48 x0_5 x0_7 x0_8 x0_9 x0_10 x0_11 x0_12 x0_13 x0_14 x0_15 x0_16 x0_17 x0_19 x0_20 x0_27 x0_28 x0_29 x0_30 x0_31 x0_32 x0_35 x0_36 x0_37 x0_44 x0_49 x0_50 a1)) (List.toArray [.ref h0]) s 0 0 A) (F0 m 2 ls []) := by
    intro n2
    induction n2 with
    | zero =>
      intro u2_1 hf
      cases hf
    | succ n2 ih2 =>
      intro u2_1 hf H locs hP hD hS ls hl
      have hf : p_X11_noneTaken_L2b F a1 (p_X11_noneTaken_L2 F a1 n2) u2_1 = some r0 := hf
      refine lv_iload_n hx hb dX11_noneTaken_2 rfl (lv_at hl 1 rfl) ?_
      refine lv_sipush (v := (256 : Int32)) hx hb dX11_noneTaken_3 (by decide) ?_
      refine lv_icmp_ge (tgt := 26) hx hb dX11_noneTaken_6 (by decide) (fun c1 => ?_) (fun c1 => ?_)
      · have hf := of_pos hf c1
        refine lv_iconst (v := (1 : Int32)) hx hb dX11_noneTaken_26 (by decide) ?_
        cases hf
        exact ret_z hx hb hr hlk hK hP hD hS (by decide) dX11_noneTaken_27
      · have hf := of_neg hf c1
        refine lv_aload_n hx hb dX11_noneTaken_9 rfl (lv_at hl 0 rfl) ?_
        refine va_get (ci := 11) (v := .ref h1) (C := RX11) (T := TX11) (N := 51) hx hb ht0 iX11 hown hK hP 0 rfl rfl 25 (by decide) (ht0 _ wd_1431) (fun _ h9 => h9) rfl dX11_noneTaken_10 ?_
        refine lv_iload_n hx hb dX11_noneTaken_13 rfl (lv_at hl 1 rfl) ?_
        obtain ⟨g2, hf⟩ := of_grd hf
        refine va_zald hx hb hK hP 1 1 rfl rfl g2 dX11_noneTaken_14 ?_
        refine lv_if_eq (tgt := 20) hx hb dX11_noneTaken_15 (by decide) (fun c3 => ?_) (fun c3 => ?_)
        · have hf := of_pos hf c3
          refine lv_iinc (v := u2_1 + (1 : Int32)) (lv' := [(1, .int (u2_1 + (1 : Int32))), (0, .ref h0)]) hx hb dX11_noneTaken_20 hl (k := 1) rfl (by rfl) (by decide) rfl (fun ls hl => ?_)
          refine lv_goto (tgt := 2) hx hb dX11_noneTaken_23 (by decide) ?_
          exact ih2 _ hf _ _ hP hD hS _ (lv_sub hl [1, 0] rfl)
        · have hf := of_neg hf c3
          refine lv_iconst (v := (0 : Int32)) hx hb dX11_noneTaken_18 (by decide) ?_
          cases hf
          exact ret_z hx hb hr hlk hK hP hD hS (by decide) dX11_noneTaken_19
  refine lv_iconst (v := (0 : Int32)) hx hb dX11_noneTaken_0 (by decide) ?_
  refine lv_istore_n (lv' := [(1, .int (0 : Int32)), (0, .ref h0)]) hx hb dX11_noneTaken_1 rfl hl (by decide) rfl (fun ls hl => ?_)
  exact kL2 _ _ hf _ _ hP hD hS _ (lv_sub hl [1, 0] rfl)
theorem yk_X11_noneTaken : ykV yX11_noneTaken RX11 cX11_noneTaken 2 (some .boolean) 0 := ⟨wd_1369, wd_62, wd_142, wd_1370, rfl, by decide +kernel, by decide +kernel, by decide +kernel⟩
theorem dX11_balancedFor_0 : decode cX11_balancedFor 0 = .ok (.aload_n 0, 1) := by decide +kernel
theorem dX11_balancedFor_1 : decode cX11_balancedFor 1 = .ok (.invokevirtual 248, 3) := by decide +kernel
theorem dX11_balancedFor_4 : decode cX11_balancedFor 4 = .ok (.ifCond .eq 24, 3) := by decide +kernel
theorem dX11_balancedFor_7 : decode cX11_balancedFor 7 = .ok (.iconst 0, 1) := by decide +kernel
theorem dX11_balancedFor_8 : decode cX11_balancedFor 8 = .ok (.istore_n 2, 1) := by decide +kernel
theorem dX11_balancedFor_9 : decode cX11_balancedFor 9 = .ok (.iload_n 2, 1) := by decide +kernel
theorem dX11_balancedFor_10 : decode cX11_balancedFor 10 = .ok (.bipush 8, 2) := by decide +kernel
theorem dX11_balancedFor_12 : decode cX11_balancedFor 12 = .ok (.if_icmp .ge 16, 3) := by decide +kernel
theorem dX11_balancedFor_15 : decode cX11_balancedFor 15 = .ok (.aload_n 0, 1) := by decide +kernel
theorem dX11_balancedFor_16 : decode cX11_balancedFor 16 = .ok (.getfield 45, 3) := by decide +kernel
theorem dX11_balancedFor_19 : decode cX11_balancedFor 19 = .ok (.iload_n 2, 1) := by decide +kernel
theorem dX11_balancedFor_20 : decode cX11_balancedFor 20 = .ok (.iconst 0, 1) := by decide +kernel
theorem dX11_balancedFor_21 : decode cX11_balancedFor 21 = .ok (.iastore, 1) := by decide +kernel
theorem dX11_balancedFor_22 : decode cX11_balancedFor 22 = .ok (.iinc 2 1, 3) := by decide +kernel
theorem dX11_balancedFor_25 : decode cX11_balancedFor 25 = .ok (.goto (-16), 3) := by decide +kernel
theorem dX11_balancedFor_28 : decode cX11_balancedFor 28 = .ok (.iconst (-1), 1) := by decide +kernel
theorem dX11_balancedFor_29 : decode cX11_balancedFor 29 = .ok (.istore_n 2, 1) := by decide +kernel
theorem dX11_balancedFor_30 : decode cX11_balancedFor 30 = .ok (.ldc 251, 2) := by decide +kernel
theorem dX11_balancedFor_32 : decode cX11_balancedFor 32 = .ok (.istore_n 3, 1) := by decide +kernel
theorem dX11_balancedFor_33 : decode cX11_balancedFor 33 = .ok (.iconst 0, 1) := by decide +kernel
theorem dX11_balancedFor_34 : decode cX11_balancedFor 34 = .ok (.istore 4, 2) := by decide +kernel
theorem dX11_balancedFor_36 : decode cX11_balancedFor 36 = .ok (.iload 4, 2) := by decide +kernel
theorem dX11_balancedFor_38 : decode cX11_balancedFor 38 = .ok (.aload_n 0, 1) := by decide +kernel
theorem dX11_balancedFor_39 : decode cX11_balancedFor 39 = .ok (.getfield 236, 3) := by decide +kernel
theorem dX11_balancedFor_42 : decode cX11_balancedFor 42 = .ok (.if_icmp .ge 105, 3) := by decide +kernel
theorem dX11_balancedFor_45 : decode cX11_balancedFor 45 = .ok (.aload_n 0, 1) := by decide +kernel
theorem dX11_balancedFor_46 : decode cX11_balancedFor 46 = .ok (.getfield 36, 3) := by decide +kernel
theorem dX11_balancedFor_49 : decode cX11_balancedFor 49 = .ok (.iload 4, 2) := by decide +kernel
theorem dX11_balancedFor_51 : decode cX11_balancedFor 51 = .ok (.iaload, 1) := by decide +kernel
theorem dX11_balancedFor_52 : decode cX11_balancedFor 52 = .ok (.istore 5, 2) := by decide +kernel
theorem dX11_balancedFor_54 : decode cX11_balancedFor 54 = .ok (.aload_n 0, 1) := by decide +kernel
theorem dX11_balancedFor_55 : decode cX11_balancedFor 55 = .ok (.getfield 48, 3) := by decide +kernel
theorem dX11_balancedFor_58 : decode cX11_balancedFor 58 = .ok (.iload 5, 2) := by decide +kernel
theorem dX11_balancedFor_60 : decode cX11_balancedFor 60 = .ok (.baload, 1) := by decide +kernel
theorem dX11_balancedFor_61 : decode cX11_balancedFor 61 = .ok (.ifCond .eq 6, 3) := by decide +kernel
theorem dX11_balancedFor_64 : decode cX11_balancedFor 64 = .ok (.goto 77, 3) := by decide +kernel
theorem dX11_balancedFor_67 : decode cX11_balancedFor 67 = .ok (.iload_n 2, 1) := by decide +kernel
theorem dX11_balancedFor_68 : decode cX11_balancedFor 68 = .ok (.ifCond .lt 18, 3) := by decide +kernel
theorem dX11_balancedFor_71 : decode cX11_balancedFor 71 = .ok (.iload 5, 2) := by decide +kernel
theorem dX11_balancedFor_73 : decode cX11_balancedFor 73 = .ok (.invokestatic 192, 3) := by decide +kernel
theorem dX11_balancedFor_76 : decode cX11_balancedFor 76 = .ok (.iload_n 2, 1) := by decide +kernel
theorem dX11_balancedFor_77 : decode cX11_balancedFor 77 = .ok (.invokestatic 192, 3) := by decide +kernel
theorem dX11_balancedFor_80 : decode cX11_balancedFor 80 = .ok (.if_icmp .le 6, 3) := by decide +kernel
theorem dX11_balancedFor_83 : decode cX11_balancedFor 83 = .ok (.goto 58, 3) := by decide +kernel
theorem dX11_balancedFor_86 : decode cX11_balancedFor 86 = .ok (.iconst 0, 1) := by decide +kernel
theorem dX11_balancedFor_87 : decode cX11_balancedFor 87 = .ok (.istore 6, 2) := by decide +kernel
theorem dX11_balancedFor_89 : decode cX11_balancedFor 89 = .ok (.iconst 0, 1) := by decide +kernel
theorem dX11_balancedFor_90 : decode cX11_balancedFor 90 = .ok (.istore 7, 2) := by decide +kernel
theorem dX11_balancedFor_92 : decode cX11_balancedFor 92 = .ok (.iload 7, 2) := by decide +kernel
theorem dX11_balancedFor_94 : decode cX11_balancedFor 94 = .ok (.iload_n 1, 1) := by decide +kernel
theorem dX11_balancedFor_95 : decode cX11_balancedFor 95 = .ok (.if_icmp .ge 31, 3) := by decide +kernel
theorem dX11_balancedFor_98 : decode cX11_balancedFor 98 = .ok (.iload 6, 2) := by decide +kernel
theorem dX11_balancedFor_100 : decode cX11_balancedFor 100 = .ok (.aload_n 0, 1) := by decide +kernel
theorem dX11_balancedFor_101 : decode cX11_balancedFor 101 = .ok (.getfield 45, 3) := by decide +kernel
theorem dX11_balancedFor_104 : decode cX11_balancedFor 104 = .ok (.iload 7, 2) := by decide +kernel
theorem dX11_balancedFor_106 : decode cX11_balancedFor 106 = .ok (.iaload, 1) := by decide +kernel
theorem dX11_balancedFor_107 : decode cX11_balancedFor 107 = .ok (.iload 5, 2) := by decide +kernel
theorem dX11_balancedFor_109 : decode cX11_balancedFor 109 = .ok (.iload 7, 2) := by decide +kernel
theorem dX11_balancedFor_111 : decode cX11_balancedFor 111 = .ok (.ishr, 1) := by decide +kernel
theorem dX11_balancedFor_112 : decode cX11_balancedFor 112 = .ok (.iconst 1, 1) := by decide +kernel
theorem dX11_balancedFor_113 : decode cX11_balancedFor 113 = .ok (.iand, 1) := by decide +kernel
theorem dX11_balancedFor_114 : decode cX11_balancedFor 114 = .ok (.iadd, 1) := by decide +kernel
theorem dX11_balancedFor_115 : decode cX11_balancedFor 115 = .ok (.invokestatic 252, 3) := by decide +kernel
theorem dX11_balancedFor_118 : decode cX11_balancedFor 118 = .ok (.istore 6, 2) := by decide +kernel
theorem dX11_balancedFor_120 : decode cX11_balancedFor 120 = .ok (.iinc 7 1, 3) := by decide +kernel
theorem dX11_balancedFor_123 : decode cX11_balancedFor 123 = .ok (.goto (-31), 3) := by decide +kernel
theorem dX11_balancedFor_126 : decode cX11_balancedFor 126 = .ok (.iload 6, 2) := by decide +kernel
theorem dX11_balancedFor_128 : decode cX11_balancedFor 128 = .ok (.iload_n 3, 1) := by decide +kernel
theorem dX11_balancedFor_129 : decode cX11_balancedFor 129 = .ok (.if_icmp .lt 6, 3) := by decide +kernel
theorem dX11_balancedFor_132 : decode cX11_balancedFor 132 = .ok (.goto 9, 3) := by decide +kernel
theorem dX11_balancedFor_135 : decode cX11_balancedFor 135 = .ok (.iload 5, 2) := by decide +kernel
theorem dX11_balancedFor_137 : decode cX11_balancedFor 137 = .ok (.istore_n 2, 1) := by decide +kernel
theorem dX11_balancedFor_138 : decode cX11_balancedFor 138 = .ok (.iload 6, 2) := by decide +kernel
theorem dX11_balancedFor_140 : decode cX11_balancedFor 140 = .ok (.istore_n 3, 1) := by decide +kernel
theorem dX11_balancedFor_141 : decode cX11_balancedFor 141 = .ok (.iinc 4 1, 3) := by decide +kernel
theorem dX11_balancedFor_144 : decode cX11_balancedFor 144 = .ok (.goto (-108), 3) := by decide +kernel
theorem dX11_balancedFor_147 : decode cX11_balancedFor 147 = .ok (.aload_n 0, 1) := by decide +kernel
theorem dX11_balancedFor_148 : decode cX11_balancedFor 148 = .ok (.getfield 48, 3) := by decide +kernel
theorem dX11_balancedFor_151 : decode cX11_balancedFor 151 = .ok (.iload_n 2, 1) := by decide +kernel
theorem dX11_balancedFor_152 : decode cX11_balancedFor 152 = .ok (.iconst 1, 1) := by decide +kernel
theorem dX11_balancedFor_153 : decode cX11_balancedFor 153 = .ok (.bastore, 1) := by decide +kernel
theorem dX11_balancedFor_154 : decode cX11_balancedFor 154 = .ok (.iconst 0, 1) := by decide +kernel
theorem dX11_balancedFor_155 : decode cX11_balancedFor 155 = .ok (.istore 4, 2) := by decide +kernel
theorem dX11_balancedFor_157 : decode cX11_balancedFor 157 = .ok (.iload 4, 2) := by decide +kernel
theorem dX11_balancedFor_159 : decode cX11_balancedFor 159 = .ok (.iload_n 1, 1) := by decide +kernel
theorem dX11_balancedFor_160 : decode cX11_balancedFor 160 = .ok (.if_icmp .ge 25, 3) := by decide +kernel
theorem dX11_balancedFor_163 : decode cX11_balancedFor 163 = .ok (.aload_n 0, 1) := by decide +kernel
theorem dX11_balancedFor_164 : decode cX11_balancedFor 164 = .ok (.getfield 45, 3) := by decide +kernel
theorem dX11_balancedFor_167 : decode cX11_balancedFor 167 = .ok (.iload 4, 2) := by decide +kernel
theorem dX11_balancedFor_169 : decode cX11_balancedFor 169 = .ok (.dup2, 1) := by decide +kernel
theorem dX11_balancedFor_170 : decode cX11_balancedFor 170 = .ok (.iaload, 1) := by decide +kernel
theorem dX11_balancedFor_171 : decode cX11_balancedFor 171 = .ok (.iload_n 2, 1) := by decide +kernel
theorem dX11_balancedFor_172 : decode cX11_balancedFor 172 = .ok (.iload 4, 2) := by decide +kernel
theorem dX11_balancedFor_174 : decode cX11_balancedFor 174 = .ok (.ishr, 1) := by decide +kernel
theorem dX11_balancedFor_175 : decode cX11_balancedFor 175 = .ok (.iconst 1, 1) := by decide +kernel
theorem dX11_balancedFor_176 : decode cX11_balancedFor 176 = .ok (.iand, 1) := by decide +kernel
theorem dX11_balancedFor_177 : decode cX11_balancedFor 177 = .ok (.iadd, 1) := by decide +kernel
theorem dX11_balancedFor_178 : decode cX11_balancedFor 178 = .ok (.iastore, 1) := by decide +kernel
theorem dX11_balancedFor_179 : decode cX11_balancedFor 179 = .ok (.iinc 4 1, 3) := by decide +kernel
theorem dX11_balancedFor_182 : decode cX11_balancedFor 182 = .ok (.goto (-25), 3) := by decide +kernel
theorem dX11_balancedFor_185 : decode cX11_balancedFor 185 = .ok (.iload_n 2, 1) := by decide +kernel
theorem dX11_balancedFor_186 : decode cX11_balancedFor 186 = .ok (.ireturn, 1) := by decide +kernel
def wW_X11_balancedFor (G : GG) (h0 h1 h2 h3 y0_0 y0_1 y0_2 y0_3 y0_4 y0_6 y0_18 y0_22 y0_23 y0_26 y0_33 y0_34 y0_38 y0_39 y0_40 y0_41 y0_42 y0_43 y0_45 y0_46 y0_47 y0_48 : Nat) (x0_5 : Int32) (x0_7 : Int32) (x0_8 : Int32) (x0_9 : Int32) (x0_10 : Int32) (x0_11 : Int32) (x0_12 : Int32) (x0_13 : Int32) (x0_14 : Int32) (x0_15 : Int32) (x0_16 : Int32) (x0_17 : Int32) (x0_19 : Int32) (x0_20 : Int32) (x0_27 : Int32) (x0_28 : Int32) (x0_29 : Int32) (x0_30 : Int32) (x0_31 : Int32) (x0_32 : Int32) (x0_35 : Int32) (x0_36 : Int32) (x0_37 : Int32) (x0_44 : Int32) (x0_49 : Int32) (x0_50 : Int32) (a1 : Nat → Int32) (a2 : Nat → Int32) (a3 : Nat → Int32) : va_W := [(h0, .inr (11, [.ref y0_0, .ref y0_1, .ref y0_2, .ref y0_3, .ref y0_4, .int x0_5, .ref y0_6, .int x0_7, .int x0_8, .int x0_9, .int x0_10, .int x0_11, .int x0_12, .int x0_13, .int x0_14, .int x0_15, .int x0_16, .int x0_17, .ref y0_18, .int x0_19, .int x0_20, .ref h1, .ref y0_22, .ref y0_23, .ref h2, .ref h3, .ref y0_26, .int x0_27, .int x0_28, .int x0_29, .int x0_30, .int x0_31, .int x0_32, .ref y0_33, .ref y0_34, .int x0_35, .int x0_36, .int x0_37, .ref y0_38, .ref y0_39, .ref y0_40, .ref y0_41, .ref y0_42, .ref y0_43, .int x0_44, .ref y0_45, .ref y0_46, .ref y0_47, .ref y0_48, .int x0_49, .int x0_50])), (h1, .inl (G.2.1, 128, .inl a1)), (h2, .inl (G.2.1, 8, .inl a2)), (h3, .inl (G.2.2.1, 256, .inl a3))]
set_option maxHeartbeats 4000000 in
set_option maxRecDepth 100000 in
theorem c_X11_balancedFor (l : Launch) (G : GG) (h0 h1 h2 h3 y0_0 y0_1 y0_2 y0_3 y0_4 y0_6 y0_18 y0_22 y0_23 y0_26 y0_33 y0_34 y0_38 y0_39 y0_40 y0_41 y0_42 y0_43 y0_45 y0_46 y0_47 y0_48 : Nat) (sz : Nat) (x0_5 : Int32) (x0_7 : Int32) (x0_8 : Int32) (x0_9 : Int32) (x0_10 : Int32) (x0_11 : Int32) (x0_12 : Int32) (x0_13 : Int32) (x0_14 : Int32) (x0_15 : Int32) (x0_16 : Int32) (x0_17 : Int32) (x0_19 : Int32) (x0_20 : Int32) (x0_27 : Int32) (x0_28 : Int32) (x0_29 : Int32) (x0_30 : Int32) (x0_31 : Int32) (x0_32 : Int32) (x0_35 : Int32) (x0_36 : Int32) (x0_37 : Int32) (x0_44 : Int32) (x0_49 : Int32) (x0_50 : Int32) (a1 : Nat → Int32) (a2 : Nat → Int32) (a3 : Nat → Int32) (F : Nat) (b1 : Int32)  (r0 : Int32) (e_a2 : Nat → Int32) (e_a3 : Nat → Int32) (hf : p_X11_balancedFor F x0_27 a1 a2 a3 b1 = some (r0, e_a2, e_a3)) : Met l yX11_balancedFor (.code yX11_balancedFor cX11_balancedFor 8 (some .int) :: gtbl) ({ frames := 1, cells := 0, slots := 0, locals := 22 } : Room) (PcS G [.ref h0, .int b1] (wW_X11_balancedFor G h0 h1 h2 h3 y0_0 y0_1 y0_2 y0_3 y0_4 y0_6 y0_18 y0_22 y0_23 y0_26 y0_33 y0_34 y0_38 y0_39 y0_40 y0_41 y0_42 y0_43 y0_45 y0_46 y0_47 y0_48 x0_5 x0_7 x0_8 x0_9 x0_10 x0_11 x0_12 x0_13 x0_14 x0_15 x0_16 x0_17 x0_19 x0_20 x0_27 x0_28 x0_29 x0_30 x0_31 x0_32 x0_35 x0_36 x0_37 x0_44 x0_49 x0_50 a1 a2 a3) sz) (QiS G r0 (va_A (wW_X11_balancedFor G h0 h1 h2 h3 y0_0 y0_1 y0_2 y0_3 y0_4 y0_6 y0_18 y0_22 y0_23 y0_26 y0_33 y0_34 y0_38 y0_39 y0_40 y0_41 y0_42 y0_43 y0_45 y0_46 y0_47 y0_48 x0_5 x0_7 x0_8 x0_9 x0_10 x0_11 x0_12 x0_13 x0_14 x0_15 x0_16 x0_17 x0_19 x0_20 x0_27 x0_28 x0_29 x0_30 x0_31 x0_32 x0_35 x0_36 x0_37 x0_44 x0_49 x0_50 a1 a2 a3) sz) (wW_X11_balancedFor G h0 h1 h2 h3 y0_0 y0_1 y0_2 y0_3 y0_4 y0_6 y0_18 y0_22 y0_23 y0_26 y0_33 y0_34 y0_38 y0_39 y0_40 y0_41 y0_42 y0_43 y0_45 y0_46 y0_47 y0_48 x0_5 x0_7 x0_8 x0_9 x0_10 x0_11 x0_12 x0_13 x0_14 x0_15 x0_16 x0_17 x0_19 x0_20 x0_27 x0_28 x0_29 x0_30 x0_31 x0_32 x0_35 x0_36 x0_37 x0_44 x0_49 x0_50 a1 e_a2 e_a3)) 0 0 (va_A (wW_X11_balancedFor G h0 h1 h2 h3 y0_0 y0_1 y0_2 y0_3 y0_4 y0_6 y0_18 y0_22 y0_23 y0_26 y0_33 y0_34 y0_38 y0_39 y0_40 y0_41 y0_42 y0_43 y0_45 y0_46 y0_47 y0_48 x0_5 x0_7 x0_8 x0_9 x0_10 x0_11 x0_12 x0_13 x0_14 x0_15 x0_16 x0_17 x0_19 x0_20 x0_27 x0_28 x0_29 x0_30 x0_31 x0_32 x0_35 x0_36 x0_37 x0_44 x0_49 x0_50 a1 a2 a3) sz) := by
  refine met_start (by decide) (Nat.le_of_ble_eq_true rfl) ?_
  intro p e s m below meth c hC hr hlk hnm hK hP hD hA hS hX ls hl
  obtain ⟨hx, hb, hml, hown, ht0⟩ := hC
  have hown : s.vm.findClass RX11 = some m.cls := hown
  generalize va_A (wW_X11_balancedFor G h0 h1 h2 h3 y0_0 y0_1 y0_2 y0_3 y0_4 y0_6 y0_18 y0_22 y0_23 y0_26 y0_33 y0_34 y0_38 y0_39 y0_40 y0_41 y0_42 y0_43 y0_45 y0_46 y0_47 y0_48 x0_5 x0_7 x0_8 x0_9 x0_10 x0_11 x0_12 x0_13 x0_14 x0_15 x0_16 x0_17 x0_19 x0_20 x0_27 x0_28 x0_29 x0_30 x0_31 x0_32 x0_35 x0_36 x0_37 x0_44 x0_49 x0_50 a1 a2 a3) sz = A at hD hA hS hX ⊢
  have hl : lv_has ls 8 [(0, .ref h0), (1, .int b1)] := hl
  have hf : p_X11_balancedFor F x0_27 a1 a2 a3 b1 = some (r0, e_a2, e_a3) := hf
  have kL157 : ∀ (c157_1 : Int32) (c157_2 : Int32) (n157 : Nat) (u157_4 : Int32) (a2_157 : Nat → Int32) (a3_157 : Nat → Int32), p_X11_balancedFor_L157 F x0_27 a1 c157_1 c157_2 n157 u157_4 a2_157 a3_157 = some (r0, e_a2, e_a3) → ∀ (H : Heap) (locs : List Loc), va_P G.1 vwCl (wW_X11_balancedFor G h0 h1 h2 h3 y0_0 y0_1 y0_2 y0_3 y0_4 y0_6 y0_18 y0_22 y0_23 y0_26 y0_33 y0_34 y0_38 y0_39 y0_40 y0_41 y0_42 y0_43 y0_45 y0_46 y0_47 y0_48 x0_5 x0_7 x0_8 x0_9 x0_10 x0_11 x0_12 x0_13 x0_14 x0_15 x0_16 x0_17 x0_19 x0_20 x0_27 x0_28 x0_29 x0_30 x0_31 x0_32 x0_35 x0_36 x0_37 x0_44 x0_49 x0_50 a1 a2_157 a3_157) H → va_D A (wW_X11_balancedFor G h0 h1 h2 h3 y0_0 y0_1 y0_2 y0_3 y0_4 y0_6 y0_18 y0_22 y0_23 y0_26 y0_33 y0_34 y0_38 y0_39 y0_40 y0_41 y0_42 y0_43 y0_45 y0_46 y0_47 y0_48 x0_5 x0_7 x0_8 x0_9 x0_10 x0_11 x0_12 x0_13 x0_14 x0_15 x0_16 x0_17 x0_19 x0_20 x0_27 x0_28 x0_29 x0_30 x0_31 x0_32 x0_35 x0_36 x0_37 x0_44 x0_49 x0_50 a1 a2_157 a3_157) → va_S A s.heap H locs → ∀ ls : Array Slot, lv_has ls 8 [(0, .ref h0), (1, .int c157_1), (2, .int c157_2), (4, .int u157_4)] → W p l e ({ frames := 1, cells := 0, slots := 0, locals := 22 } : Room) s m (List.toArray [.ref h0, .int b1]) below meth c H locs 0 0 (MQ below (QiS G r0 A (wW_X11_balancedFor G h0 h1 h2 h3 y0_0 y0_1 y0_2 y0_3 y0_4 y0_6 y0_18 y0_22 y0_23 y0_26 y0_33 y0_34 y0_38 y0_39 y0_40 y0_41 y0_42 y0_43 y0_45 y0_46 y0_47 y0_48 x0_5 x0_7 x0_8 x0_9 x0_10 x0_11 x0_12 x0_13 x0_14 x0_15 x0_16 x0_17 x0_19 x0_20 x0_27 x0_28 x0_29 x0_30 x0_31 x0_32 x0_35 x0_36 x0_37 x0_44 x0_49 x0_50 a1 e_a2 e_a3)) (List.toArray [.ref h0, .int b1]) s 0 0 A) (F0 m 157 ls []) := by
    intro c157_1 c157_2 n157
    induction n157 with
    | zero =>
      intro u157_4 a2_157 a3_157 hf
      cases hf
    | succ n157 ih157 =>
      intro u157_4 a2_157 a3_157 hf H locs hP hD hS ls hl
      have hf : p_X11_balancedFor_L157b F x0_27 a1 c157_1 c157_2 (p_X11_balancedFor_L157 F x0_27 a1 c157_1 c157_2 n157) u157_4 a2_157 a3_157 = some (r0, e_a2, e_a3) := hf
      refine lv_iload hx hb dX11_balancedFor_157 (lv_at hl 3 rfl) ?_
      refine lv_iload_n hx hb dX11_balancedFor_159 rfl (lv_at hl 1 rfl) ?_
      refine lv_icmp_ge (tgt := 185) hx hb dX11_balancedFor_160 (by decide) (fun c1 => ?_) (fun c1 => ?_)
      · have hf := of_pos hf c1
        refine lv_iload_n hx hb dX11_balancedFor_185 rfl (lv_at hl 2 rfl) ?_
        cases hf
        exact ret_i hx hb hr hlk hK hP hD hS dX11_balancedFor_186
      · have hf := of_neg hf c1
        refine lv_aload_n hx hb dX11_balancedFor_163 rfl (lv_at hl 0 rfl) ?_
        refine va_get (ci := 11) (v := .ref h2) (C := RX11) (T := TX11) (N := 51) hx hb ht0 iX11 hown hK hP 0 rfl rfl 24 (by decide) (ht0 _ wd_1430) (fun _ h9 => h9) rfl dX11_balancedFor_164 ?_
        refine lv_iload hx hb dX11_balancedFor_167 (lv_at hl 3 rfl) ?_
        refine lv_dup2_11 hx hb dX11_balancedFor_169 rfl rfl ?_
        obtain ⟨g2, hf⟩ := of_grd hf
        refine va_iald hx hb hK hP 2 0 rfl rfl g2 dX11_balancedFor_170 ?_
        refine lv_iload_n hx hb dX11_balancedFor_171 rfl (lv_at hl 2 rfl) ?_
        refine lv_iload hx hb dX11_balancedFor_172 (lv_at hl 3 rfl) ?_
        refine lv_ishr hx hb dX11_balancedFor_174 ?_
        refine lv_iconst (v := (1 : Int32)) hx hb dX11_balancedFor_175 (by decide) ?_
        refine lv_iand hx hb dX11_balancedFor_176 ?_
        refine lv_iadd hx hb dX11_balancedFor_177 ?_
        obtain ⟨g3, hf⟩ := of_grd hf
        refine va_iast hx hb hK hP hD hS 2 0 rfl rfl g3 dX11_balancedFor_178 (fun H locs hP hD hS => ?_)
        have hP : va_P G.1 vwCl (wW_X11_balancedFor G h0 h1 h2 h3 y0_0 y0_1 y0_2 y0_3 y0_4 y0_6 y0_18 y0_22 y0_23 y0_26 y0_33 y0_34 y0_38 y0_39 y0_40 y0_41 y0_42 y0_43 y0_45 y0_46 y0_47 y0_48 x0_5 x0_7 x0_8 x0_9 x0_10 x0_11 x0_12 x0_13 x0_14 x0_15 x0_16 x0_17 x0_19 x0_20 x0_27 x0_28 x0_29 x0_30 x0_31 x0_32 x0_35 x0_36 x0_37 x0_44 x0_49 x0_50 a1 (upd a2_157 u157_4.toNatClampNeg ((a2_157 u157_4.toNatClampNeg) + ((c157_2 >>> (u157_4 &&& 31)) &&& (1 : Int32)))) a3_157) H := hP
        have hD : va_D A (wW_X11_balancedFor G h0 h1 h2 h3 y0_0 y0_1 y0_2 y0_3 y0_4 y0_6 y0_18 y0_22 y0_23 y0_26 y0_33 y0_34 y0_38 y0_39 y0_40 y0_41 y0_42 y0_43 y0_45 y0_46 y0_47 y0_48 x0_5 x0_7 x0_8 x0_9 x0_10 x0_11 x0_12 x0_13 x0_14 x0_15 x0_16 x0_17 x0_19 x0_20 x0_27 x0_28 x0_29 x0_30 x0_31 x0_32 x0_35 x0_36 x0_37 x0_44 x0_49 x0_50 a1 (upd a2_157 u157_4.toNatClampNeg ((a2_157 u157_4.toNatClampNeg) + ((c157_2 >>> (u157_4 &&& 31)) &&& (1 : Int32)))) a3_157) := hD
        refine lv_iinc (v := u157_4 + (1 : Int32)) (lv' := [(4, .int (u157_4 + (1 : Int32))), (0, .ref h0), (1, .int c157_1), (2, .int c157_2)]) hx hb dX11_balancedFor_179 hl (k := 3) rfl (by rfl) (by decide) rfl (fun ls hl => ?_)
        refine lv_goto (tgt := 157) hx hb dX11_balancedFor_182 (by decide) ?_
        exact ih157 _ _ _ hf _ _ hP hD hS _ (lv_sub hl [1, 2, 3, 0] rfl)
  have kL36 : ∀ (c36_1 : Int32) (n36 : Nat) (u36_2 : Int32) (u36_3 : Int32) (u36_4 : Int32) (a2_36 : Nat → Int32) (a3_36 : Nat → Int32), p_X11_balancedFor_L36 F x0_27 a1 c36_1 n36 u36_2 u36_3 u36_4 a2_36 a3_36 = some (r0, e_a2, e_a3) → ∀ (H : Heap) (locs : List Loc), va_P G.1 vwCl (wW_X11_balancedFor G h0 h1 h2 h3 y0_0 y0_1 y0_2 y0_3 y0_4 y0_6 y0_18 y0_22 y0_23 y0_26 y0_33 y0_34 y0_38 y0_39 y0_40 y0_41 y0_42 y0_43 y0_45 y0_46 y0_47 y0_48 x0_5 x0_7 x0_8 x0_9 x0_10 x0_11 x0_12 x0_13 x0_14 x0_15 x0_16 x0_17 x0_19 x0_20 x0_27 x0_28 x0_29 x0_30 x0_31 x0_32 x0_35 x0_36 x0_37 x0_44 x0_49 x0_50 a1 a2_36 a3_36) H → va_D A (wW_X11_balancedFor G h0 h1 h2 h3 y0_0 y0_1 y0_2 y0_3 y0_4 y0_6 y0_18 y0_22 y0_23 y0_26 y0_33 y0_34 y0_38 y0_39 y0_40 y0_41 y0_42 y0_43 y0_45 y0_46 y0_47 y0_48 x0_5 x0_7 x0_8 x0_9 x0_10 x0_11 x0_12 x0_13 x0_14 x0_15 x0_16 x0_17 x0_19 x0_20 x0_27 x0_28 x0_29 x0_30 x0_31 x0_32 x0_35 x0_36 x0_37 x0_44 x0_49 x0_50 a1 a2_36 a3_36) → va_S A s.heap H locs → ∀ ls : Array Slot, lv_has ls 8 [(0, .ref h0), (1, .int c36_1), (2, .int u36_2), (3, .int u36_3), (4, .int u36_4)] → W p l e ({ frames := 1, cells := 0, slots := 0, locals := 22 } : Room) s m (List.toArray [.ref h0, .int b1]) below meth c H locs 0 0 (MQ below (QiS G r0 A (wW_X11_balancedFor G h0 h1 h2 h3 y0_0 y0_1 y0_2 y0_3 y0_4 y0_6 y0_18 y0_22 y0_23 y0_26 y0_33 y0_34 y0_38 y0_39 y0_40 y0_41 y0_42 y0_43 y0_45 y0_46 y0_47 y0_48 x0_5 x0_7 x0_8 x0_9 x0_10 x0_11 x0_12 x0_13 x0_14 x0_15 x0_16 x0_17 x0_19 x0_20 x0_27 x0_28 x0_29 x0_30 x0_31 x0_32 x0_35 x0_36 x0_37 x0_44 x0_49 x0_50 a1 e_a2 e_a3)) (List.toArray [.ref h0, .int b1]) s 0 0 A) (F0 m 36 ls []) := by
    intro c36_1 n36
    induction n36 with
    | zero =>
      intro u36_2 u36_3 u36_4 a2_36 a3_36 hf
      cases hf
    | succ n36 ih36 =>
      have kJ141 : ∀ (u141_2 : Int32) (u141_3 : Int32) (u141_4 : Int32) (a2_141 : Nat → Int32) (a3_141 : Nat → Int32), p_X11_balancedFor_J141 F x0_27 a1 c36_1 (p_X11_balancedFor_L36 F x0_27 a1 c36_1 n36) u141_2 u141_3 u141_4 a2_141 a3_141 = some (r0, e_a2, e_a3) → ∀ (H : Heap) (locs : List Loc), va_P G.1 vwCl (wW_X11_balancedFor G h0 h1 h2 h3 y0_0 y0_1 y0_2 y0_3 y0_4 y0_6 y0_18 y0_22 y0_23 y0_26 y0_33 y0_34 y0_38 y0_39 y0_40 y0_41 y0_42 y0_43 y0_45 y0_46 y0_47 y0_48 x0_5 x0_7 x0_8 x0_9 x0_10 x0_11 x0_12 x0_13 x0_14 x0_15 x0_16 x0_17 x0_19 x0_20 x0_27 x0_28 x0_29 x0_30 x0_31 x0_32 x0_35 x0_36 x0_37 x0_44 x0_49 x0_50 a1 a2_141 a3_141) H → va_D A (wW_X11_balancedFor G h0 h1 h2 h3 y0_0 y0_1 y0_2 y0_3 y0_4 y0_6 y0_18 y0_22 y0_23 y0_26 y0_33 y0_34 y0_38 y0_39 y0_40 y0_41 y0_42 y0_43 y0_45 y0_46 y0_47 y0_48 x0_5 x0_7 x0_8 x0_9 x0_10 x0_11 x0_12 x0_13 x0_14 x0_15 x0_16 x0_17 x0_19 x0_20 x0_27 x0_28 x0_29 x0_30 x0_31 x0_32 x0_35 x0_36 x0_37 x0_44 x0_49 x0_50 a1 a2_141 a3_141) → va_S A s.heap H locs → ∀ ls : Array Slot, lv_has ls 8 [(0, .ref h0), (1, .int c36_1), (2, .int u141_2), (3, .int u141_3), (4, .int u141_4)] → W p l e ({ frames := 1, cells := 0, slots := 0, locals := 22 } : Room) s m (List.toArray [.ref h0, .int b1]) below meth c H locs 0 0 (MQ below (QiS G r0 A (wW_X11_balancedFor G h0 h1 h2 h3 y0_0 y0_1 y0_2 y0_3 y0_4 y0_6 y0_18 y0_22 y0_23 y0_26 y0_33 y0_34 y0_38 y0_39 y0_40 y0_41 y0_42 y0_43 y0_45 y0_46 y0_47 y0_48 x0_5 x0_7 x0_8 x0_9 x0_10 x0_11 x0_12 x0_13 x0_14 x0_15 x0_16 x0_17 x0_19 x0_20 x0_27 x0_28 x0_29 x0_30 x0_31 x0_32 x0_35 x0_36 x0_37 x0_44 x0_49 x0_50 a1 e_a2 e_a3)) (List.toArray [.ref h0, .int b1]) s 0 0 A) (F0 m 141 ls []) := by
        intro u141_2 u141_3 u141_4 a2_141 a3_141 hf H locs hP hD hS ls hl
        refine lv_iinc (v := u141_4 + (1 : Int32)) (lv' := [(4, .int (u141_4 + (1 : Int32))), (0, .ref h0), (1, .int c36_1), (2, .int u141_2), (3, .int u141_3)]) hx hb dX11_balancedFor_141 hl (k := 4) rfl (by rfl) (by decide) rfl (fun ls hl => ?_)
        refine lv_goto (tgt := 36) hx hb dX11_balancedFor_144 (by decide) ?_
        exact ih36 _ _ _ _ _ hf _ _ hP hD hS _ (lv_sub hl [1, 2, 3, 4, 0] rfl)
      have kL92 : ∀ (c92_2 : Int32) (c92_3 : Int32) (c92_4 : Int32) (c92_5 : Int32) (n92 : Nat) (u92_6 : Int32) (u92_7 : Int32) (a2_92 : Nat → Int32) (a3_92 : Nat → Int32), p_X11_balancedFor_L92 F x0_27 a1 c36_1 c92_2 c92_3 c92_4 c92_5 (p_X11_balancedFor_L36 F x0_27 a1 c36_1 n36) n92 u92_6 u92_7 a2_92 a3_92 = some (r0, e_a2, e_a3) → ∀ (H : Heap) (locs : List Loc), va_P G.1 vwCl (wW_X11_balancedFor G h0 h1 h2 h3 y0_0 y0_1 y0_2 y0_3 y0_4 y0_6 y0_18 y0_22 y0_23 y0_26 y0_33 y0_34 y0_38 y0_39 y0_40 y0_41 y0_42 y0_43 y0_45 y0_46 y0_47 y0_48 x0_5 x0_7 x0_8 x0_9 x0_10 x0_11 x0_12 x0_13 x0_14 x0_15 x0_16 x0_17 x0_19 x0_20 x0_27 x0_28 x0_29 x0_30 x0_31 x0_32 x0_35 x0_36 x0_37 x0_44 x0_49 x0_50 a1 a2_92 a3_92) H → va_D A (wW_X11_balancedFor G h0 h1 h2 h3 y0_0 y0_1 y0_2 y0_3 y0_4 y0_6 y0_18 y0_22 y0_23 y0_26 y0_33 y0_34 y0_38 y0_39 y0_40 y0_41 y0_42 y0_43 y0_45 y0_46 y0_47 y0_48 x0_5 x0_7 x0_8 x0_9 x0_10 x0_11 x0_12 x0_13 x0_14 x0_15 x0_16 x0_17 x0_19 x0_20 x0_27 x0_28 x0_29 x0_30 x0_31 x0_32 x0_35 x0_36 x0_37 x0_44 x0_49 x0_50 a1 a2_92 a3_92) → va_S A s.heap H locs → ∀ ls : Array Slot, lv_has ls 8 [(0, .ref h0), (1, .int c36_1), (2, .int c92_2), (3, .int c92_3), (4, .int c92_4), (5, .int c92_5), (6, .int u92_6), (7, .int u92_7)] → W p l e ({ frames := 1, cells := 0, slots := 0, locals := 22 } : Room) s m (List.toArray [.ref h0, .int b1]) below meth c H locs 0 0 (MQ below (QiS G r0 A (wW_X11_balancedFor G h0 h1 h2 h3 y0_0 y0_1 y0_2 y0_3 y0_4 y0_6 y0_18 y0_22 y0_23 y0_26 y0_33 y0_34 y0_38 y0_39 y0_40 y0_41 y0_42 y0_43 y0_45 y0_46 y0_47 y0_48 x0_5 x0_7 x0_8 x0_9 x0_10 x0_11 x0_12 x0_13 x0_14 x0_15 x0_16 x0_17 x0_19 x0_20 x0_27 x0_28 x0_29 x0_30 x0_31 x0_32 x0_35 x0_36 x0_37 x0_44 x0_49 x0_50 a1 e_a2 e_a3)) (List.toArray [.ref h0, .int b1]) s 0 0 A) (F0 m 92 ls []) := by
        intro c92_2 c92_3 c92_4 c92_5 n92
        induction n92 with
        | zero =>
          intro u92_6 u92_7 a2_92 a3_92 hf
          cases hf
        | succ n92 ih92 =>
          intro u92_6 u92_7 a2_92 a3_92 hf H locs hP hD hS ls hl
          have hf : p_X11_balancedFor_L92b F x0_27 a1 c36_1 c92_2 c92_3 c92_4 c92_5 (p_X11_balancedFor_L36 F x0_27 a1 c36_1 n36) (p_X11_balancedFor_L92 F x0_27 a1 c36_1 c92_2 c92_3 c92_4 c92_5 (p_X11_balancedFor_L36 F x0_27 a1 c36_1 n36) n92) u92_6 u92_7 a2_92 a3_92 = some (r0, e_a2, e_a3) := hf
          refine lv_iload hx hb dX11_balancedFor_92 (lv_at hl 7 rfl) ?_
          refine lv_iload_n hx hb dX11_balancedFor_94 rfl (lv_at hl 1 rfl) ?_
          refine lv_icmp_ge (tgt := 126) hx hb dX11_balancedFor_95 (by decide) (fun c4 => ?_) (fun c4 => ?_)
          · have hf := of_pos hf c4
            refine lv_iload hx hb dX11_balancedFor_126 (lv_at hl 6 rfl) ?_
            refine lv_iload_n hx hb dX11_balancedFor_128 rfl (lv_at hl 3 rfl) ?_
            refine lv_icmp_lt (tgt := 135) hx hb dX11_balancedFor_129 (by decide) (fun c5 => ?_) (fun c5 => ?_)
            · have hf := of_pos hf c5
              refine lv_iload hx hb dX11_balancedFor_135 (lv_at hl 5 rfl) ?_
              refine lv_istore_n (lv' := [(2, .int c92_5), (0, .ref h0), (1, .int c36_1), (3, .int c92_3), (4, .int c92_4), (5, .int c92_5), (6, .int u92_6), (7, .int u92_7)]) hx hb dX11_balancedFor_137 rfl hl (by decide) rfl (fun ls hl => ?_)
              refine lv_iload hx hb dX11_balancedFor_138 (lv_at hl 6 rfl) ?_
              refine lv_istore_n (lv' := [(3, .int u92_6), (2, .int c92_5), (0, .ref h0), (1, .int c36_1), (4, .int c92_4), (5, .int c92_5), (6, .int u92_6), (7, .int u92_7)]) hx hb dX11_balancedFor_140 rfl hl (by decide) rfl (fun ls hl => ?_)
              exact kJ141 _ _ _ _ _ hf _ _ hP hD hS _ (lv_sub hl [2, 3, 1, 0, 4] rfl)
            · have hf := of_neg hf c5
              refine lv_goto (tgt := 141) hx hb dX11_balancedFor_132 (by decide) ?_
              exact kJ141 _ _ _ _ _ hf _ _ hP hD hS _ (lv_sub hl [0, 1, 2, 3, 4] rfl)
          · have hf := of_neg hf c4
            refine lv_iload hx hb dX11_balancedFor_98 (lv_at hl 6 rfl) ?_
            refine lv_aload_n hx hb dX11_balancedFor_100 rfl (lv_at hl 0 rfl) ?_
            refine va_get (ci := 11) (v := .ref h2) (C := RX11) (T := TX11) (N := 51) hx hb ht0 iX11 hown hK hP 0 rfl rfl 24 (by decide) (ht0 _ wd_1430) (fun _ h9 => h9) rfl dX11_balancedFor_101 ?_
            refine lv_iload hx hb dX11_balancedFor_104 (lv_at hl 7 rfl) ?_
            obtain ⟨g6, hf⟩ := of_grd hf
            refine va_iald hx hb hK hP 2 0 rfl rfl g6 dX11_balancedFor_106 ?_
            refine lv_iload hx hb dX11_balancedFor_107 (lv_at hl 5 rfl) ?_
            refine lv_iload hx hb dX11_balancedFor_109 (lv_at hl 7 rfl) ?_
            refine lv_ishr hx hb dX11_balancedFor_111 ?_
            refine lv_iconst (v := (1 : Int32)) hx hb dX11_balancedFor_112 (by decide) ?_
            refine lv_iand hx hb dX11_balancedFor_113 ?_
            refine lv_iadd hx hb dX11_balancedFor_114 ?_
            obtain ⟨r_115_6, hc_r_115_6, hf⟩ := of_bnd hf
            refine cl_Si (w2 := (wW_X11_balancedFor G h0 h1 h2 h3 y0_0 y0_1 y0_2 y0_3 y0_4 y0_6 y0_18 y0_22 y0_23 y0_26 y0_33 y0_34 y0_38 y0_39 y0_40 y0_41 y0_42 y0_43 y0_45 y0_46 y0_47 y0_48 x0_5 x0_7 x0_8 x0_9 x0_10 x0_11 x0_12 x0_13 x0_14 x0_15 x0_16 x0_17 x0_19 x0_20 x0_27 x0_28 x0_29 x0_30 x0_31 x0_32 x0_35 x0_36 x0_37 x0_44 x0_49 x0_50 a1 a2_92 a3_92)) (As := [.int u92_6, .int ((a2_92 u92_7.toNatClampNeg) + ((c92_5 >>> (u92_7 &&& 31)) &&& (1 : Int32)))]) (rest := []) ⟨hx, hb, hml, hown, ht0⟩ (c_X11_more l G _ F u92_6 ((a2_92 u92_7.toNatClampNeg) + ((c92_5 >>> (u92_7 &&& 31)) &&& (1 : Int32))) _ hc_r_115_6) yk_X11_more wd_1372 ⟨rfl, rfl, by decide, by decide⟩ ⟨Nat.le_refl _, Nat.le_refl _⟩ hX hK hP hD hS hA [] [0, 1, 2, 3] [0, 1, 2, 3] rfl rfl (by decide) rfl rfl rfl rfl rfl hl.1 rfl (Nat.le_of_ble_eq_true rfl) dX11_balancedFor_115 (fun H locs hP hD hS => ?_)
            refine lv_istore (lv' := [(6, .int r_115_6), (0, .ref h0), (1, .int c36_1), (2, .int c92_2), (3, .int c92_3), (4, .int c92_4), (5, .int c92_5), (7, .int u92_7)]) hx hb dX11_balancedFor_118 hl (by decide) rfl (fun ls hl => ?_)
            refine lv_iinc (v := u92_7 + (1 : Int32)) (lv' := [(7, .int (u92_7 + (1 : Int32))), (6, .int r_115_6), (0, .ref h0), (1, .int c36_1), (2, .int c92_2), (3, .int c92_3), (4, .int c92_4), (5, .int c92_5)]) hx hb dX11_balancedFor_120 hl (k := 7) rfl (by rfl) (by decide) rfl (fun ls hl => ?_)
            refine lv_goto (tgt := 92) hx hb dX11_balancedFor_123 (by decide) ?_
            exact ih92 _ _ _ _ hf _ _ hP hD hS _ (lv_sub hl [2, 3, 4, 5, 6, 7, 1, 0] rfl)
      have kJ86 : ∀ (u86_2 : Int32) (u86_3 : Int32) (u86_4 : Int32) (u86_5 : Int32) (a2_86 : Nat → Int32) (a3_86 : Nat → Int32), p_X11_balancedFor_J86 F x0_27 a1 c36_1 (p_X11_balancedFor_L36 F x0_27 a1 c36_1 n36) u86_2 u86_3 u86_4 u86_5 a2_86 a3_86 = some (r0, e_a2, e_a3) → ∀ (H : Heap) (locs : List Loc), va_P G.1 vwCl (wW_X11_balancedFor G h0 h1 h2 h3 y0_0 y0_1 y0_2 y0_3 y0_4 y0_6 y0_18 y0_22 y0_23 y0_26 y0_33 y0_34 y0_38 y0_39 y0_40 y0_41 y0_42 y0_43 y0_45 y0_46 y0_47 y0_48 x0_5 x0_7 x0_8 x0_9 x0_10 x0_11 x0_12 x0_13 x0_14 x0_15 x0_16 x0_17 x0_19 x0_20 x0_27 x0_28 x0_29 x0_30 x0_31 x0_32 x0_35 x0_36 x0_37 x0_44 x0_49 x0_50 a1 a2_86 a3_86) H → va_D A (wW_X11_balancedFor G h0 h1 h2 h3 y0_0 y0_1 y0_2 y0_3 y0_4 y0_6 y0_18 y0_22 y0_23 y0_26 y0_33 y0_34 y0_38 y0_39 y0_40 y0_41 y0_42 y0_43 y0_45 y0_46 y0_47 y0_48 x0_5 x0_7 x0_8 x0_9 x0_10 x0_11 x0_12 x0_13 x0_14 x0_15 x0_16 x0_17 x0_19 x0_20 x0_27 x0_28 x0_29 x0_30 x0_31 x0_32 x0_35 x0_36 x0_37 x0_44 x0_49 x0_50 a1 a2_86 a3_86) → va_S A s.heap H locs → ∀ ls : Array Slot, lv_has ls 8 [(0, .ref h0), (1, .int c36_1), (2, .int u86_2), (3, .int u86_3), (4, .int u86_4), (5, .int u86_5)] → W p l e ({ frames := 1, cells := 0, slots := 0, locals := 22 } : Room) s m (List.toArray [.ref h0, .int b1]) below meth c H locs 0 0 (MQ below (QiS G r0 A (wW_X11_balancedFor G h0 h1 h2 h3 y0_0 y0_1 y0_2 y0_3 y0_4 y0_6 y0_18 y0_22 y0_23 y0_26 y0_33 y0_34 y0_38 y0_39 y0_40 y0_41 y0_42 y0_43 y0_45 y0_46 y0_47 y0_48 x0_5 x0_7 x0_8 x0_9 x0_10 x0_11 x0_12 x0_13 x0_14 x0_15 x0_16 x0_17 x0_19 x0_20 x0_27 x0_28 x0_29 x0_30 x0_31 x0_32 x0_35 x0_36 x0_37 x0_44 x0_49 x0_50 a1 e_a2 e_a3)) (List.toArray [.ref h0, .int b1]) s 0 0 A) (F0 m 86 ls []) := by
        intro u86_2 u86_3 u86_4 u86_5 a2_86 a3_86 hf H locs hP hD hS ls hl
        refine lv_iconst (v := (0 : Int32)) hx hb dX11_balancedFor_86 (by decide) ?_
        refine lv_istore (lv' := [(6, .int (0 : Int32)), (0, .ref h0), (1, .int c36_1), (2, .int u86_2), (3, .int u86_3), (4, .int u86_4), (5, .int u86_5)]) hx hb dX11_balancedFor_87 hl (by decide) rfl (fun ls hl => ?_)
        refine lv_iconst (v := (0 : Int32)) hx hb dX11_balancedFor_89 (by decide) ?_
        refine lv_istore (lv' := [(7, .int (0 : Int32)), (6, .int (0 : Int32)), (0, .ref h0), (1, .int c36_1), (2, .int u86_2), (3, .int u86_3), (4, .int u86_4), (5, .int u86_5)]) hx hb dX11_balancedFor_90 hl (by decide) rfl (fun ls hl => ?_)
        exact kL92 _ _ _ _ _ _ _ _ _ hf _ _ hP hD hS _ (lv_sub hl [2, 3, 4, 5, 6, 7, 1, 0] rfl)
      intro u36_2 u36_3 u36_4 a2_36 a3_36 hf H locs hP hD hS ls hl
      have hf : p_X11_balancedFor_L36b F x0_27 a1 c36_1 (p_X11_balancedFor_L36 F x0_27 a1 c36_1 n36) u36_2 u36_3 u36_4 a2_36 a3_36 = some (r0, e_a2, e_a3) := hf
      refine lv_iload hx hb dX11_balancedFor_36 (lv_at hl 4 rfl) ?_
      refine lv_aload_n hx hb dX11_balancedFor_38 rfl (lv_at hl 0 rfl) ?_
      refine va_get (ci := 11) (v := .int x0_27) (C := RX11) (T := TX11) (N := 51) hx hb ht0 iX11 hown hK hP 0 rfl rfl 27 (by decide) (ht0 _ wd_1433) (fun _ h9 => h9) rfl dX11_balancedFor_39 ?_
      refine lv_icmp_ge (tgt := 147) hx hb dX11_balancedFor_42 (by decide) (fun c8 => ?_) (fun c8 => ?_)
      · have hf := of_pos hf c8
        refine lv_aload_n hx hb dX11_balancedFor_147 rfl (lv_at hl 0 rfl) ?_
        refine va_get (ci := 11) (v := .ref h3) (C := RX11) (T := TX11) (N := 51) hx hb ht0 iX11 hown hK hP 0 rfl rfl 25 (by decide) (ht0 _ wd_1431) (fun _ h9 => h9) rfl dX11_balancedFor_148 ?_
        refine lv_iload_n hx hb dX11_balancedFor_151 rfl (lv_at hl 2 rfl) ?_
        refine lv_iconst (v := (1 : Int32)) hx hb dX11_balancedFor_152 (by decide) ?_
        obtain ⟨g9, hf⟩ := of_grd hf
        refine va_zast hx hb hK hP hD hS 3 1 rfl rfl g9 dX11_balancedFor_153 (fun H locs hP hD hS => ?_)
        have hP : va_P G.1 vwCl (wW_X11_balancedFor G h0 h1 h2 h3 y0_0 y0_1 y0_2 y0_3 y0_4 y0_6 y0_18 y0_22 y0_23 y0_26 y0_33 y0_34 y0_38 y0_39 y0_40 y0_41 y0_42 y0_43 y0_45 y0_46 y0_47 y0_48 x0_5 x0_7 x0_8 x0_9 x0_10 x0_11 x0_12 x0_13 x0_14 x0_15 x0_16 x0_17 x0_19 x0_20 x0_27 x0_28 x0_29 x0_30 x0_31 x0_32 x0_35 x0_36 x0_37 x0_44 x0_49 x0_50 a1 a2_36 (upd a3_36 u36_2.toNatClampNeg (vp_nar .boolean (1 : Int32)))) H := hP
        have hD : va_D A (wW_X11_balancedFor G h0 h1 h2 h3 y0_0 y0_1 y0_2 y0_3 y0_4 y0_6 y0_18 y0_22 y0_23 y0_26 y0_33 y0_34 y0_38 y0_39 y0_40 y0_41 y0_42 y0_43 y0_45 y0_46 y0_47 y0_48 x0_5 x0_7 x0_8 x0_9 x0_10 x0_11 x0_12 x0_13 x0_14 x0_15 x0_16 x0_17 x0_19 x0_20 x0_27 x0_28 x0_29 x0_30 x0_31 x0_32 x0_35 x0_36 x0_37 x0_44 x0_49 x0_50 a1 a2_36 (upd a3_36 u36_2.toNatClampNeg (vp_nar .boolean (1 : Int32)))) := hD
        refine lv_iconst (v := (0 : Int32)) hx hb dX11_balancedFor_154 (by decide) ?_
        refine lv_istore (lv' := [(4, .int (0 : Int32)), (0, .ref h0), (1, .int c36_1), (2, .int u36_2), (3, .int u36_3)]) hx hb dX11_balancedFor_155 hl (by decide) rfl (fun ls hl => ?_)
        exact kL157 _ _ _ _ _ _ hf _ _ hP hD hS _ (lv_sub hl [1, 2, 3, 0] rfl)
      · have hf := of_neg hf c8
        refine lv_aload_n hx hb dX11_balancedFor_45 rfl (lv_at hl 0 rfl) ?_
        refine va_get (ci := 11) (v := .ref h1) (C := RX11) (T := TX11) (N := 51) hx hb ht0 iX11 hown hK hP 0 rfl rfl 21 (by decide) (ht0 _ wd_1427) (fun _ h9 => h9) rfl dX11_balancedFor_46 ?_
        refine lv_iload hx hb dX11_balancedFor_49 (lv_at hl 4 rfl) ?_
        obtain ⟨g10, hf⟩ := of_grd hf
        refine va_iald hx hb hK hP 1 0 rfl rfl g10 dX11_balancedFor_51 ?_
        refine lv_istore (lv' := [(5, .int (a1 u36_4.toNatClampNeg)), (0, .ref h0), (1, .int c36_1), (2, .int u36_2), (3, .int u36_3), (4, .int u36_4)]) hx hb dX11_balancedFor_52 hl (by decide) rfl (fun ls hl => ?_)
        refine lv_aload_n hx hb dX11_balancedFor_54 rfl (lv_at hl 1 rfl) ?_
        refine va_get (ci := 11) (v := .ref h3) (C := RX11) (T := TX11) (N := 51) hx hb ht0 iX11 hown hK hP 0 rfl rfl 25 (by decide) (ht0 _ wd_1431) (fun _ h9 => h9) rfl dX11_balancedFor_55 ?_
        refine lv_iload hx hb dX11_balancedFor_58 (lv_at hl 0 rfl) ?_
        obtain ⟨g11, hf⟩ := of_grd hf
        refine va_zald hx hb hK hP 3 1 rfl rfl g11 dX11_balancedFor_60 ?_
        refine lv_if_eq (tgt := 67) hx hb dX11_balancedFor_61 (by decide) (fun c12 => ?_) (fun c12 => ?_)
        · have hf := of_pos hf c12
          refine lv_iload_n hx hb dX11_balancedFor_67 rfl (lv_at hl 3 rfl) ?_
          refine lv_if_lt (tgt := 86) hx hb dX11_balancedFor_68 (by decide) (fun c13 => ?_) (fun c13 => ?_)
          · have hf := of_pos hf c13
            exact kJ86 _ _ _ _ _ _ hf _ _ hP hD hS _ (lv_sub hl [1, 2, 3, 4, 5, 0] rfl)
          · have hf := of_neg hf c13
            refine lv_iload hx hb dX11_balancedFor_71 (lv_at hl 0 rfl) ?_
            obtain ⟨r_73_13, hc_r_73_13, hf⟩ := of_bnd hf
            refine cl_Si (w2 := (wW_X11_balancedFor G h0 h1 h2 h3 y0_0 y0_1 y0_2 y0_3 y0_4 y0_6 y0_18 y0_22 y0_23 y0_26 y0_33 y0_34 y0_38 y0_39 y0_40 y0_41 y0_42 y0_43 y0_45 y0_46 y0_47 y0_48 x0_5 x0_7 x0_8 x0_9 x0_10 x0_11 x0_12 x0_13 x0_14 x0_15 x0_16 x0_17 x0_19 x0_20 x0_27 x0_28 x0_29 x0_30 x0_31 x0_32 x0_35 x0_36 x0_37 x0_44 x0_49 x0_50 a1 a2_36 a3_36)) (As := [.int (a1 u36_4.toNatClampNeg)]) (rest := []) ⟨hx, hb, hml, hown, ht0⟩ (c_X11_ones l G _ F (a1 u36_4.toNatClampNeg) _ hc_r_73_13) yk_X11_ones wd_1344 ⟨rfl, rfl, by decide, by decide⟩ ⟨Nat.le_refl _, Nat.le_refl _⟩ hX hK hP hD hS hA [] [0, 1, 2, 3] [0, 1, 2, 3] rfl rfl (by decide) rfl rfl rfl rfl rfl hl.1 rfl (Nat.le_of_ble_eq_true rfl) dX11_balancedFor_73 (fun H locs hP hD hS => ?_)
            refine lv_iload_n hx hb dX11_balancedFor_76 rfl (lv_at hl 3 rfl) ?_
            obtain ⟨r_77_14, hc_r_77_14, hf⟩ := of_bnd hf
            refine cl_Si (w2 := (wW_X11_balancedFor G h0 h1 h2 h3 y0_0 y0_1 y0_2 y0_3 y0_4 y0_6 y0_18 y0_22 y0_23 y0_26 y0_33 y0_34 y0_38 y0_39 y0_40 y0_41 y0_42 y0_43 y0_45 y0_46 y0_47 y0_48 x0_5 x0_7 x0_8 x0_9 x0_10 x0_11 x0_12 x0_13 x0_14 x0_15 x0_16 x0_17 x0_19 x0_20 x0_27 x0_28 x0_29 x0_30 x0_31 x0_32 x0_35 x0_36 x0_37 x0_44 x0_49 x0_50 a1 a2_36 a3_36)) (As := [.int u36_2]) (rest := [.int r_73_13]) ⟨hx, hb, hml, hown, ht0⟩ (c_X11_ones l G _ F u36_2 _ hc_r_77_14) yk_X11_ones wd_1344 ⟨rfl, rfl, by decide, by decide⟩ ⟨Nat.le_refl _, Nat.le_refl _⟩ hX hK hP hD hS hA [] [0, 1, 2, 3] [0, 1, 2, 3] rfl rfl (by decide) rfl rfl rfl rfl rfl hl.1 rfl (Nat.le_of_ble_eq_true rfl) dX11_balancedFor_77 (fun H locs hP hD hS => ?_)
            refine lv_icmp_le (tgt := 86) hx hb dX11_balancedFor_80 (by decide) (fun c16 => ?_) (fun c16 => ?_)
            · have hf := of_pos hf c16
              exact kJ86 _ _ _ _ _ _ hf _ _ hP hD hS _ (lv_sub hl [1, 2, 3, 4, 5, 0] rfl)
            · have hf := of_neg hf c16
              refine lv_goto (tgt := 141) hx hb dX11_balancedFor_83 (by decide) ?_
              exact kJ141 _ _ _ _ _ hf _ _ hP hD hS _ (lv_sub hl [1, 2, 3, 4, 5] rfl)
        · have hf := of_neg hf c12
          refine lv_goto (tgt := 141) hx hb dX11_balancedFor_64 (by decide) ?_
          exact kJ141 _ _ _ _ _ hf _ _ hP hD hS _ (lv_sub hl [1, 2, 3, 4, 5] rfl)
  have kJ28 : ∀ (u28_1 : Int32) (a2_28 : Nat → Int32) (a3_28 : Nat → Int32), p_X11_balancedFor_J28 F x0_27 a1 u28_1 a2_28 a3_28 = some (r0, e_a2, e_a3) → ∀ (H : Heap) (locs : List Loc), va_P G.1 vwCl (wW_X11_balancedFor G h0 h1 h2 h3 y0_0 y0_1 y0_2 y0_3 y0_4 y0_6 y0_18 y0_22 y0_23 y0_26 y0_33 y0_34 y0_38 y0_39 y0_40 y0_41 y0_42 y0_43 y0_45 y0_46 y0_47 y0_48 x0_5 x0_7 x0_8 x0_9 x0_10 x0_11 x0_12 x0_13 x0_14 x0_15 x0_16 x0_17 x0_19 x0_20 x0_27 x0_28 x0_29 x0_30 x0_31 x0_32 x0_35 x0_36 x0_37 x0_44 x0_49 x0_50 a1 a2_28 a3_28) H → va_D A (wW_X11_balancedFor G h0 h1 h2 h3 y0_0 y0_1 y0_2 y0_3 y0_4 y0_6 y0_18 y0_22 y0_23 y0_26 y0_33 y0_34 y0_38 y0_39 y0_40 y0_41 y0_42 y0_43 y0_45 y0_46 y0_47 y0_48 x0_5 x0_7 x0_8 x0_9 x0_10 x0_11 x0_12 x0_13 x0_14 x0_15 x0_16 x0_17 x0_19 x0_20 x0_27 x0_28 x0_29 x0_30 x0_31 x0_32 x0_35 x0_36 x0_37 x0_44 x0_49 x0_50 a1 a2_28 a3_28) → va_S A s.heap H locs → ∀ ls : Array Slot, lv_has ls 8 [(0, .ref h0), (1, .int u28_1)] → W p l e ({ frames := 1, cells := 0, slots := 0, locals := 22 } : Room) s m (List.toArray [.ref h0, .int b1]) below meth c H locs 0 0 (MQ below (QiS G r0 A (wW_X11_balancedFor G h0 h1 h2 h3 y0_0 y0_1 y0_2 y0_3 y0_4 y0_6 y0_18 y0_22 y0_23 y0_26 y0_33 y0_34 y0_38 y0_39 y0_40 y0_41 y0_42 y0_43 y0_45 y0_46 y0_47 y0_48 x0_5 x0_7 x0_8 x0_9 x0_10 x0_11 x0_12 x0_13 x0_14 x0_15 x0_16 x0_17 x0_19 x0_20 x0_27 x0_28 x0_29 x0_30 x0_31 x0_32 x0_35 x0_36 x0_37 x0_44 x0_49 x0_50 a1 e_a2 e_a3)) (List.toArray [.ref h0, .int b1]) s 0 0 A) (F0 m 28 ls []) := by
    intro u28_1 a2_28 a3_28 hf H locs hP hD hS ls hl
    refine lv_iconst (v := (-1 : Int32)) hx hb dX11_balancedFor_28 (by decide) ?_
    refine lv_istore_n (lv' := [(2, .int (-1 : Int32)), (0, .ref h0), (1, .int u28_1)]) hx hb dX11_balancedFor_29 rfl hl (by decide) rfl (fun ls hl => ?_)
    refine lv_ldc (v := (268435456 : Int32)) hx hb hown (ht0 _ wd_1371) dX11_balancedFor_30 ?_
    refine lv_istore_n (lv' := [(3, .int (268435456 : Int32)), (2, .int (-1 : Int32)), (0, .ref h0), (1, .int u28_1)]) hx hb dX11_balancedFor_32 rfl hl (by decide) rfl (fun ls hl => ?_)
    refine lv_iconst (v := (0 : Int32)) hx hb dX11_balancedFor_33 (by decide) ?_
    refine lv_istore (lv' := [(4, .int (0 : Int32)), (3, .int (268435456 : Int32)), (2, .int (-1 : Int32)), (0, .ref h0), (1, .int u28_1)]) hx hb dX11_balancedFor_34 hl (by decide) rfl (fun ls hl => ?_)
    exact kL36 _ _ _ _ _ _ _ hf _ _ hP hD hS _ (lv_sub hl [3, 4, 2, 1, 0] rfl)
  have kL9 : ∀ (c9_1 : Int32) (n9 : Nat) (u9_2 : Int32) (a2_9 : Nat → Int32) (a3_9 : Nat → Int32), p_X11_balancedFor_L9 F x0_27 a1 c9_1 n9 u9_2 a2_9 a3_9 = some (r0, e_a2, e_a3) → ∀ (H : Heap) (locs : List Loc), va_P G.1 vwCl (wW_X11_balancedFor G h0 h1 h2 h3 y0_0 y0_1 y0_2 y0_3 y0_4 y0_6 y0_18 y0_22 y0_23 y0_26 y0_33 y0_34 y0_38 y0_39 y0_40 y0_41 y0_42 y0_43 y0_45 y0_46 y0_47 y0_48 x0_5 x0_7 x0_8 x0_9 x0_10 x0_11 x0_12 x0_13 x0_14 x0_15 x0_16 x0_17 x0_19 x0_20 x0_27 x0_28 x0_29 x0_30 x0_31 x0_32 x0_35 x0_36 x0_37 x0_44 x0_49 x0_50 a1 a2_9 a3_9) H → va_D A (wW_X11_balancedFor G h0 h1 h2 h3 y0_0 y0_1 y0_2 y0_3 y0_4 y0_6 y0_18 y0_22 y0_23 y0_26 y0_33 y0_34 y0_38 y0_39 y0_40 y0_41 y0_42 y0_43 y0_45 y0_46 y0_47 y0_48 x0_5 x0_7 x0_8 x0_9 x0_10 x0_11 x0_12 x0_13 x0_14 x0_15 x0_16 x0_17 x0_19 x0_20 x0_27 x0_28 x0_29 x0_30 x0_31 x0_32 x0_35 x0_36 x0_37 x0_44 x0_49 x0_50 a1 a2_9 a3_9) → va_S A s.heap H locs → ∀ ls : Array Slot, lv_has ls 8 [(0, .ref h0), (1, .int c9_1), (2, .int u9_2)] → W p l e ({ frames := 1, cells := 0, slots := 0, locals := 22 } : Room) s m (List.toArray [.ref h0, .int b1]) below meth c H locs 0 0 (MQ below (QiS G r0 A (wW_X11_balancedFor G h0 h1 h2 h3 y0_0 y0_1 y0_2 y0_3 y0_4 y0_6 y0_18 y0_22 y0_23 y0_26 y0_33 y0_34 y0_38 y0_39 y0_40 y0_41 y0_42 y0_43 y0_45 y0_46 y0_47 y0_48 x0_5 x0_7 x0_8 x0_9 x0_10 x0_11 x0_12 x0_13 x0_14 x0_15 x0_16 x0_17 x0_19 x0_20 x0_27 x0_28 x0_29 x0_30 x0_31 x0_32 x0_35 x0_36 x0_37 x0_44 x0_49 x0_50 a1 e_a2 e_a3)) (List.toArray [.ref h0, .int b1]) s 0 0 A) (F0 m 9 ls []) := by
    intro c9_1 n9
    induction n9 with
    | zero =>
      intro u9_2 a2_9 a3_9 hf
      cases hf
    | succ n9 ih9 =>
      intro u9_2 a2_9 a3_9 hf H locs hP hD hS ls hl
      have hf : p_X11_balancedFor_L9b F x0_27 a1 c9_1 (p_X11_balancedFor_L9 F x0_27 a1 c9_1 n9) u9_2 a2_9 a3_9 = some (r0, e_a2, e_a3) := hf
      refine lv_iload_n hx hb dX11_balancedFor_9 rfl (lv_at hl 2 rfl) ?_
      refine lv_bipush (v := (8 : Int32)) hx hb dX11_balancedFor_10 (by decide) ?_
      refine lv_icmp_ge (tgt := 28) hx hb dX11_balancedFor_12 (by decide) (fun c17 => ?_) (fun c17 => ?_)
      · have hf := of_pos hf c17
        exact kJ28 _ _ _ hf _ _ hP hD hS _ (lv_sub hl [0, 1] rfl)
      · have hf := of_neg hf c17
        refine lv_aload_n hx hb dX11_balancedFor_15 rfl (lv_at hl 0 rfl) ?_
        refine va_get (ci := 11) (v := .ref h2) (C := RX11) (T := TX11) (N := 51) hx hb ht0 iX11 hown hK hP 0 rfl rfl 24 (by decide) (ht0 _ wd_1430) (fun _ h9 => h9) rfl dX11_balancedFor_16 ?_
        refine lv_iload_n hx hb dX11_balancedFor_19 rfl (lv_at hl 2 rfl) ?_
        refine lv_iconst (v := (0 : Int32)) hx hb dX11_balancedFor_20 (by decide) ?_
        obtain ⟨g18, hf⟩ := of_grd hf
        refine va_iast hx hb hK hP hD hS 2 0 rfl rfl g18 dX11_balancedFor_21 (fun H locs hP hD hS => ?_)
        have hP : va_P G.1 vwCl (wW_X11_balancedFor G h0 h1 h2 h3 y0_0 y0_1 y0_2 y0_3 y0_4 y0_6 y0_18 y0_22 y0_23 y0_26 y0_33 y0_34 y0_38 y0_39 y0_40 y0_41 y0_42 y0_43 y0_45 y0_46 y0_47 y0_48 x0_5 x0_7 x0_8 x0_9 x0_10 x0_11 x0_12 x0_13 x0_14 x0_15 x0_16 x0_17 x0_19 x0_20 x0_27 x0_28 x0_29 x0_30 x0_31 x0_32 x0_35 x0_36 x0_37 x0_44 x0_49 x0_50 a1 (upd a2_9 u9_2.toNatClampNeg (0 : Int32)) a3_9) H := hP
        have hD : va_D A (wW_X11_balancedFor G h0 h1 h2 h3 y0_0 y0_1 y0_2 y0_3 y0_4 y0_6 y0_18 y0_22 y0_23 y0_26 y0_33 y0_34 y0_38 y0_39 y0_40 y0_41 y0_42 y0_43 y0_45 y0_46 y0_47 y0_48 x0_5 x0_7 x0_8 x0_9 x0_10 x0_11 x0_12 x0_13 x0_14 x0_15 x0_16 x0_17 x0_19 x0_20 x0_27 x0_28 x0_29 x0_30 x0_31 x0_32 x0_35 x0_36 x0_37 x0_44 x0_49 x0_50 a1 (upd a2_9 u9_2.toNatClampNeg (0 : Int32)) a3_9) := hD
        refine lv_iinc (v := u9_2 + (1 : Int32)) (lv' := [(2, .int (u9_2 + (1 : Int32))), (0, .ref h0), (1, .int c9_1)]) hx hb dX11_balancedFor_22 hl (k := 2) rfl (by rfl) (by decide) rfl (fun ls hl => ?_)
        refine lv_goto (tgt := 9) hx hb dX11_balancedFor_25 (by decide) ?_
        exact ih9 _ _ _ hf _ _ hP hD hS _ (lv_sub hl [1, 2, 0] rfl)
  refine lv_aload_n hx hb dX11_balancedFor_0 rfl (lv_at hl 0 rfl) ?_
  obtain ⟨r_1_18, hc_r_1_18, hf⟩ := of_bnd hf
  refine cl_Vi (w2 := (wW_X11_balancedFor G h0 h1 h2 h3 y0_0 y0_1 y0_2 y0_3 y0_4 y0_6 y0_18 y0_22 y0_23 y0_26 y0_33 y0_34 y0_38 y0_39 y0_40 y0_41 y0_42 y0_43 y0_45 y0_46 y0_47 y0_48 x0_5 x0_7 x0_8 x0_9 x0_10 x0_11 x0_12 x0_13 x0_14 x0_15 x0_16 x0_17 x0_19 x0_20 x0_27 x0_28 x0_29 x0_30 x0_31 x0_32 x0_35 x0_36 x0_37 x0_44 x0_49 x0_50 a1 a2 a3)) (As := []) (rest := []) ⟨hx, hb, hml, hown, ht0⟩ (c_X11_noneTaken l G h0 h3 y0_0 y0_1 y0_2 y0_3 y0_4 y0_6 y0_18 h1 y0_22 y0_23 h2 y0_26 y0_33 y0_34 y0_38 y0_39 y0_40 y0_41 y0_42 y0_43 y0_45 y0_46 y0_47 y0_48 _ x0_5 x0_7 x0_8 x0_9 x0_10 x0_11 x0_12 x0_13 x0_14 x0_15 x0_16 x0_17 x0_19 x0_20 x0_27 x0_28 x0_29 x0_30 x0_31 x0_32 x0_35 x0_36 x0_37 x0_44 x0_49 x0_50 a3 F _ hc_r_1_18) yk_X11_noneTaken wd_1367 ⟨rfl, rfl, by decide, by decide⟩ ⟨Nat.le_refl _, Nat.le_refl _⟩ hX hK hP hD hS hA [0, 3] [1, 2] [2, 0, 1, 3] (va_recv hK hP (ci := 11) (q0 := 0) rfl rfl) rfl rfl (by decide) rfl rfl rfl rfl rfl hl.1 rfl (Nat.le_of_ble_eq_true rfl) dX11_balancedFor_1 (fun H locs hP hD hS => ?_)
  refine lv_if_eq (tgt := 28) hx hb dX11_balancedFor_4 (by decide) (fun c20 => ?_) (fun c20 => ?_)
  · have hf := of_pos hf c20
    exact kJ28 _ _ _ hf _ _ hP hD hS _ (lv_sub hl [0, 1] rfl)
  · have hf := of_neg hf c20
    refine lv_iconst (v := (0 : Int32)) hx hb dX11_balancedFor_7 (by decide) ?_
    refine lv_istore_n (lv' := [(2, .int (0 : Int32)), (0, .ref h0), (1, .int b1)]) hx hb dX11_balancedFor_8 rfl hl (by decide) rfl (fun ls hl => ?_)
    exact kL9 _ _ _ _ _ hf _ _ hP hD hS _ (lv_sub hl [1, 2, 0] rfl)
theorem yk_X11_balancedFor : ykV yX11_balancedFor RX11 cX11_balancedFor 8 (some .int) 1 := ⟨wd_1365, wd_61, wd_142, wd_1366, rfl, by decide +kernel, by decide +kernel, by decide +kernel⟩
theorem dX11_choose_0 : decode cX11_choose 0 = .ok (.aload_n 0, 1) := by decide +kernel
theorem dX11_choose_1 : decode cX11_choose 1 = .ok (.iload_n 2, 1) := by decide +kernel
theorem dX11_choose_2 : decode cX11_choose 2 = .ok (.invokevirtual 239, 3) := by decide +kernel
theorem dX11_choose_5 : decode cX11_choose 5 = .ok (.iconst 0, 1) := by decide +kernel
theorem dX11_choose_6 : decode cX11_choose 6 = .ok (.istore 4, 2) := by decide +kernel
theorem dX11_choose_8 : decode cX11_choose 8 = .ok (.iload 4, 2) := by decide +kernel
theorem dX11_choose_10 : decode cX11_choose 10 = .ok (.sipush 256, 3) := by decide +kernel
theorem dX11_choose_13 : decode cX11_choose 13 = .ok (.if_icmp .ge 25, 3) := by decide +kernel
theorem dX11_choose_16 : decode cX11_choose 16 = .ok (.aload_n 0, 1) := by decide +kernel
theorem dX11_choose_17 : decode cX11_choose 17 = .ok (.getfield 48, 3) := by decide +kernel
theorem dX11_choose_20 : decode cX11_choose 20 = .ok (.iload 4, 2) := by decide +kernel
theorem dX11_choose_22 : decode cX11_choose 22 = .ok (.iconst 0, 1) := by decide +kernel
theorem dX11_choose_23 : decode cX11_choose 23 = .ok (.bastore, 1) := by decide +kernel
theorem dX11_choose_24 : decode cX11_choose 24 = .ok (.aload_n 0, 1) := by decide +kernel
theorem dX11_choose_25 : decode cX11_choose 25 = .ok (.getfield 52, 3) := by decide +kernel
theorem dX11_choose_28 : decode cX11_choose 28 = .ok (.iload 4, 2) := by decide +kernel
theorem dX11_choose_30 : decode cX11_choose 30 = .ok (.iconst 0, 1) := by decide +kernel
theorem dX11_choose_31 : decode cX11_choose 31 = .ok (.bastore, 1) := by decide +kernel
theorem dX11_choose_32 : decode cX11_choose 32 = .ok (.iinc 4 1, 3) := by decide +kernel
theorem dX11_choose_35 : decode cX11_choose 35 = .ok (.goto (-27), 3) := by decide +kernel
theorem dX11_choose_38 : decode cX11_choose 38 = .ok (.iconst 0, 1) := by decide +kernel
theorem dX11_choose_39 : decode cX11_choose 39 = .ok (.istore 4, 2) := by decide +kernel
theorem dX11_choose_41 : decode cX11_choose 41 = .ok (.iload 4, 2) := by decide +kernel
theorem dX11_choose_43 : decode cX11_choose 43 = .ok (.bipush 32, 2) := by decide +kernel
theorem dX11_choose_45 : decode cX11_choose 45 = .ok (.if_icmp .ge 40, 3) := by decide +kernel
theorem dX11_choose_48 : decode cX11_choose 48 = .ok (.aload_n 0, 1) := by decide +kernel
theorem dX11_choose_49 : decode cX11_choose 49 = .ok (.getfield 39, 3) := by decide +kernel
theorem dX11_choose_52 : decode cX11_choose 52 = .ok (.iload 4, 2) := by decide +kernel
theorem dX11_choose_54 : decode cX11_choose 54 = .ok (.iload 4, 2) := by decide +kernel
theorem dX11_choose_56 : decode cX11_choose 56 = .ok (.iload_n 1, 1) := by decide +kernel
theorem dX11_choose_57 : decode cX11_choose 57 = .ok (.iload_n 1, 1) := by decide +kernel
theorem dX11_choose_58 : decode cX11_choose 58 = .ok (.iload_n 2, 1) := by decide +kernel
theorem dX11_choose_59 : decode cX11_choose 59 = .ok (.iadd, 1) := by decide +kernel
theorem dX11_choose_60 : decode cX11_choose 60 = .ok (.iconst 1, 1) := by decide +kernel
theorem dX11_choose_61 : decode cX11_choose 61 = .ok (.isub, 1) := by decide +kernel
theorem dX11_choose_62 : decode cX11_choose 62 = .ok (.invokestatic 163, 3) := by decide +kernel
theorem dX11_choose_65 : decode cX11_choose 65 = .ok (.ifCond .eq 12, 3) := by decide +kernel
theorem dX11_choose_68 : decode cX11_choose 68 = .ok (.iconst 1, 1) := by decide +kernel
theorem dX11_choose_69 : decode cX11_choose 69 = .ok (.iload 4, 2) := by decide +kernel
theorem dX11_choose_71 : decode cX11_choose 71 = .ok (.iload_n 1, 1) := by decide +kernel
theorem dX11_choose_72 : decode cX11_choose 72 = .ok (.isub, 1) := by decide +kernel
theorem dX11_choose_73 : decode cX11_choose 73 = .ok (.ishl, 1) := by decide +kernel
theorem dX11_choose_74 : decode cX11_choose 74 = .ok (.goto 4, 3) := by decide +kernel
theorem dX11_choose_77 : decode cX11_choose 77 = .ok (.iconst 0, 1) := by decide +kernel
theorem dX11_choose_78 : decode cX11_choose 78 = .ok (.iastore, 1) := by decide +kernel
theorem dX11_choose_79 : decode cX11_choose 79 = .ok (.iinc 4 1, 3) := by decide +kernel
theorem dX11_choose_82 : decode cX11_choose 82 = .ok (.goto (-41), 3) := by decide +kernel
theorem dX11_choose_85 : decode cX11_choose 85 = .ok (.iload_n 1, 1) := by decide +kernel
theorem dX11_choose_86 : decode cX11_choose 86 = .ok (.aload_n 0, 1) := by decide +kernel
theorem dX11_choose_87 : decode cX11_choose 87 = .ok (.getfield 236, 3) := by decide +kernel
theorem dX11_choose_90 : decode cX11_choose 90 = .ok (.if_icmp .le 5, 3) := by decide +kernel
theorem dX11_choose_93 : decode cX11_choose 93 = .ok (.iconst 0, 1) := by decide +kernel
theorem dX11_choose_94 : decode cX11_choose 94 = .ok (.ireturn, 1) := by decide +kernel
theorem dX11_choose_95 : decode cX11_choose 95 = .ok (.iload_n 3, 1) := by decide +kernel
theorem dX11_choose_96 : decode cX11_choose 96 = .ok (.iconst 2, 1) := by decide +kernel
theorem dX11_choose_97 : decode cX11_choose 97 = .ok (.if_icmp .ne 10, 3) := by decide +kernel
theorem dX11_choose_100 : decode cX11_choose 100 = .ok (.aload_n 0, 1) := by decide +kernel
theorem dX11_choose_101 : decode cX11_choose 101 = .ok (.iload_n 1, 1) := by decide +kernel
theorem dX11_choose_102 : decode cX11_choose 102 = .ok (.iload_n 2, 1) := by decide +kernel
theorem dX11_choose_103 : decode cX11_choose 103 = .ok (.invokevirtual 242, 3) := by decide +kernel
theorem dX11_choose_106 : decode cX11_choose 106 = .ok (.ireturn, 1) := by decide +kernel
theorem dX11_choose_107 : decode cX11_choose 107 = .ok (.iconst 0, 1) := by decide +kernel
theorem dX11_choose_108 : decode cX11_choose 108 = .ok (.istore 4, 2) := by decide +kernel
theorem dX11_choose_110 : decode cX11_choose 110 = .ok (.iload 4, 2) := by decide +kernel
theorem dX11_choose_112 : decode cX11_choose 112 = .ok (.iload_n 1, 1) := by decide +kernel
theorem dX11_choose_113 : decode cX11_choose 113 = .ok (.if_icmp .ge 35, 3) := by decide +kernel
theorem dX11_choose_116 : decode cX11_choose 116 = .ok (.aload_n 0, 1) := by decide +kernel
theorem dX11_choose_117 : decode cX11_choose 117 = .ok (.getfield 39, 3) := by decide +kernel
theorem dX11_choose_120 : decode cX11_choose 120 = .ok (.iload 4, 2) := by decide +kernel
theorem dX11_choose_122 : decode cX11_choose 122 = .ok (.iload_n 3, 1) := by decide +kernel
theorem dX11_choose_123 : decode cX11_choose 123 = .ok (.ifCond .ne 13, 3) := by decide +kernel
theorem dX11_choose_126 : decode cX11_choose 126 = .ok (.aload_n 0, 1) := by decide +kernel
theorem dX11_choose_127 : decode cX11_choose 127 = .ok (.getfield 36, 3) := by decide +kernel
theorem dX11_choose_130 : decode cX11_choose 130 = .ok (.iload 4, 2) := by decide +kernel
theorem dX11_choose_132 : decode cX11_choose 132 = .ok (.iaload, 1) := by decide +kernel
theorem dX11_choose_133 : decode cX11_choose 133 = .ok (.goto 8, 3) := by decide +kernel
theorem dX11_choose_136 : decode cX11_choose 136 = .ok (.aload_n 0, 1) := by decide +kernel
theorem dX11_choose_137 : decode cX11_choose 137 = .ok (.iload_n 2, 1) := by decide +kernel
theorem dX11_choose_138 : decode cX11_choose 138 = .ok (.invokevirtual 245, 3) := by decide +kernel
theorem dX11_choose_141 : decode cX11_choose 141 = .ok (.iastore, 1) := by decide +kernel
theorem dX11_choose_142 : decode cX11_choose 142 = .ok (.iinc 4 1, 3) := by decide +kernel
theorem dX11_choose_145 : decode cX11_choose 145 = .ok (.goto (-35), 3) := by decide +kernel
theorem dX11_choose_148 : decode cX11_choose 148 = .ok (.iconst 1, 1) := by decide +kernel
theorem dX11_choose_149 : decode cX11_choose 149 = .ok (.ireturn, 1) := by decide +kernel
def wW_X11_choose (G : GG) (h0 h1 h2 h3 h4 h5 h6 y0_0 y0_1 y0_2 y0_3 y0_4 y0_6 y0_18 y0_33 y0_34 y0_38 y0_39 y0_40 y0_41 y0_42 y0_43 y0_45 y0_46 y0_47 y0_48 : Nat) (x0_5 : Int32) (x0_7 : Int32) (x0_8 : Int32) (x0_9 : Int32) (x0_10 : Int32) (x0_11 : Int32) (x0_12 : Int32) (x0_13 : Int32) (x0_14 : Int32) (x0_15 : Int32) (x0_16 : Int32) (x0_17 : Int32) (x0_19 : Int32) (x0_20 : Int32) (x0_27 : Int32) (x0_28 : Int32) (x0_29 : Int32) (x0_30 : Int32) (x0_31 : Int32) (x0_32 : Int32) (x0_35 : Int32) (x0_36 : Int32) (x0_37 : Int32) (x0_44 : Int32) (x0_49 : Int32) (x0_50 : Int32) (a1 : Nat → Int32) (a2 : Nat → Int32) (a3 : Nat → Int32) (a4 : Nat → Int32) (a5 : Nat → Int32) (a6 : Nat → Int32) : va_W := [(h0, .inr (11, [.ref y0_0, .ref y0_1, .ref y0_2, .ref y0_3, .ref y0_4, .int x0_5, .ref y0_6, .int x0_7, .int x0_8, .int x0_9, .int x0_10, .int x0_11, .int x0_12, .int x0_13, .int x0_14, .int x0_15, .int x0_16, .int x0_17, .ref y0_18, .int x0_19, .int x0_20, .ref h1, .ref h2, .ref h3, .ref h4, .ref h5, .ref h6, .int x0_27, .int x0_28, .int x0_29, .int x0_30, .int x0_31, .int x0_32, .ref y0_33, .ref y0_34, .int x0_35, .int x0_36, .int x0_37, .ref y0_38, .ref y0_39, .ref y0_40, .ref y0_41, .ref y0_42, .ref y0_43, .int x0_44, .ref y0_45, .ref y0_46, .ref y0_47, .ref y0_48, .int x0_49, .int x0_50])), (h1, .inl (G.2.1, 128, .inl a1)), (h2, .inl (G.2.1, 32, .inl a2)), (h3, .inl (G.2.1, 32, .inl a3)), (h4, .inl (G.2.1, 8, .inl a4)), (h5, .inl (G.2.2.1, 256, .inl a5)), (h6, .inl (G.2.2.1, 256, .inl a6))]
set_option maxHeartbeats 4000000 in
set_option maxRecDepth 100000 in
theorem c_X11_choose (l : Launch) (G : GG) (h0 h1 h2 h3 h4 h5 h6 y0_0 y0_1 y0_2 y0_3 y0_4 y0_6 y0_18 y0_33 y0_34 y0_38 y0_39 y0_40 y0_41 y0_42 y0_43 y0_45 y0_46 y0_47 y0_48 : Nat) (sz : Nat) (x0_5 : Int32) (x0_7 : Int32) (x0_8 : Int32) (x0_9 : Int32) (x0_10 : Int32) (x0_11 : Int32) (x0_12 : Int32) (x0_13 : Int32) (x0_14 : Int32) (x0_15 : Int32) (x0_16 : Int32) (x0_17 : Int32) (x0_19 : Int32) (x0_20 : Int32) (x0_27 : Int32) (x0_28 : Int32) (x0_29 : Int32) (x0_30 : Int32) (x0_31 : Int32) (x0_32 : Int32) (x0_35 : Int32) (x0_36 : Int32) (x0_37 : Int32) (x0_44 : Int32) (x0_49 : Int32) (x0_50 : Int32) (a1 : Nat → Int32) (a2 : Nat → Int32) (a3 : Nat → Int32) (a4 : Nat → Int32) (a5 : Nat → Int32) (a6 : Nat → Int32) (F : Nat) (b1 : Int32) (b2 : Int32) (b3 : Int32)  (r0 : Int32) (e_x0_27 : Int32) (e_x0_28 : Int32) (e_a1 : Nat → Int32) (e_a2 : Nat → Int32) (e_a3 : Nat → Int32) (e_a4 : Nat → Int32) (e_a5 : Nat → Int32) (e_a6 : Nat → Int32) (hf : p_X11_choose F x0_27 x0_28 a1 a2 a3 a4 a5 a6 b1 b2 b3 = some (r0, e_x0_27, e_x0_28, e_a1, e_a2, e_a3, e_a4, e_a5, e_a6)) : Met l yX11_choose (.code yX11_choose cX11_choose 5 (some .boolean) :: gtbl) ({ frames := 2, cells := 0, slots := 0, locals := 49 } : Room) (PcS G [.ref h0, .int b1, .int b2, .int b3] (wW_X11_choose G h0 h1 h2 h3 h4 h5 h6 y0_0 y0_1 y0_2 y0_3 y0_4 y0_6 y0_18 y0_33 y0_34 y0_38 y0_39 y0_40 y0_41 y0_42 y0_43 y0_45 y0_46 y0_47 y0_48 x0_5 x0_7 x0_8 x0_9 x0_10 x0_11 x0_12 x0_13 x0_14 x0_15 x0_16 x0_17 x0_19 x0_20 x0_27 x0_28 x0_29 x0_30 x0_31 x0_32 x0_35 x0_36 x0_37 x0_44 x0_49 x0_50 a1 a2 a3 a4 a5 a6) sz) (QiS G r0 (va_A (wW_X11_choose G h0 h1 h2 h3 h4 h5 h6 y0_0 y0_1 y0_2 y0_3 y0_4 y0_6 y0_18 y0_33 y0_34 y0_38 y0_39 y0_40 y0_41 y0_42 y0_43 y0_45 y0_46 y0_47 y0_48 x0_5 x0_7 x0_8 x0_9 x0_10 x0_11 x0_12 x0_13 x0_14 x0_15 x0_16 x0_17 x0_19 x0_20 x0_27 x0_28 x0_29 x0_30 x0_31 x0_32 x0_35 x0_36 x0_37 x0_44 x0_49 x0_50 a1 a2 a3 a4 a5 a6) sz) (wW_X11_choose G h0 h1 h2 h3 h4 h5 h6 y0_0 y0_1 y0_2 y0_3 y0_4 y0_6 y0_18 y0_33 y0_34 y0_38 y0_39 y0_40 y0_41 y0_42 y0_43 y0_45 y0_46 y0_47 y0_48 x0_5 x0_7 x0_8 x0_9 x0_10 x0_11 x0_12 x0_13 x0_14 x0_15 x0_16 x0_17 x0_19 x0_20 e_x0_27 e_x0_28 x0_29 x0_30 x0_31 x0_32 x0_35 x0_36 x0_37 x0_44 x0_49 x0_50 e_a1 e_a2 e_a3 e_a4 e_a5 e_a6)) 0 0 (va_A (wW_X11_choose G h0 h1 h2 h3 h4 h5 h6 y0_0 y0_1 y0_2 y0_3 y0_4 y0_6 y0_18 y0_33 y0_34 y0_38 y0_39 y0_40 y0_41 y0_42 y0_43 y0_45 y0_46 y0_47 y0_48 x0_5 x0_7 x0_8 x0_9 x0_10 x0_11 x0_12 x0_13 x0_14 x0_15 x0_16 x0_17 x0_19 x0_20 x0_27 x0_28 x0_29 x0_30 x0_31 x0_32 x0_35 x0_36 x0_37 x0_44 x0_49 x0_50 a1 a2 a3 a4 a5 a6) sz) := by
  refine met_start (by decide) (Nat.le_of_ble_eq_true rfl) ?_
  intro p e s m below meth c hC hr hlk hnm hK hP hD hA hS hX ls hl
  obtain ⟨hx, hb, hml, hown, ht0⟩ := hC
  have hown : s.vm.findClass RX11 = some m.cls := hown
  generalize va_A (wW_X11_choose G h0 h1 h2 h3 h4 h5 h6 y0_0 y0_1 y0_2 y0_3 y0_4 y0_6 y0_18 y0_33 y0_34 y0_38 y0_39 y0_40 y0_41 y0_42 y0_43 y0_45 y0_46 y0_47 y0_48 x0_5 x0_7 x0_8 x0_9 x0_10 x0_11 x0_12 x0_13 x0_14 x0_15 x0_16 x0_17 x0_19 x0_20 x0_27 x0_28 x0_29 x0_30 x0_31 x0_32 x0_35 x0_36 x0_37 x0_44 x0_49 x0_50 a1 a2 a3 a4 a5 a6) sz = A at hD hA hS hX ⊢
  have hl : lv_has ls 5 [(0, .ref h0), (1, .int b1), (2, .int b2), (3, .int b3)] := hl
  have hf : p_X11_choose F x0_27 x0_28 a1 a2 a3 a4 a5 a6 b1 b2 b3 = some (r0, e_x0_27, e_x0_28, e_a1, e_a2, e_a3, e_a4, e_a5, e_a6) := hf
  have kL110 : ∀ (c110_1 : Int32) (c110_2 : Int32) (c110_3 : Int32) (n110 : Nat) (u110_4 : Int32) (x0_27_110 : Int32) (x0_28_110 : Int32) (a1_110 : Nat → Int32) (a2_110 : Nat → Int32) (a3_110 : Nat → Int32) (a4_110 : Nat → Int32) (a5_110 : Nat → Int32) (a6_110 : Nat → Int32), p_X11_choose_L110 F c110_1 c110_2 c110_3 n110 u110_4 x0_27_110 x0_28_110 a1_110 a2_110 a3_110 a4_110 a5_110 a6_110 = some (r0, e_x0_27, e_x0_28, e_a1, e_a2, e_a3, e_a4, e_a5, e_a6) → ∀ (H : Heap) (locs : List Loc), va_P G.1 vwCl (wW_X11_choose G h0 h1 h2 h3 h4 h5 h6 y0_0 y0_1 y0_2 y0_3 y0_4 y0_6 y0_18 y0_33 y0_34 y0_38 y0_39 y0_40 y0_41 y0_42 y0_43 y0_45 y0_46 y0_47 y0_48 x0_5 x0_7 x0_8 x0_9 x0_10 x0_11 x0_12 x0_13 x0_14 x0_15 x0_16 x0_17 x0_19 x0_20 x0_27_110 x0_28_110 x0_29 x0_30 x0_31 x0_32 x0_35 x0_36 x0_37 x0_44 x0_49 x0_50 a1_110 a2_110 a3_110 a4_110 a5_110 a6_110) H → va_D A (wW_X11_choose G h0 h1 h2 h3 h4 h5 h6 y0_0 y0_1 y0_2 y0_3 y0_4 y0_6 y0_18 y0_33 y0_34 y0_38 y0_39 y0_40 y0_41 y0_42 y0_43 y0_45 y0_46 y0_47 y0_48 x0_5 x0_7 x0_8 x0_9 x0_10 x0_11 x0_12 x0_13 x0_14 x0_15 x0_16 x0_17 x0_19 x0_20 x0_27_110 x0_28_110 x0_29 x0_30 x0_31 x0_32 x0_35 x0_36 x0_37 x0_44 x0_49 x0_50 a1_110 a2_110 a3_110 a4_110 a5_110 a6_110) → va_S A s.heap H locs → ∀ ls : Array Slot, lv_has ls 5 [(0, .ref h0), (1, .int c110_1), (2, .int c110_2), (3, .int c110_3), (4, .int u110_4)] → W p l e ({ frames := 2, cells := 0, slots := 0, locals := 49 } : Room) s m (List.toArray [.ref h0, .int b1, .int b2, .int b3]) below meth c H locs 0 0 (MQ below (QiS G r0 A (wW_X11_choose G h0 h1 h2 h3 h4 h5 h6 y0_0 y0_1 y0_2 y0_3 y0_4 y0_6 y0_18 y0_33 y0_34 y0_38 y0_39 y0_40 y0_41 y0_42 y0_43 y0_45 y0_46 y0_47 y0_48 x0_5 x0_7 x0_8 x0_9 x0_10 x0_11 x0_12 x0_13 x0_14 x0_15 x0_16 x0_17 x0_19 x0_20 e_x0_27 e_x0_28 x0_29 x0_30 x0_31 x0_32 x0_35 x0_36 x0_37 x0_44 x0_49 x0_50 e_a1 e_a2 e_a3 e_a4 e_a5 e_a6)) (List.toArray [.ref h0, .int b1, .int b2, .int b3]) s 0 0 A) (F0 m 110 ls []) := by
    intro c110_1 c110_2 c110_3 n110
    induction n110 with
    | zero =>
      intro u110_4 x0_27_110 x0_28_110 a1_110 a2_110 a3_110 a4_110 a5_110 a6_110 hf
      cases hf
    | succ n110 ih110 =>
      have kJ141 : ∀ (u141_4 : Int32) (s141_1 : Int32) (s141_2 : Int32) (x0_27_141 : Int32) (x0_28_141 : Int32) (a1_141 : Nat → Int32) (a2_141 : Nat → Int32) (a3_141 : Nat → Int32) (a4_141 : Nat → Int32) (a5_141 : Nat → Int32) (a6_141 : Nat → Int32), p_X11_choose_J141 F c110_1 c110_2 c110_3 (p_X11_choose_L110 F c110_1 c110_2 c110_3 n110) u141_4 s141_1 s141_2 x0_27_141 x0_28_141 a1_141 a2_141 a3_141 a4_141 a5_141 a6_141 = some (r0, e_x0_27, e_x0_28, e_a1, e_a2, e_a3, e_a4, e_a5, e_a6) → ∀ (H : Heap) (locs : List Loc), va_P G.1 vwCl (wW_X11_choose G h0 h1 h2 h3 h4 h5 h6 y0_0 y0_1 y0_2 y0_3 y0_4 y0_6 y0_18 y0_33 y0_34 y0_38 y0_39 y0_40 y0_41 y0_42 y0_43 y0_45 y0_46 y0_47 y0_48 x0_5 x0_7 x0_8 x0_9 x0_10 x0_11 x0_12 x0_13 x0_14 x0_15 x0_16 x0_17 x0_19 x0_20 x0_27_141 x0_28_141 x0_29 x0_30 x0_31 x0_32 x0_35 x0_36 x0_37 x0_44 x0_49 x0_50 a1_141 a2_141 a3_141 a4_141 a5_141 a6_141) H → va_D A (wW_X11_choose G h0 h1 h2 h3 h4 h5 h6 y0_0 y0_1 y0_2 y0_3 y0_4 y0_6 y0_18 y0_33 y0_34 y0_38 y0_39 y0_40 y0_41 y0_42 y0_43 y0_45 y0_46 y0_47 y0_48 x0_5 x0_7 x0_8 x0_9 x0_10 x0_11 x0_12 x0_13 x0_14 x0_15 x0_16 x0_17 x0_19 x0_20 x0_27_141 x0_28_141 x0_29 x0_30 x0_31 x0_32 x0_35 x0_36 x0_37 x0_44 x0_49 x0_50 a1_141 a2_141 a3_141 a4_141 a5_141 a6_141) → va_S A s.heap H locs → ∀ ls : Array Slot, lv_has ls 5 [(0, .ref h0), (1, .int c110_1), (2, .int c110_2), (3, .int c110_3), (4, .int u141_4)] → W p l e ({ frames := 2, cells := 0, slots := 0, locals := 49 } : Room) s m (List.toArray [.ref h0, .int b1, .int b2, .int b3]) below meth c H locs 0 0 (MQ below (QiS G r0 A (wW_X11_choose G h0 h1 h2 h3 h4 h5 h6 y0_0 y0_1 y0_2 y0_3 y0_4 y0_6 y0_18 y0_33 y0_34 y0_38 y0_39 y0_40 y0_41 y0_42 y0_43 y0_45 y0_46 y0_47 y0_48 x0_5 x0_7 x0_8 x0_9 x0_10 x0_11 x0_12 x0_13 x0_14 x0_15 x0_16 x0_17 x0_19 x0_20 e_x0_27 e_x0_28 x0_29 x0_30 x0_31 x0_32 x0_35 x0_36 x0_37 x0_44 x0_49 x0_50 e_a1 e_a2 e_a3 e_a4 e_a5 e_a6)) (List.toArray [.ref h0, .int b1, .int b2, .int b3]) s 0 0 A) (F0 m 141 ls [.int s141_2, .int s141_1, .ref h2]) := by
        intro u141_4 s141_1 s141_2 x0_27_141 x0_28_141 a1_141 a2_141 a3_141 a4_141 a5_141 a6_141 hf H locs hP hD hS ls hl
        obtain ⟨g1, hf⟩ := of_grd hf
        refine va_iast hx hb hK hP hD hS 2 0 rfl rfl g1 dX11_choose_141 (fun H locs hP hD hS => ?_)
        have hP : va_P G.1 vwCl (wW_X11_choose G h0 h1 h2 h3 h4 h5 h6 y0_0 y0_1 y0_2 y0_3 y0_4 y0_6 y0_18 y0_33 y0_34 y0_38 y0_39 y0_40 y0_41 y0_42 y0_43 y0_45 y0_46 y0_47 y0_48 x0_5 x0_7 x0_8 x0_9 x0_10 x0_11 x0_12 x0_13 x0_14 x0_15 x0_16 x0_17 x0_19 x0_20 x0_27_141 x0_28_141 x0_29 x0_30 x0_31 x0_32 x0_35 x0_36 x0_37 x0_44 x0_49 x0_50 a1_141 (upd a2_141 s141_1.toNatClampNeg s141_2) a3_141 a4_141 a5_141 a6_141) H := hP
        have hD : va_D A (wW_X11_choose G h0 h1 h2 h3 h4 h5 h6 y0_0 y0_1 y0_2 y0_3 y0_4 y0_6 y0_18 y0_33 y0_34 y0_38 y0_39 y0_40 y0_41 y0_42 y0_43 y0_45 y0_46 y0_47 y0_48 x0_5 x0_7 x0_8 x0_9 x0_10 x0_11 x0_12 x0_13 x0_14 x0_15 x0_16 x0_17 x0_19 x0_20 x0_27_141 x0_28_141 x0_29 x0_30 x0_31 x0_32 x0_35 x0_36 x0_37 x0_44 x0_49 x0_50 a1_141 (upd a2_141 s141_1.toNatClampNeg s141_2) a3_141 a4_141 a5_141 a6_141) := hD
        refine lv_iinc (v := u141_4 + (1 : Int32)) (lv' := [(4, .int (u141_4 + (1 : Int32))), (0, .ref h0), (1, .int c110_1), (2, .int c110_2), (3, .int c110_3)]) hx hb dX11_choose_142 hl (k := 4) rfl (by rfl) (by decide) rfl (fun ls hl => ?_)
        refine lv_goto (tgt := 110) hx hb dX11_choose_145 (by decide) ?_
        exact ih110 _ _ _ _ _ _ _ _ _ hf _ _ hP hD hS _ (lv_sub hl [1, 2, 3, 4, 0] rfl)
      intro u110_4 x0_27_110 x0_28_110 a1_110 a2_110 a3_110 a4_110 a5_110 a6_110 hf H locs hP hD hS ls hl
      have hf : p_X11_choose_L110b F c110_1 c110_2 c110_3 (p_X11_choose_L110 F c110_1 c110_2 c110_3 n110) u110_4 x0_27_110 x0_28_110 a1_110 a2_110 a3_110 a4_110 a5_110 a6_110 = some (r0, e_x0_27, e_x0_28, e_a1, e_a2, e_a3, e_a4, e_a5, e_a6) := hf
      refine lv_iload hx hb dX11_choose_110 (lv_at hl 4 rfl) ?_
      refine lv_iload_n hx hb dX11_choose_112 rfl (lv_at hl 1 rfl) ?_
      refine lv_icmp_ge (tgt := 148) hx hb dX11_choose_113 (by decide) (fun c2 => ?_) (fun c2 => ?_)
      · have hf := of_pos hf c2
        refine lv_iconst (v := (1 : Int32)) hx hb dX11_choose_148 (by decide) ?_
        cases hf
        exact ret_z hx hb hr hlk hK hP hD hS (by decide) dX11_choose_149
      · have hf := of_neg hf c2
        refine lv_aload_n hx hb dX11_choose_116 rfl (lv_at hl 0 rfl) ?_
        refine va_get (ci := 11) (v := .ref h2) (C := RX11) (T := TX11) (N := 51) hx hb ht0 iX11 hown hK hP 0 rfl rfl 22 (by decide) (ht0 _ wd_1428) (fun _ h9 => h9) rfl dX11_choose_117 ?_
        refine lv_iload hx hb dX11_choose_120 (lv_at hl 4 rfl) ?_
        refine lv_iload_n hx hb dX11_choose_122 rfl (lv_at hl 3 rfl) ?_
        refine lv_if_ne (tgt := 136) hx hb dX11_choose_123 (by decide) (fun c3 => ?_) (fun c3 => ?_)
        · have hf := of_neg hf c3
          refine lv_aload_n hx hb dX11_choose_136 rfl (lv_at hl 0 rfl) ?_
          refine lv_iload_n hx hb dX11_choose_137 rfl (lv_at hl 2 rfl) ?_
          obtain ⟨⟨r_138_3, r_138_3_a2, r_138_3_a3⟩, hc_r_138_3, hf⟩ := of_bnd hf
          refine cl_Vi (w2 := (wW_X11_choose G h0 h1 h2 h3 h4 h5 h6 y0_0 y0_1 y0_2 y0_3 y0_4 y0_6 y0_18 y0_33 y0_34 y0_38 y0_39 y0_40 y0_41 y0_42 y0_43 y0_45 y0_46 y0_47 y0_48 x0_5 x0_7 x0_8 x0_9 x0_10 x0_11 x0_12 x0_13 x0_14 x0_15 x0_16 x0_17 x0_19 x0_20 x0_27_110 x0_28_110 x0_29 x0_30 x0_31 x0_32 x0_35 x0_36 x0_37 x0_44 x0_49 x0_50 a1_110 a2_110 a3_110 r_138_3_a2 r_138_3_a3 a6_110)) (As := [.int c110_2]) (rest := [.int u110_4, .ref h2]) ⟨hx, hb, hml, hown, ht0⟩ (c_X11_balancedFor l G h0 h1 h4 h5 y0_0 y0_1 y0_2 y0_3 y0_4 y0_6 y0_18 h2 h3 h6 y0_33 y0_34 y0_38 y0_39 y0_40 y0_41 y0_42 y0_43 y0_45 y0_46 y0_47 y0_48 _ x0_5 x0_7 x0_8 x0_9 x0_10 x0_11 x0_12 x0_13 x0_14 x0_15 x0_16 x0_17 x0_19 x0_20 x0_27_110 x0_28_110 x0_29 x0_30 x0_31 x0_32 x0_35 x0_36 x0_37 x0_44 x0_49 x0_50 a1_110 a4_110 a5_110 F c110_2 _ _ _ hc_r_138_3) yk_X11_balancedFor wd_1363 ⟨rfl, rfl, by decide, by decide⟩ ⟨Nat.le_refl _, Nat.le_refl _⟩ hX hK hP hD hS hA [0, 1, 4, 5] [2, 3, 6] [3, 4, 0, 1, 5, 6, 2] (va_recv hK hP (ci := 11) (q0 := 0) rfl rfl) rfl rfl (by decide) rfl rfl rfl rfl rfl hl.1 rfl (Nat.le_of_ble_eq_true rfl) dX11_choose_138 (fun H locs hP hD hS => ?_)
          exact kJ141 _ _ _ _ _ _ _ _ _ _ _ hf _ _ hP hD hS _ (lv_sub hl [0, 1, 2, 3, 4] rfl)
        · have hf := of_pos hf c3
          refine lv_aload_n hx hb dX11_choose_126 rfl (lv_at hl 0 rfl) ?_
          refine va_get (ci := 11) (v := .ref h1) (C := RX11) (T := TX11) (N := 51) hx hb ht0 iX11 hown hK hP 0 rfl rfl 21 (by decide) (ht0 _ wd_1427) (fun _ h9 => h9) rfl dX11_choose_127 ?_
          refine lv_iload hx hb dX11_choose_130 (lv_at hl 4 rfl) ?_
          obtain ⟨g5, hf⟩ := of_grd hf
          refine va_iald hx hb hK hP 1 0 rfl rfl g5 dX11_choose_132 ?_
          refine lv_goto (tgt := 141) hx hb dX11_choose_133 (by decide) ?_
          exact kJ141 _ _ _ _ _ _ _ _ _ _ _ hf _ _ hP hD hS _ (lv_sub hl [0, 1, 2, 3, 4] rfl)
  have kL41 : ∀ (c41_1 : Int32) (c41_2 : Int32) (c41_3 : Int32) (n41 : Nat) (u41_4 : Int32) (x0_27_41 : Int32) (x0_28_41 : Int32) (a1_41 : Nat → Int32) (a2_41 : Nat → Int32) (a3_41 : Nat → Int32) (a4_41 : Nat → Int32) (a5_41 : Nat → Int32) (a6_41 : Nat → Int32), p_X11_choose_L41 F c41_1 c41_2 c41_3 n41 u41_4 x0_27_41 x0_28_41 a1_41 a2_41 a3_41 a4_41 a5_41 a6_41 = some (r0, e_x0_27, e_x0_28, e_a1, e_a2, e_a3, e_a4, e_a5, e_a6) → ∀ (H : Heap) (locs : List Loc), va_P G.1 vwCl (wW_X11_choose G h0 h1 h2 h3 h4 h5 h6 y0_0 y0_1 y0_2 y0_3 y0_4 y0_6 y0_18 y0_33 y0_34 y0_38 y0_39 y0_40 y0_41 y0_42 y0_43 y0_45 y0_46 y0_47 y0_48 x0_5 x0_7 x0_8 x0_9 x0_10 x0_11 x0_12 x0_13 x0_14 x0_15 x0_16 x0_17 x0_19 x0_20 x0_27_41 x0_28_41 x0_29 x0_30 x0_31 x0_32 x0_35 x0_36 x0_37 x0_44 x0_49 x0_50 a1_41 a2_41 a3_41 a4_41 a5_41 a6_41) H → va_D A (wW_X11_choose G h0 h1 h2 h3 h4 h5 h6 y0_0 y0_1 y0_2 y0_3 y0_4 y0_6 y0_18 y0_33 y0_34 y0_38 y0_39 y0_40 y0_41 y0_42 y0_43 y0_45 y0_46 y0_47 y0_48 x0_5 x0_7 x0_8 x0_9 x0_10 x0_11 x0_12 x0_13 x0_14 x0_15 x0_16 x0_17 x0_19 x0_20 x0_27_41 x0_28_41 x0_29 x0_30 x0_31 x0_32 x0_35 x0_36 x0_37 x0_44 x0_49 x0_50 a1_41 a2_41 a3_41 a4_41 a5_41 a6_41) → va_S A s.heap H locs → ∀ ls : Array Slot, lv_has ls 5 [(0, .ref h0), (1, .int c41_1), (2, .int c41_2), (3, .int c41_3), (4, .int u41_4)] → W p l e ({ frames := 2, cells := 0, slots := 0, locals := 49 } : Room) s m (List.toArray [.ref h0, .int b1, .int b2, .int b3]) below meth c H locs 0 0 (MQ below (QiS G r0 A (wW_X11_choose G h0 h1 h2 h3 h4 h5 h6 y0_0 y0_1 y0_2 y0_3 y0_4 y0_6 y0_18 y0_33 y0_34 y0_38 y0_39 y0_40 y0_41 y0_42 y0_43 y0_45 y0_46 y0_47 y0_48 x0_5 x0_7 x0_8 x0_9 x0_10 x0_11 x0_12 x0_13 x0_14 x0_15 x0_16 x0_17 x0_19 x0_20 e_x0_27 e_x0_28 x0_29 x0_30 x0_31 x0_32 x0_35 x0_36 x0_37 x0_44 x0_49 x0_50 e_a1 e_a2 e_a3 e_a4 e_a5 e_a6)) (List.toArray [.ref h0, .int b1, .int b2, .int b3]) s 0 0 A) (F0 m 41 ls []) := by
    intro c41_1 c41_2 c41_3 n41
    induction n41 with
    | zero =>
      intro u41_4 x0_27_41 x0_28_41 a1_41 a2_41 a3_41 a4_41 a5_41 a6_41 hf
      cases hf
    | succ n41 ih41 =>
      have kJ78 : ∀ (u78_4 : Int32) (s78_1 : Int32) (s78_2 : Int32) (x0_27_78 : Int32) (x0_28_78 : Int32) (a1_78 : Nat → Int32) (a2_78 : Nat → Int32) (a3_78 : Nat → Int32) (a4_78 : Nat → Int32) (a5_78 : Nat → Int32) (a6_78 : Nat → Int32), p_X11_choose_J78 F c41_1 c41_2 c41_3 (p_X11_choose_L41 F c41_1 c41_2 c41_3 n41) u78_4 s78_1 s78_2 x0_27_78 x0_28_78 a1_78 a2_78 a3_78 a4_78 a5_78 a6_78 = some (r0, e_x0_27, e_x0_28, e_a1, e_a2, e_a3, e_a4, e_a5, e_a6) → ∀ (H : Heap) (locs : List Loc), va_P G.1 vwCl (wW_X11_choose G h0 h1 h2 h3 h4 h5 h6 y0_0 y0_1 y0_2 y0_3 y0_4 y0_6 y0_18 y0_33 y0_34 y0_38 y0_39 y0_40 y0_41 y0_42 y0_43 y0_45 y0_46 y0_47 y0_48 x0_5 x0_7 x0_8 x0_9 x0_10 x0_11 x0_12 x0_13 x0_14 x0_15 x0_16 x0_17 x0_19 x0_20 x0_27_78 x0_28_78 x0_29 x0_30 x0_31 x0_32 x0_35 x0_36 x0_37 x0_44 x0_49 x0_50 a1_78 a2_78 a3_78 a4_78 a5_78 a6_78) H → va_D A (wW_X11_choose G h0 h1 h2 h3 h4 h5 h6 y0_0 y0_1 y0_2 y0_3 y0_4 y0_6 y0_18 y0_33 y0_34 y0_38 y0_39 y0_40 y0_41 y0_42 y0_43 y0_45 y0_46 y0_47 y0_48 x0_5 x0_7 x0_8 x0_9 x0_10 x0_11 x0_12 x0_13 x0_14 x0_15 x0_16 x0_17 x0_19 x0_20 x0_27_78 x0_28_78 x0_29 x0_30 x0_31 x0_32 x0_35 x0_36 x0_37 x0_44 x0_49 x0_50 a1_78 a2_78 a3_78 a4_78 a5_78 a6_78) → va_S A s.heap H locs → ∀ ls : Array Slot, lv_has ls 5 [(0, .ref h0), (1, .int c41_1), (2, .int c41_2), (3, .int c41_3), (4, .int u78_4)] → W p l e ({ frames := 2, cells := 0, slots := 0, locals := 49 } : Room) s m (List.toArray [.ref h0, .int b1, .int b2, .int b3]) below meth c H locs 0 0 (MQ below (QiS G r0 A (wW_X11_choose G h0 h1 h2 h3 h4 h5 h6 y0_0 y0_1 y0_2 y0_3 y0_4 y0_6 y0_18 y0_33 y0_34 y0_38 y0_39 y0_40 y0_41 y0_42 y0_43 y0_45 y0_46 y0_47 y0_48 x0_5 x0_7 x0_8 x0_9 x0_10 x0_11 x0_12 x0_13 x0_14 x0_15 x0_16 x0_17 x0_19 x0_20 e_x0_27 e_x0_28 x0_29 x0_30 x0_31 x0_32 x0_35 x0_36 x0_37 x0_44 x0_49 x0_50 e_a1 e_a2 e_a3 e_a4 e_a5 e_a6)) (List.toArray [.ref h0, .int b1, .int b2, .int b3]) s 0 0 A) (F0 m 78 ls [.int s78_2, .int s78_1, .ref h2]) := by
        intro u78_4 s78_1 s78_2 x0_27_78 x0_28_78 a1_78 a2_78 a3_78 a4_78 a5_78 a6_78 hf H locs hP hD hS ls hl
        obtain ⟨g6, hf⟩ := of_grd hf
        refine va_iast hx hb hK hP hD hS 2 0 rfl rfl g6 dX11_choose_78 (fun H locs hP hD hS => ?_)
        have hP : va_P G.1 vwCl (wW_X11_choose G h0 h1 h2 h3 h4 h5 h6 y0_0 y0_1 y0_2 y0_3 y0_4 y0_6 y0_18 y0_33 y0_34 y0_38 y0_39 y0_40 y0_41 y0_42 y0_43 y0_45 y0_46 y0_47 y0_48 x0_5 x0_7 x0_8 x0_9 x0_10 x0_11 x0_12 x0_13 x0_14 x0_15 x0_16 x0_17 x0_19 x0_20 x0_27_78 x0_28_78 x0_29 x0_30 x0_31 x0_32 x0_35 x0_36 x0_37 x0_44 x0_49 x0_50 a1_78 (upd a2_78 s78_1.toNatClampNeg s78_2) a3_78 a4_78 a5_78 a6_78) H := hP
        have hD : va_D A (wW_X11_choose G h0 h1 h2 h3 h4 h5 h6 y0_0 y0_1 y0_2 y0_3 y0_4 y0_6 y0_18 y0_33 y0_34 y0_38 y0_39 y0_40 y0_41 y0_42 y0_43 y0_45 y0_46 y0_47 y0_48 x0_5 x0_7 x0_8 x0_9 x0_10 x0_11 x0_12 x0_13 x0_14 x0_15 x0_16 x0_17 x0_19 x0_20 x0_27_78 x0_28_78 x0_29 x0_30 x0_31 x0_32 x0_35 x0_36 x0_37 x0_44 x0_49 x0_50 a1_78 (upd a2_78 s78_1.toNatClampNeg s78_2) a3_78 a4_78 a5_78 a6_78) := hD
        refine lv_iinc (v := u78_4 + (1 : Int32)) (lv' := [(4, .int (u78_4 + (1 : Int32))), (0, .ref h0), (1, .int c41_1), (2, .int c41_2), (3, .int c41_3)]) hx hb dX11_choose_79 hl (k := 4) rfl (by rfl) (by decide) rfl (fun ls hl => ?_)
        refine lv_goto (tgt := 41) hx hb dX11_choose_82 (by decide) ?_
        exact ih41 _ _ _ _ _ _ _ _ _ hf _ _ hP hD hS _ (lv_sub hl [1, 2, 3, 4, 0] rfl)
      intro u41_4 x0_27_41 x0_28_41 a1_41 a2_41 a3_41 a4_41 a5_41 a6_41 hf H locs hP hD hS ls hl
      have hf : p_X11_choose_L41b F c41_1 c41_2 c41_3 (p_X11_choose_L41 F c41_1 c41_2 c41_3 n41) u41_4 x0_27_41 x0_28_41 a1_41 a2_41 a3_41 a4_41 a5_41 a6_41 = some (r0, e_x0_27, e_x0_28, e_a1, e_a2, e_a3, e_a4, e_a5, e_a6) := hf
      refine lv_iload hx hb dX11_choose_41 (lv_at hl 4 rfl) ?_
      refine lv_bipush (v := (32 : Int32)) hx hb dX11_choose_43 (by decide) ?_
      refine lv_icmp_ge (tgt := 85) hx hb dX11_choose_45 (by decide) (fun c7 => ?_) (fun c7 => ?_)
      · have hf := of_pos hf c7
        refine lv_iload_n hx hb dX11_choose_85 rfl (lv_at hl 1 rfl) ?_
        refine lv_aload_n hx hb dX11_choose_86 rfl (lv_at hl 0 rfl) ?_
        refine va_get (ci := 11) (v := .int x0_27_41) (C := RX11) (T := TX11) (N := 51) hx hb ht0 iX11 hown hK hP 0 rfl rfl 27 (by decide) (ht0 _ wd_1433) (fun _ h9 => h9) rfl dX11_choose_87 ?_
        refine lv_icmp_le (tgt := 95) hx hb dX11_choose_90 (by decide) (fun c8 => ?_) (fun c8 => ?_)
        · have hf := of_pos hf c8
          refine lv_iload_n hx hb dX11_choose_95 rfl (lv_at hl 3 rfl) ?_
          refine lv_iconst (v := (2 : Int32)) hx hb dX11_choose_96 (by decide) ?_
          refine lv_icmp_ne (tgt := 107) hx hb dX11_choose_97 (by decide) (fun c9 => ?_) (fun c9 => ?_)
          · have hf := of_neg hf c9
            refine lv_iconst (v := (0 : Int32)) hx hb dX11_choose_107 (by decide) ?_
            refine lv_istore (lv' := [(4, .int (0 : Int32)), (0, .ref h0), (1, .int c41_1), (2, .int c41_2), (3, .int c41_3)]) hx hb dX11_choose_108 hl (by decide) rfl (fun ls hl => ?_)
            exact kL110 _ _ _ _ _ _ _ _ _ _ _ _ _ hf _ _ hP hD hS _ (lv_sub hl [1, 2, 3, 4, 0] rfl)
          · have hf := of_pos hf c9
            refine lv_aload_n hx hb dX11_choose_100 rfl (lv_at hl 0 rfl) ?_
            refine lv_iload_n hx hb dX11_choose_101 rfl (lv_at hl 1 rfl) ?_
            refine lv_iload_n hx hb dX11_choose_102 rfl (lv_at hl 2 rfl) ?_
            obtain ⟨⟨r_103_9, r_103_9_x0_28, r_103_9_a2, r_103_9_a3, r_103_9_a4, r_103_9_a5⟩, hc_r_103_9, hf⟩ := of_bnd hf
            refine cl_Vi (w2 := (wW_X11_choose G h0 h1 h2 h3 h4 h5 h6 y0_0 y0_1 y0_2 y0_3 y0_4 y0_6 y0_18 y0_33 y0_34 y0_38 y0_39 y0_40 y0_41 y0_42 y0_43 y0_45 y0_46 y0_47 y0_48 x0_5 x0_7 x0_8 x0_9 x0_10 x0_11 x0_12 x0_13 x0_14 x0_15 x0_16 x0_17 x0_19 x0_20 x0_27_41 r_103_9_x0_28 x0_29 x0_30 x0_31 x0_32 x0_35 x0_36 x0_37 x0_44 x0_49 x0_50 a1_41 r_103_9_a2 r_103_9_a3 a4_41 r_103_9_a4 r_103_9_a5)) (As := [.int c41_1, .int c41_2]) (rest := []) ⟨hx, hb, hml, hown, ht0⟩ (c_X11_choosePaired l G h0 h1 h2 h3 h5 h6 y0_0 y0_1 y0_2 y0_3 y0_4 y0_6 y0_18 h4 y0_33 y0_34 y0_38 y0_39 y0_40 y0_41 y0_42 y0_43 y0_45 y0_46 y0_47 y0_48 _ x0_5 x0_7 x0_8 x0_9 x0_10 x0_11 x0_12 x0_13 x0_14 x0_15 x0_16 x0_17 x0_19 x0_20 x0_27_41 x0_28_41 x0_29 x0_30 x0_31 x0_32 x0_35 x0_36 x0_37 x0_44 x0_49 x0_50 a1_41 a2_41 a3_41 a5_41 a6_41 F c41_1 c41_2 _ _ _ _ _ _ hc_r_103_9) yk_X11_choosePaired wd_1347 ⟨rfl, rfl, by decide, by decide⟩ ⟨Nat.le_refl _, Nat.le_refl _⟩ hX hK hP hD hS hA [0, 1, 2, 3, 5, 6] [4] [1, 2, 3, 4, 0, 5, 6] (va_recv hK hP (ci := 11) (q0 := 0) rfl rfl) rfl rfl (by decide) rfl rfl rfl rfl rfl hl.1 rfl (Nat.le_of_ble_eq_true rfl) dX11_choose_103 (fun H locs hP hD hS => ?_)
            obtain ⟨g11, hf⟩ := of_grd hf
            have g11 := Decidable.not_not.mp g11
            cases hf
            exact ret_z hx hb hr hlk hK hP hD hS g11 dX11_choose_106
        · have hf := of_neg hf c8
          refine lv_iconst (v := (0 : Int32)) hx hb dX11_choose_93 (by decide) ?_
          cases hf
          exact ret_z hx hb hr hlk hK hP hD hS (by decide) dX11_choose_94
      · have hf := of_neg hf c7
        refine lv_aload_n hx hb dX11_choose_48 rfl (lv_at hl 0 rfl) ?_
        refine va_get (ci := 11) (v := .ref h2) (C := RX11) (T := TX11) (N := 51) hx hb ht0 iX11 hown hK hP 0 rfl rfl 22 (by decide) (ht0 _ wd_1428) (fun _ h9 => h9) rfl dX11_choose_49 ?_
        refine lv_iload hx hb dX11_choose_52 (lv_at hl 4 rfl) ?_
        refine lv_iload hx hb dX11_choose_54 (lv_at hl 4 rfl) ?_
        refine lv_iload_n hx hb dX11_choose_56 rfl (lv_at hl 1 rfl) ?_
        refine lv_iload_n hx hb dX11_choose_57 rfl (lv_at hl 1 rfl) ?_
        refine lv_iload_n hx hb dX11_choose_58 rfl (lv_at hl 2 rfl) ?_
        refine lv_iadd hx hb dX11_choose_59 ?_
        refine lv_iconst (v := (1 : Int32)) hx hb dX11_choose_60 (by decide) ?_
        refine lv_isub hx hb dX11_choose_61 ?_
        obtain ⟨r_62_11, hc_r_62_11, hf⟩ := of_bnd hf
        refine cl_Si (w2 := (wW_X11_choose G h0 h1 h2 h3 h4 h5 h6 y0_0 y0_1 y0_2 y0_3 y0_4 y0_6 y0_18 y0_33 y0_34 y0_38 y0_39 y0_40 y0_41 y0_42 y0_43 y0_45 y0_46 y0_47 y0_48 x0_5 x0_7 x0_8 x0_9 x0_10 x0_11 x0_12 x0_13 x0_14 x0_15 x0_16 x0_17 x0_19 x0_20 x0_27_41 x0_28_41 x0_29 x0_30 x0_31 x0_32 x0_35 x0_36 x0_37 x0_44 x0_49 x0_50 a1_41 a2_41 a3_41 a4_41 a5_41 a6_41)) (As := [.int u41_4, .int c41_1, .int ((c41_1 + c41_2) - (1 : Int32))]) (rest := [.int u41_4, .ref h2]) ⟨hx, hb, hml, hown, ht0⟩ (c_X11_isIn l G _ F u41_4 c41_1 ((c41_1 + c41_2) - (1 : Int32)) _ hc_r_62_11) yk_X11_isIn wd_1321 ⟨rfl, rfl, by decide, by decide⟩ ⟨Nat.le_refl _, Nat.le_refl _⟩ hX hK hP hD hS hA [] [0, 1, 2, 3, 4, 5, 6] [0, 1, 2, 3, 4, 5, 6] rfl rfl (by decide) rfl rfl rfl rfl rfl hl.1 rfl (Nat.le_of_ble_eq_true rfl) dX11_choose_62 (fun H locs hP hD hS => ?_)
        refine lv_if_eq (tgt := 77) hx hb dX11_choose_65 (by decide) (fun c13 => ?_) (fun c13 => ?_)
        · have hf := of_pos hf c13
          refine lv_iconst (v := (0 : Int32)) hx hb dX11_choose_77 (by decide) ?_
          exact kJ78 _ _ _ _ _ _ _ _ _ _ _ hf _ _ hP hD hS _ (lv_sub hl [0, 1, 2, 3, 4] rfl)
        · have hf := of_neg hf c13
          refine lv_iconst (v := (1 : Int32)) hx hb dX11_choose_68 (by decide) ?_
          refine lv_iload hx hb dX11_choose_69 (lv_at hl 4 rfl) ?_
          refine lv_iload_n hx hb dX11_choose_71 rfl (lv_at hl 1 rfl) ?_
          refine lv_isub hx hb dX11_choose_72 ?_
          refine lv_ishl hx hb dX11_choose_73 ?_
          refine lv_goto (tgt := 78) hx hb dX11_choose_74 (by decide) ?_
          exact kJ78 _ _ _ _ _ _ _ _ _ _ _ hf _ _ hP hD hS _ (lv_sub hl [0, 1, 2, 3, 4] rfl)
  have kL8 : ∀ (c8_1 : Int32) (c8_2 : Int32) (c8_3 : Int32) (n8 : Nat) (u8_4 : Int32) (x0_27_8 : Int32) (x0_28_8 : Int32) (a1_8 : Nat → Int32) (a2_8 : Nat → Int32) (a3_8 : Nat → Int32) (a4_8 : Nat → Int32) (a5_8 : Nat → Int32) (a6_8 : Nat → Int32), p_X11_choose_L8 F c8_1 c8_2 c8_3 n8 u8_4 x0_27_8 x0_28_8 a1_8 a2_8 a3_8 a4_8 a5_8 a6_8 = some (r0, e_x0_27, e_x0_28, e_a1, e_a2, e_a3, e_a4, e_a5, e_a6) → ∀ (H : Heap) (locs : List Loc), va_P G.1 vwCl (wW_X11_choose G h0 h1 h2 h3 h4 h5 h6 y0_0 y0_1 y0_2 y0_3 y0_4 y0_6 y0_18 y0_33 y0_34 y0_38 y0_39 y0_40 y0_41 y0_42 y0_43 y0_45 y0_46 y0_47 y0_48 x0_5 x0_7 x0_8 x0_9 x0_10 x0_11 x0_12 x0_13 x0_14 x0_15 x0_16 x0_17 x0_19 x0_20 x0_27_8 x0_28_8 x0_29 x0_30 x0_31 x0_32 x0_35 x0_36 x0_37 x0_44 x0_49 x0_50 a1_8 a2_8 a3_8 a4_8 a5_8 a6_8) H → va_D A (wW_X11_choose G h0 h1 h2 h3 h4 h5 h6 y0_0 y0_1 y0_2 y0_3 y0_4 y0_6 y0_18 y0_33 y0_34 y0_38 y0_39 y0_40 y0_41 y0_42 y0_43 y0_45 y0_46 y0_47 y0_48 x0_5 x0_7 x0_8 x0_9 x0_10 x0_11 x0_12 x0_13 x0_14 x0_15 x0_16 x0_17 x0_19 x0_20 x0_27_8 x0_28_8 x0_29 x0_30 x0_31 x0_32 x0_35 x0_36 x0_37 x0_44 x0_49 x0_50 a1_8 a2_8 a3_8 a4_8 a5_8 a6_8) → va_S A s.heap H locs → ∀ ls : Array Slot, lv_has ls 5 [(0, .ref h0), (1, .int c8_1), (2, .int c8_2), (3, .int c8_3), (4, .int u8_4)] → W p l e ({ frames := 2, cells := 0, slots := 0, locals := 49 } : Room) s m (List.toArray [.ref h0, .int b1, .int b2, .int b3]) below meth c H locs 0 0 (MQ below (QiS G r0 A (wW_X11_choose G h0 h1 h2 h3 h4 h5 h6 y0_0 y0_1 y0_2 y0_3 y0_4 y0_6 y0_18 y0_33 y0_34 y0_38 y0_39 y0_40 y0_41 y0_42 y0_43 y0_45 y0_46 y0_47 y0_48 x0_5 x0_7 x0_8 x0_9 x0_10 x0_11 x0_12 x0_13 x0_14 x0_15 x0_16 x0_17 x0_19 x0_20 e_x0_27 e_x0_28 x0_29 x0_30 x0_31 x0_32 x0_35 x0_36 x0_37 x0_44 x0_49 x0_50 e_a1 e_a2 e_a3 e_a4 e_a5 e_a6)) (List.toArray [.ref h0, .int b1, .int b2, .int b3]) s 0 0 A) (F0 m 8 ls []) := by
    intro c8_1 c8_2 c8_3 n8
    induction n8 with
    | zero =>
      intro u8_4 x0_27_8 x0_28_8 a1_8 a2_8 a3_8 a4_8 a5_8 a6_8 hf
      cases hf
    | succ n8 ih8 =>
      intro u8_4 x0_27_8 x0_28_8 a1_8 a2_8 a3_8 a4_8 a5_8 a6_8 hf H locs hP hD hS ls hl
      have hf : p_X11_choose_L8b F c8_1 c8_2 c8_3 (p_X11_choose_L8 F c8_1 c8_2 c8_3 n8) u8_4 x0_27_8 x0_28_8 a1_8 a2_8 a3_8 a4_8 a5_8 a6_8 = some (r0, e_x0_27, e_x0_28, e_a1, e_a2, e_a3, e_a4, e_a5, e_a6) := hf
      refine lv_iload hx hb dX11_choose_8 (lv_at hl 4 rfl) ?_
      refine lv_sipush (v := (256 : Int32)) hx hb dX11_choose_10 (by decide) ?_
      refine lv_icmp_ge (tgt := 38) hx hb dX11_choose_13 (by decide) (fun c14 => ?_) (fun c14 => ?_)
      · have hf := of_pos hf c14
        refine lv_iconst (v := (0 : Int32)) hx hb dX11_choose_38 (by decide) ?_
        refine lv_istore (lv' := [(4, .int (0 : Int32)), (0, .ref h0), (1, .int c8_1), (2, .int c8_2), (3, .int c8_3)]) hx hb dX11_choose_39 hl (by decide) rfl (fun ls hl => ?_)
        exact kL41 _ _ _ _ _ _ _ _ _ _ _ _ _ hf _ _ hP hD hS _ (lv_sub hl [1, 2, 3, 4, 0] rfl)
      · have hf := of_neg hf c14
        refine lv_aload_n hx hb dX11_choose_16 rfl (lv_at hl 0 rfl) ?_
        refine va_get (ci := 11) (v := .ref h5) (C := RX11) (T := TX11) (N := 51) hx hb ht0 iX11 hown hK hP 0 rfl rfl 25 (by decide) (ht0 _ wd_1431) (fun _ h9 => h9) rfl dX11_choose_17 ?_
        refine lv_iload hx hb dX11_choose_20 (lv_at hl 4 rfl) ?_
        refine lv_iconst (v := (0 : Int32)) hx hb dX11_choose_22 (by decide) ?_
        obtain ⟨g15, hf⟩ := of_grd hf
        refine va_zast hx hb hK hP hD hS 5 1 rfl rfl g15 dX11_choose_23 (fun H locs hP hD hS => ?_)
        have hP : va_P G.1 vwCl (wW_X11_choose G h0 h1 h2 h3 h4 h5 h6 y0_0 y0_1 y0_2 y0_3 y0_4 y0_6 y0_18 y0_33 y0_34 y0_38 y0_39 y0_40 y0_41 y0_42 y0_43 y0_45 y0_46 y0_47 y0_48 x0_5 x0_7 x0_8 x0_9 x0_10 x0_11 x0_12 x0_13 x0_14 x0_15 x0_16 x0_17 x0_19 x0_20 x0_27_8 x0_28_8 x0_29 x0_30 x0_31 x0_32 x0_35 x0_36 x0_37 x0_44 x0_49 x0_50 a1_8 a2_8 a3_8 a4_8 (upd a5_8 u8_4.toNatClampNeg (vp_nar .boolean (0 : Int32))) a6_8) H := hP
        have hD : va_D A (wW_X11_choose G h0 h1 h2 h3 h4 h5 h6 y0_0 y0_1 y0_2 y0_3 y0_4 y0_6 y0_18 y0_33 y0_34 y0_38 y0_39 y0_40 y0_41 y0_42 y0_43 y0_45 y0_46 y0_47 y0_48 x0_5 x0_7 x0_8 x0_9 x0_10 x0_11 x0_12 x0_13 x0_14 x0_15 x0_16 x0_17 x0_19 x0_20 x0_27_8 x0_28_8 x0_29 x0_30 x0_31 x0_32 x0_35 x0_36 x0_37 x0_44 x0_49 x0_50 a1_8 a2_8 a3_8 a4_8 (upd a5_8 u8_4.toNatClampNeg (vp_nar .boolean (0 : Int32))) a6_8) := hD
        refine lv_aload_n hx hb dX11_choose_24 rfl (lv_at hl 0 rfl) ?_
        refine va_get (ci := 11) (v := .ref h6) (C := RX11) (T := TX11) (N := 51) hx hb ht0 iX11 hown hK hP 0 rfl rfl 26 (by decide) (ht0 _ wd_1432) (fun _ h9 => h9) rfl dX11_choose_25 ?_
        refine lv_iload hx hb dX11_choose_28 (lv_at hl 4 rfl) ?_
        refine lv_iconst (v := (0 : Int32)) hx hb dX11_choose_30 (by decide) ?_
        obtain ⟨g16, hf⟩ := of_grd hf
        refine va_zast hx hb hK hP hD hS 6 1 rfl rfl g16 dX11_choose_31 (fun H locs hP hD hS => ?_)
        have hP : va_P G.1 vwCl (wW_X11_choose G h0 h1 h2 h3 h4 h5 h6 y0_0 y0_1 y0_2 y0_3 y0_4 y0_6 y0_18 y0_33 y0_34 y0_38 y0_39 y0_40 y0_41 y0_42 y0_43 y0_45 y0_46 y0_47 y0_48 x0_5 x0_7 x0_8 x0_9 x0_10 x0_11 x0_12 x0_13 x0_14 x0_15 x0_16 x0_17 x0_19 x0_20 x0_27_8 x0_28_8 x0_29 x0_30 x0_31 x0_32 x0_35 x0_36 x0_37 x0_44 x0_49 x0_50 a1_8 a2_8 a3_8 a4_8 (upd a5_8 u8_4.toNatClampNeg (vp_nar .boolean (0 : Int32))) (upd a6_8 u8_4.toNatClampNeg (vp_nar .boolean (0 : Int32)))) H := hP
        have hD : va_D A (wW_X11_choose G h0 h1 h2 h3 h4 h5 h6 y0_0 y0_1 y0_2 y0_3 y0_4 y0_6 y0_18 y0_33 y0_34 y0_38 y0_39 y0_40 y0_41 y0_42 y0_43 y0_45 y0_46 y0_47 y0_48 x0_5 x0_7 x0_8 x0_9 x0_10 x0_11 x0_12 x0_13 x0_14 x0_15 x0_16 x0_17 x0_19 x0_20 x0_27_8 x0_28_8 x0_29 x0_30 x0_31 x0_32 x0_35 x0_36 x0_37 x0_44 x0_49 x0_50 a1_8 a2_8 a3_8 a4_8 (upd a5_8 u8_4.toNatClampNeg (vp_nar .boolean (0 : Int32))) (upd a6_8 u8_4.toNatClampNeg (vp_nar .boolean (0 : Int32)))) := hD
        refine lv_iinc (v := u8_4 + (1 : Int32)) (lv' := [(4, .int (u8_4 + (1 : Int32))), (0, .ref h0), (1, .int c8_1), (2, .int c8_2), (3, .int c8_3)]) hx hb dX11_choose_32 hl (k := 4) rfl (by rfl) (by decide) rfl (fun ls hl => ?_)
        refine lv_goto (tgt := 8) hx hb dX11_choose_35 (by decide) ?_
        exact ih8 _ _ _ _ _ _ _ _ _ hf _ _ hP hD hS _ (lv_sub hl [1, 2, 3, 4, 0] rfl)
  refine lv_aload_n hx hb dX11_choose_0 rfl (lv_at hl 0 rfl) ?_
  refine lv_iload_n hx hb dX11_choose_1 rfl (lv_at hl 2 rfl) ?_
  obtain ⟨⟨r_2_16_x0_27, r_2_16_a1⟩, hc_r_2_16, hf⟩ := of_bnd hf
  refine cl_Vv (w2 := (wW_X11_choose G h0 h1 h2 h3 h4 h5 h6 y0_0 y0_1 y0_2 y0_3 y0_4 y0_6 y0_18 y0_33 y0_34 y0_38 y0_39 y0_40 y0_41 y0_42 y0_43 y0_45 y0_46 y0_47 y0_48 x0_5 x0_7 x0_8 x0_9 x0_10 x0_11 x0_12 x0_13 x0_14 x0_15 x0_16 x0_17 x0_19 x0_20 r_2_16_x0_27 x0_28 x0_29 x0_30 x0_31 x0_32 x0_35 x0_36 x0_37 x0_44 x0_49 x0_50 r_2_16_a1 a2 a3 a4 a5 a6)) (As := [.int b2]) (rest := []) ⟨hx, hb, hml, hown, ht0⟩ (c_X11_layOrdered l G h0 h1 y0_0 y0_1 y0_2 y0_3 y0_4 y0_6 y0_18 h2 h3 h4 h5 h6 y0_33 y0_34 y0_38 y0_39 y0_40 y0_41 y0_42 y0_43 y0_45 y0_46 y0_47 y0_48 _ x0_5 x0_7 x0_8 x0_9 x0_10 x0_11 x0_12 x0_13 x0_14 x0_15 x0_16 x0_17 x0_19 x0_20 x0_27 x0_28 x0_29 x0_30 x0_31 x0_32 x0_35 x0_36 x0_37 x0_44 x0_49 x0_50 a1 F b2 _ _ hc_r_2_16) yk_X11_layOrdered wd_1340 ⟨rfl, rfl, by decide, by decide⟩ ⟨Nat.le_refl _, Nat.le_refl _⟩ hX hK hP hD hS hA [0, 1] [2, 3, 4, 5, 6] [5, 6, 0, 1, 2, 3, 4] (va_recv hK hP (ci := 11) (q0 := 0) rfl rfl) rfl rfl (by decide) rfl rfl rfl rfl rfl hl.1 rfl (Nat.le_of_ble_eq_true rfl) dX11_choose_2 (fun H locs hP hD hS => ?_)
  refine lv_iconst (v := (0 : Int32)) hx hb dX11_choose_5 (by decide) ?_
  refine lv_istore (lv' := [(4, .int (0 : Int32)), (0, .ref h0), (1, .int b1), (2, .int b2), (3, .int b3)]) hx hb dX11_choose_6 hl (by decide) rfl (fun ls hl => ?_)
  exact kL8 _ _ _ _ _ _ _ _ _ _ _ _ _ hf _ _ hP hD hS _ (lv_sub hl [1, 2, 3, 4, 0] rfl)
theorem yk_X11_choose : ykV yX11_choose RX11 cX11_choose 5 (some .boolean) 3 := ⟨wd_1338, wd_55, wd_142, wd_1339, rfl, by decide +kernel, by decide +kernel, by decide +kernel⟩
theorem dX11_chooses_0 : decode cX11_chooses 0 = .ok (.aload_n 0, 1) := by decide +kernel
theorem dX11_chooses_1 : decode cX11_chooses 1 = .ok (.getfield 107, 3) := by decide +kernel
theorem dX11_chooses_4 : decode cX11_chooses 4 = .ok (.ifCond .eq 4, 3) := by decide +kernel
theorem dX11_chooses_7 : decode cX11_chooses 7 = .ok (.return_, 1) := by decide +kernel
theorem dX11_chooses_8 : decode cX11_chooses 8 = .ok (.aload_n 0, 1) := by decide +kernel
theorem dX11_chooses_9 : decode cX11_chooses 9 = .ok (.iconst 1, 1) := by decide +kernel
theorem dX11_chooses_10 : decode cX11_chooses 10 = .ok (.putfield 107, 3) := by decide +kernel
theorem dX11_chooses_13 : decode cX11_chooses 13 = .ok (.aload_n 0, 1) := by decide +kernel
theorem dX11_chooses_14 : decode cX11_chooses 14 = .ok (.aload_n 0, 1) := by decide +kernel
theorem dX11_chooses_15 : decode cX11_chooses 15 = .ok (.getfield 13, 3) := by decide +kernel
theorem dX11_chooses_18 : decode cX11_chooses 18 = .ok (.iload_n 1, 1) := by decide +kernel
theorem dX11_chooses_19 : decode cX11_chooses 19 = .ok (.iaload, 1) := by decide +kernel
theorem dX11_chooses_20 : decode cX11_chooses 20 = .ok (.aload_n 0, 1) := by decide +kernel
theorem dX11_chooses_21 : decode cX11_chooses 21 = .ok (.getfield 16, 3) := by decide +kernel
theorem dX11_chooses_24 : decode cX11_chooses 24 = .ok (.iload_n 1, 1) := by decide +kernel
theorem dX11_chooses_25 : decode cX11_chooses 25 = .ok (.iaload, 1) := by decide +kernel
theorem dX11_chooses_26 : decode cX11_chooses 26 = .ok (.aload_n 0, 1) := by decide +kernel
theorem dX11_chooses_27 : decode cX11_chooses 27 = .ok (.getfield 19, 3) := by decide +kernel
theorem dX11_chooses_30 : decode cX11_chooses 30 = .ok (.iload_n 1, 1) := by decide +kernel
theorem dX11_chooses_31 : decode cX11_chooses 31 = .ok (.iaload, 1) := by decide +kernel
theorem dX11_chooses_32 : decode cX11_chooses 32 = .ok (.invokevirtual 189, 3) := by decide +kernel
theorem dX11_chooses_35 : decode cX11_chooses 35 = .ok (.ifCond .ne 8, 3) := by decide +kernel
theorem dX11_chooses_38 : decode cX11_chooses 38 = .ok (.aload_n 0, 1) := by decide +kernel
theorem dX11_chooses_39 : decode cX11_chooses 39 = .ok (.iconst 4, 1) := by decide +kernel
theorem dX11_chooses_40 : decode cX11_chooses 40 = .ok (.invokevirtual 160, 3) := by decide +kernel
theorem dX11_chooses_43 : decode cX11_chooses 43 = .ok (.iconst 0, 1) := by decide +kernel
theorem dX11_chooses_44 : decode cX11_chooses 44 = .ok (.istore_n 2, 1) := by decide +kernel
theorem dX11_chooses_45 : decode cX11_chooses 45 = .ok (.iload_n 2, 1) := by decide +kernel
theorem dX11_chooses_46 : decode cX11_chooses 46 = .ok (.bipush 32, 2) := by decide +kernel
theorem dX11_chooses_48 : decode cX11_chooses 48 = .ok (.if_icmp .ge 28, 3) := by decide +kernel
theorem dX11_chooses_51 : decode cX11_chooses 51 = .ok (.aload_n 0, 1) := by decide +kernel
theorem dX11_chooses_52 : decode cX11_chooses 52 = .ok (.getfield 22, 3) := by decide +kernel
theorem dX11_chooses_55 : decode cX11_chooses 55 = .ok (.bipush 121, 2) := by decide +kernel
theorem dX11_chooses_57 : decode cX11_chooses 57 = .ok (.iload_n 1, 1) := by decide +kernel
theorem dX11_chooses_58 : decode cX11_chooses 58 = .ok (.imul, 1) := by decide +kernel
theorem dX11_chooses_59 : decode cX11_chooses 59 = .ok (.iconst 0, 1) := by decide +kernel
theorem dX11_chooses_60 : decode cX11_chooses 60 = .ok (.iadd, 1) := by decide +kernel
theorem dX11_chooses_61 : decode cX11_chooses 61 = .ok (.iload_n 2, 1) := by decide +kernel
theorem dX11_chooses_62 : decode cX11_chooses 62 = .ok (.iadd, 1) := by decide +kernel
theorem dX11_chooses_63 : decode cX11_chooses 63 = .ok (.aload_n 0, 1) := by decide +kernel
theorem dX11_chooses_64 : decode cX11_chooses 64 = .ok (.getfield 39, 3) := by decide +kernel
theorem dX11_chooses_67 : decode cX11_chooses 67 = .ok (.iload_n 2, 1) := by decide +kernel
theorem dX11_chooses_68 : decode cX11_chooses 68 = .ok (.iaload, 1) := by decide +kernel
theorem dX11_chooses_69 : decode cX11_chooses 69 = .ok (.iastore, 1) := by decide +kernel
theorem dX11_chooses_70 : decode cX11_chooses 70 = .ok (.iinc 2 1, 3) := by decide +kernel
theorem dX11_chooses_73 : decode cX11_chooses 73 = .ok (.goto (-28), 3) := by decide +kernel
theorem dX11_chooses_76 : decode cX11_chooses 76 = .ok (.return_, 1) := by decide +kernel
def wW_X11_chooses (G : GG) (h0 h1 h2 h3 h4 h5 h6 h7 h8 h9 h10 y0_0 y0_6 y0_18 y0_33 y0_34 y0_38 y0_39 y0_40 y0_41 y0_42 y0_43 y0_45 y0_46 y0_47 y0_48 : Nat) (x0_5 : Int32) (x0_7 : Int32) (x0_8 : Int32) (x0_9 : Int32) (x0_10 : Int32) (x0_11 : Int32) (x0_12 : Int32) (x0_13 : Int32) (x0_14 : Int32) (x0_15 : Int32) (x0_16 : Int32) (x0_17 : Int32) (x0_19 : Int32) (x0_20 : Int32) (x0_27 : Int32) (x0_28 : Int32) (x0_29 : Int32) (x0_30 : Int32) (x0_31 : Int32) (x0_32 : Int32) (x0_35 : Int32) (x0_36 : Int32) (x0_37 : Int32) (x0_44 : Int32) (x0_49 : Int32) (x0_50 : Int32) (a1 : Nat → Int32) (a2 : Nat → Int32) (a3 : Nat → Int32) (a4 : Nat → Int32) (a5 : Nat → Int32) (a6 : Nat → Int32) (a7 : Nat → Int32) (a8 : Nat → Int32) (a9 : Nat → Int32) (a10 : Nat → Int32) : va_W := [(h0, .inr (11, [.ref y0_0, .ref h1, .ref h2, .ref h3, .ref h4, .int x0_5, .ref y0_6, .int x0_7, .int x0_8, .int x0_9, .int x0_10, .int x0_11, .int x0_12, .int x0_13, .int x0_14, .int x0_15, .int x0_16, .int x0_17, .ref y0_18, .int x0_19, .int x0_20, .ref h5, .ref h6, .ref h7, .ref h8, .ref h9, .ref h10, .int x0_27, .int x0_28, .int x0_29, .int x0_30, .int x0_31, .int x0_32, .ref y0_33, .ref y0_34, .int x0_35, .int x0_36, .int x0_37, .ref y0_38, .ref y0_39, .ref y0_40, .ref y0_41, .ref y0_42, .ref y0_43, .int x0_44, .ref y0_45, .ref y0_46, .ref y0_47, .ref y0_48, .int x0_49, .int x0_50])), (h1, .inl (G.2.1, 2, .inl a1)), (h2, .inl (G.2.1, 2, .inl a2)), (h3, .inl (G.2.1, 2, .inl a3)), (h4, .inl (G.2.1, 242, .inl a4)), (h5, .inl (G.2.1, 128, .inl a5)), (h6, .inl (G.2.1, 32, .inl a6)), (h7, .inl (G.2.1, 32, .inl a7)), (h8, .inl (G.2.1, 8, .inl a8)), (h9, .inl (G.2.2.1, 256, .inl a9)), (h10, .inl (G.2.2.1, 256, .inl a10))]
set_option maxHeartbeats 4000000 in
set_option maxRecDepth 100000 in
theorem c_X11_chooses (l : Launch) (G : GG) (h0 h1 h2 h3 h4 h5 h6 h7 h8 h9 h10 y0_0 y0_6 y0_18 y0_33 y0_34 y0_38 y0_39 y0_40 y0_41 y0_42 y0_43 y0_45 y0_46 y0_47 y0_48 : Nat) (sz : Nat) (x0_5 : Int32) (x0_7 : Int32) (x0_8 : Int32) (x0_9 : Int32) (x0_10 : Int32) (x0_11 : Int32) (x0_12 : Int32) (x0_13 : Int32) (x0_14 : Int32) (x0_15 : Int32) (x0_16 : Int32) (x0_17 : Int32) (x0_19 : Int32) (x0_20 : Int32) (x0_27 : Int32) (x0_28 : Int32) (x0_29 : Int32) (x0_30 : Int32) (x0_31 : Int32) (x0_32 : Int32) (x0_35 : Int32) (x0_36 : Int32) (x0_37 : Int32) (x0_44 : Int32) (x0_49 : Int32) (x0_50 : Int32) (a1 : Nat → Int32) (a2 : Nat → Int32) (a3 : Nat → Int32) (a4 : Nat → Int32) (a5 : Nat → Int32) (a6 : Nat → Int32) (a7 : Nat → Int32) (a8 : Nat → Int32) (a9 : Nat → Int32) (a10 : Nat → Int32) (F : Nat) (b1 : Int32)  (e_x0_14 : Int32) (e_x0_15 : Int32) (e_x0_20 : Int32) (e_x0_27 : Int32) (e_x0_28 : Int32) (e_a4 : Nat → Int32) (e_a5 : Nat → Int32) (e_a6 : Nat → Int32) (e_a7 : Nat → Int32) (e_a8 : Nat → Int32) (e_a9 : Nat → Int32) (e_a10 : Nat → Int32) (hf : p_X11_chooses F x0_10 x0_14 x0_15 x0_20 x0_27 x0_28 a1 a2 a3 a4 a5 a6 a7 a8 a9 a10 b1 = some (e_x0_14, e_x0_15, e_x0_20, e_x0_27, e_x0_28, e_a4, e_a5, e_a6, e_a7, e_a8, e_a9, e_a10)) : Met l yX11_chooses (.code yX11_chooses cX11_chooses 3 none :: gtbl) ({ frames := 3, cells := 0, slots := 0, locals := 73 } : Room) (PcS G [.ref h0, .int b1] (wW_X11_chooses G h0 h1 h2 h3 h4 h5 h6 h7 h8 h9 h10 y0_0 y0_6 y0_18 y0_33 y0_34 y0_38 y0_39 y0_40 y0_41 y0_42 y0_43 y0_45 y0_46 y0_47 y0_48 x0_5 x0_7 x0_8 x0_9 x0_10 x0_11 x0_12 x0_13 x0_14 x0_15 x0_16 x0_17 x0_19 x0_20 x0_27 x0_28 x0_29 x0_30 x0_31 x0_32 x0_35 x0_36 x0_37 x0_44 x0_49 x0_50 a1 a2 a3 a4 a5 a6 a7 a8 a9 a10) sz) (QvS G (va_A (wW_X11_chooses G h0 h1 h2 h3 h4 h5 h6 h7 h8 h9 h10 y0_0 y0_6 y0_18 y0_33 y0_34 y0_38 y0_39 y0_40 y0_41 y0_42 y0_43 y0_45 y0_46 y0_47 y0_48 x0_5 x0_7 x0_8 x0_9 x0_10 x0_11 x0_12 x0_13 x0_14 x0_15 x0_16 x0_17 x0_19 x0_20 x0_27 x0_28 x0_29 x0_30 x0_31 x0_32 x0_35 x0_36 x0_37 x0_44 x0_49 x0_50 a1 a2 a3 a4 a5 a6 a7 a8 a9 a10) sz) (wW_X11_chooses G h0 h1 h2 h3 h4 h5 h6 h7 h8 h9 h10 y0_0 y0_6 y0_18 y0_33 y0_34 y0_38 y0_39 y0_40 y0_41 y0_42 y0_43 y0_45 y0_46 y0_47 y0_48 x0_5 x0_7 x0_8 x0_9 x0_10 x0_11 x0_12 x0_13 e_x0_14 e_x0_15 x0_16 x0_17 x0_19 e_x0_20 e_x0_27 e_x0_28 x0_29 x0_30 x0_31 x0_32 x0_35 x0_36 x0_37 x0_44 x0_49 x0_50 a1 a2 a3 e_a4 e_a5 e_a6 e_a7 e_a8 e_a9 e_a10)) 0 0 (va_A (wW_X11_chooses G h0 h1 h2 h3 h4 h5 h6 h7 h8 h9 h10 y0_0 y0_6 y0_18 y0_33 y0_34 y0_38 y0_39 y0_40 y0_41 y0_42 y0_43 y0_45 y0_46 y0_47 y0_48 x0_5 x0_7 x0_8 x0_9 x0_10 x0_11 x0_12 x0_13 x0_14 x0_15 x0_16 x0_17 x0_19 x0_20 x0_27 x0_28 x0_29 x0_30 x0_31 x0_32 x0_35 x0_36 x0_37 x0_44 x0_49 x0_50 a1 a2 a3 a4 a5 a6 a7 a8 a9 a10) sz) := by
  refine met_start (by decide) (Nat.le_of_ble_eq_true rfl) ?_
  intro p e s m below meth c hC hr hlk hnm hK hP hD hA hS hX ls hl
  obtain ⟨hx, hb, hml, hown, ht0⟩ := hC
  have hown : s.vm.findClass RX11 = some m.cls := hown
  generalize va_A (wW_X11_chooses G h0 h1 h2 h3 h4 h5 h6 h7 h8 h9 h10 y0_0 y0_6 y0_18 y0_33 y0_34 y0_38 y0_39 y0_40 y0_41 y0_42 y0_43 y0_45 y0_46 y0_47 y0_48 x0_5 x0_7 x0_8 x0_9 x0_10 x0_11 x0_12 x0_13 x0_14 x0_15 x0_16 x0_17 x0_19 x0_20 x0_27 x0_28 x0_29 x0_30 x0_31 x0_32 x0_35 x0_36 x0_37 x0_44 x0_49 x0_50 a1 a2 a3 a4 a5 a6 a7 a8 a9 a10) sz = A at hD hA hS hX ⊢
  have hl : lv_has ls 3 [(0, .ref h0), (1, .int b1)] := hl
  have hf : p_X11_chooses F x0_10 x0_14 x0_15 x0_20 x0_27 x0_28 a1 a2 a3 a4 a5 a6 a7 a8 a9 a10 b1 = some (e_x0_14, e_x0_15, e_x0_20, e_x0_27, e_x0_28, e_a4, e_a5, e_a6, e_a7, e_a8, e_a9, e_a10) := hf
  have kL45 : ∀ (c45_1 : Int32) (n45 : Nat) (u45_2 : Int32) (x0_14_45 : Int32) (x0_15_45 : Int32) (x0_20_45 : Int32) (x0_27_45 : Int32) (x0_28_45 : Int32) (a4_45 : Nat → Int32) (a5_45 : Nat → Int32) (a6_45 : Nat → Int32) (a7_45 : Nat → Int32) (a8_45 : Nat → Int32) (a9_45 : Nat → Int32) (a10_45 : Nat → Int32), p_X11_chooses_L45 F x0_10 a1 a2 a3 c45_1 n45 u45_2 x0_14_45 x0_15_45 x0_20_45 x0_27_45 x0_28_45 a4_45 a5_45 a6_45 a7_45 a8_45 a9_45 a10_45 = some (e_x0_14, e_x0_15, e_x0_20, e_x0_27, e_x0_28, e_a4, e_a5, e_a6, e_a7, e_a8, e_a9, e_a10) → ∀ (H : Heap) (locs : List Loc), va_P G.1 vwCl (wW_X11_chooses G h0 h1 h2 h3 h4 h5 h6 h7 h8 h9 h10 y0_0 y0_6 y0_18 y0_33 y0_34 y0_38 y0_39 y0_40 y0_41 y0_42 y0_43 y0_45 y0_46 y0_47 y0_48 x0_5 x0_7 x0_8 x0_9 x0_10 x0_11 x0_12 x0_13 x0_14_45 x0_15_45 x0_16 x0_17 x0_19 x0_20_45 x0_27_45 x0_28_45 x0_29 x0_30 x0_31 x0_32 x0_35 x0_36 x0_37 x0_44 x0_49 x0_50 a1 a2 a3 a4_45 a5_45 a6_45 a7_45 a8_45 a9_45 a10_45) H → va_D A (wW_X11_chooses G h0 h1 h2 h3 h4 h5 h6 h7 h8 h9 h10 y0_0 y0_6 y0_18 y0_33 y0_34 y0_38 y0_39 y0_40 y0_41 y0_42 y0_43 y0_45 y0_46 y0_47 y0_48 x0_5 x0_7 x0_8 x0_9 x0_10 x0_11 x0_12 x0_13 x0_14_45 x0_15_45 x0_16 x0_17 x0_19 x0_20_45 x0_27_45 x0_28_45 x0_29 x0_30 x0_31 x0_32 x0_35 x0_36 x0_37 x0_44 x0_49 x0_50 a1 a2 a3 a4_45 a5_45 a6_45 a7_45 a8_45 a9_45 a10_45) → va_S A s.heap H locs → ∀ ls : Array Slot, lv_has ls 3 [(0, .ref h0), (1, .int c45_1), (2, .int u45_2)] → W p l e ({ frames := 3, cells := 0, slots := 0, locals := 73 } : Room) s m (List.toArray [.ref h0, .int b1]) below meth c H locs 0 0 (MQ below (QvS G A (wW_X11_chooses G h0 h1 h2 h3 h4 h5 h6 h7 h8 h9 h10 y0_0 y0_6 y0_18 y0_33 y0_34 y0_38 y0_39 y0_40 y0_41 y0_42 y0_43 y0_45 y0_46 y0_47 y0_48 x0_5 x0_7 x0_8 x0_9 x0_10 x0_11 x0_12 x0_13 e_x0_14 e_x0_15 x0_16 x0_17 x0_19 e_x0_20 e_x0_27 e_x0_28 x0_29 x0_30 x0_31 x0_32 x0_35 x0_36 x0_37 x0_44 x0_49 x0_50 a1 a2 a3 e_a4 e_a5 e_a6 e_a7 e_a8 e_a9 e_a10)) (List.toArray [.ref h0, .int b1]) s 0 0 A) (F0 m 45 ls []) := by
    intro c45_1 n45
    induction n45 with
    | zero =>
      intro u45_2 x0_14_45 x0_15_45 x0_20_45 x0_27_45 x0_28_45 a4_45 a5_45 a6_45 a7_45 a8_45 a9_45 a10_45 hf
      cases hf
    | succ n45 ih45 =>
      intro u45_2 x0_14_45 x0_15_45 x0_20_45 x0_27_45 x0_28_45 a4_45 a5_45 a6_45 a7_45 a8_45 a9_45 a10_45 hf H locs hP hD hS ls hl
      have hf : p_X11_chooses_L45b F x0_10 a1 a2 a3 c45_1 (p_X11_chooses_L45 F x0_10 a1 a2 a3 c45_1 n45) u45_2 x0_14_45 x0_15_45 x0_20_45 x0_27_45 x0_28_45 a4_45 a5_45 a6_45 a7_45 a8_45 a9_45 a10_45 = some (e_x0_14, e_x0_15, e_x0_20, e_x0_27, e_x0_28, e_a4, e_a5, e_a6, e_a7, e_a8, e_a9, e_a10) := hf
      refine lv_iload_n hx hb dX11_chooses_45 rfl (lv_at hl 2 rfl) ?_
      refine lv_bipush (v := (32 : Int32)) hx hb dX11_chooses_46 (by decide) ?_
      refine lv_icmp_ge (tgt := 76) hx hb dX11_chooses_48 (by decide) (fun c1 => ?_) (fun c1 => ?_)
      · have hf := of_pos hf c1
        cases hf
        exact ret_v hx hb hr hlk hK hP hD hS dX11_chooses_76
      · have hf := of_neg hf c1
        refine lv_aload_n hx hb dX11_chooses_51 rfl (lv_at hl 0 rfl) ?_
        refine va_get (ci := 11) (v := .ref h4) (C := RX11) (T := TX11) (N := 51) hx hb ht0 iX11 hown hK hP 0 rfl rfl 4 (by decide) (ht0 _ wd_1410) (fun _ h9 => h9) rfl dX11_chooses_52 ?_
        refine lv_bipush (v := (121 : Int32)) hx hb dX11_chooses_55 (by decide) ?_
        refine lv_iload_n hx hb dX11_chooses_57 rfl (lv_at hl 1 rfl) ?_
        refine lv_imul hx hb dX11_chooses_58 ?_
        refine lv_iconst (v := (0 : Int32)) hx hb dX11_chooses_59 (by decide) ?_
        refine lv_iadd hx hb dX11_chooses_60 ?_
        refine lv_iload_n hx hb dX11_chooses_61 rfl (lv_at hl 2 rfl) ?_
        refine lv_iadd hx hb dX11_chooses_62 ?_
        refine lv_aload_n hx hb dX11_chooses_63 rfl (lv_at hl 0 rfl) ?_
        refine va_get (ci := 11) (v := .ref h6) (C := RX11) (T := TX11) (N := 51) hx hb ht0 iX11 hown hK hP 0 rfl rfl 22 (by decide) (ht0 _ wd_1428) (fun _ h9 => h9) rfl dX11_chooses_64 ?_
        refine lv_iload_n hx hb dX11_chooses_67 rfl (lv_at hl 2 rfl) ?_
        obtain ⟨g2, hf⟩ := of_grd hf
        refine va_iald hx hb hK hP 6 0 rfl rfl g2 dX11_chooses_68 ?_
        obtain ⟨g3, hf⟩ := of_grd hf
        refine va_iast hx hb hK hP hD hS 4 0 rfl rfl g3 dX11_chooses_69 (fun H locs hP hD hS => ?_)
        have hP : va_P G.1 vwCl (wW_X11_chooses G h0 h1 h2 h3 h4 h5 h6 h7 h8 h9 h10 y0_0 y0_6 y0_18 y0_33 y0_34 y0_38 y0_39 y0_40 y0_41 y0_42 y0_43 y0_45 y0_46 y0_47 y0_48 x0_5 x0_7 x0_8 x0_9 x0_10 x0_11 x0_12 x0_13 x0_14_45 x0_15_45 x0_16 x0_17 x0_19 x0_20_45 x0_27_45 x0_28_45 x0_29 x0_30 x0_31 x0_32 x0_35 x0_36 x0_37 x0_44 x0_49 x0_50 a1 a2 a3 (upd a4_45 ((((121 : Int32) * c45_1) + (0 : Int32)) + u45_2).toNatClampNeg (a6_45 u45_2.toNatClampNeg)) a5_45 a6_45 a7_45 a8_45 a9_45 a10_45) H := hP
        have hD : va_D A (wW_X11_chooses G h0 h1 h2 h3 h4 h5 h6 h7 h8 h9 h10 y0_0 y0_6 y0_18 y0_33 y0_34 y0_38 y0_39 y0_40 y0_41 y0_42 y0_43 y0_45 y0_46 y0_47 y0_48 x0_5 x0_7 x0_8 x0_9 x0_10 x0_11 x0_12 x0_13 x0_14_45 x0_15_45 x0_16 x0_17 x0_19 x0_20_45 x0_27_45 x0_28_45 x0_29 x0_30 x0_31 x0_32 x0_35 x0_36 x0_37 x0_44 x0_49 x0_50 a1 a2 a3 (upd a4_45 ((((121 : Int32) * c45_1) + (0 : Int32)) + u45_2).toNatClampNeg (a6_45 u45_2.toNatClampNeg)) a5_45 a6_45 a7_45 a8_45 a9_45 a10_45) := hD
        refine lv_iinc (v := u45_2 + (1 : Int32)) (lv' := [(2, .int (u45_2 + (1 : Int32))), (0, .ref h0), (1, .int c45_1)]) hx hb dX11_chooses_70 hl (k := 2) rfl (by rfl) (by decide) rfl (fun ls hl => ?_)
        refine lv_goto (tgt := 45) hx hb dX11_chooses_73 (by decide) ?_
        exact ih45 _ _ _ _ _ _ _ _ _ _ _ _ _ hf _ _ hP hD hS _ (lv_sub hl [1, 2, 0] rfl)
  have kJ43 : ∀ (u43_1 : Int32) (x0_14_43 : Int32) (x0_15_43 : Int32) (x0_20_43 : Int32) (x0_27_43 : Int32) (x0_28_43 : Int32) (a4_43 : Nat → Int32) (a5_43 : Nat → Int32) (a6_43 : Nat → Int32) (a7_43 : Nat → Int32) (a8_43 : Nat → Int32) (a9_43 : Nat → Int32) (a10_43 : Nat → Int32), p_X11_chooses_J43 F x0_10 a1 a2 a3 u43_1 x0_14_43 x0_15_43 x0_20_43 x0_27_43 x0_28_43 a4_43 a5_43 a6_43 a7_43 a8_43 a9_43 a10_43 = some (e_x0_14, e_x0_15, e_x0_20, e_x0_27, e_x0_28, e_a4, e_a5, e_a6, e_a7, e_a8, e_a9, e_a10) → ∀ (H : Heap) (locs : List Loc), va_P G.1 vwCl (wW_X11_chooses G h0 h1 h2 h3 h4 h5 h6 h7 h8 h9 h10 y0_0 y0_6 y0_18 y0_33 y0_34 y0_38 y0_39 y0_40 y0_41 y0_42 y0_43 y0_45 y0_46 y0_47 y0_48 x0_5 x0_7 x0_8 x0_9 x0_10 x0_11 x0_12 x0_13 x0_14_43 x0_15_43 x0_16 x0_17 x0_19 x0_20_43 x0_27_43 x0_28_43 x0_29 x0_30 x0_31 x0_32 x0_35 x0_36 x0_37 x0_44 x0_49 x0_50 a1 a2 a3 a4_43 a5_43 a6_43 a7_43 a8_43 a9_43 a10_43) H → va_D A (wW_X11_chooses G h0 h1 h2 h3 h4 h5 h6 h7 h8 h9 h10 y0_0 y0_6 y0_18 y0_33 y0_34 y0_38 y0_39 y0_40 y0_41 y0_42 y0_43 y0_45 y0_46 y0_47 y0_48 x0_5 x0_7 x0_8 x0_9 x0_10 x0_11 x0_12 x0_13 x0_14_43 x0_15_43 x0_16 x0_17 x0_19 x0_20_43 x0_27_43 x0_28_43 x0_29 x0_30 x0_31 x0_32 x0_35 x0_36 x0_37 x0_44 x0_49 x0_50 a1 a2 a3 a4_43 a5_43 a6_43 a7_43 a8_43 a9_43 a10_43) → va_S A s.heap H locs → ∀ ls : Array Slot, lv_has ls 3 [(0, .ref h0), (1, .int u43_1)] → W p l e ({ frames := 3, cells := 0, slots := 0, locals := 73 } : Room) s m (List.toArray [.ref h0, .int b1]) below meth c H locs 0 0 (MQ below (QvS G A (wW_X11_chooses G h0 h1 h2 h3 h4 h5 h6 h7 h8 h9 h10 y0_0 y0_6 y0_18 y0_33 y0_34 y0_38 y0_39 y0_40 y0_41 y0_42 y0_43 y0_45 y0_46 y0_47 y0_48 x0_5 x0_7 x0_8 x0_9 x0_10 x0_11 x0_12 x0_13 e_x0_14 e_x0_15 x0_16 x0_17 x0_19 e_x0_20 e_x0_27 e_x0_28 x0_29 x0_30 x0_31 x0_32 x0_35 x0_36 x0_37 x0_44 x0_49 x0_50 a1 a2 a3 e_a4 e_a5 e_a6 e_a7 e_a8 e_a9 e_a10)) (List.toArray [.ref h0, .int b1]) s 0 0 A) (F0 m 43 ls []) := by
    intro u43_1 x0_14_43 x0_15_43 x0_20_43 x0_27_43 x0_28_43 a4_43 a5_43 a6_43 a7_43 a8_43 a9_43 a10_43 hf H locs hP hD hS ls hl
    refine lv_iconst (v := (0 : Int32)) hx hb dX11_chooses_43 (by decide) ?_
    refine lv_istore_n (lv' := [(2, .int (0 : Int32)), (0, .ref h0), (1, .int u43_1)]) hx hb dX11_chooses_44 rfl hl (by decide) rfl (fun ls hl => ?_)
    exact kL45 _ _ _ _ _ _ _ _ _ _ _ _ _ _ _ hf _ _ hP hD hS _ (lv_sub hl [1, 2, 0] rfl)
  refine lv_aload_n hx hb dX11_chooses_0 rfl (lv_at hl 0 rfl) ?_
  refine va_get (ci := 11) (v := .int x0_20) (C := RX11) (T := TX11) (N := 51) hx hb ht0 iX11 hown hK hP 0 rfl rfl 20 (by decide) (ht0 _ wd_1426) (fun _ h9 => h9) rfl dX11_chooses_1 ?_
  refine lv_if_eq (tgt := 8) hx hb dX11_chooses_4 (by decide) (fun c4 => ?_) (fun c4 => ?_)
  · have hf := of_pos hf c4
    refine lv_aload_n hx hb dX11_chooses_8 rfl (lv_at hl 0 rfl) ?_
    refine lv_iconst (v := (1 : Int32)) hx hb dX11_chooses_9 (by decide) ?_
    refine va_put (ci := 11) (v := .int (1 : Int32)) (ty := .boolean) (C := RX11) (T := TX11) (N := 51) hx hb ht0 iX11 tyX11 tyX11_ok nmX11 hown hK hP hD hS 0 rfl rfl 20 (by decide) (ht0 _ wd_1426) (fun _ h9 => h9) rfl rfl rfl rfl (Nat.le_of_ble_eq_true rfl) dX11_chooses_10 (fun H locs hP hD hS => ?_)
    have hP : va_P G.1 vwCl (wW_X11_chooses G h0 h1 h2 h3 h4 h5 h6 h7 h8 h9 h10 y0_0 y0_6 y0_18 y0_33 y0_34 y0_38 y0_39 y0_40 y0_41 y0_42 y0_43 y0_45 y0_46 y0_47 y0_48 x0_5 x0_7 x0_8 x0_9 x0_10 x0_11 x0_12 x0_13 x0_14 x0_15 x0_16 x0_17 x0_19 (1 : Int32) x0_27 x0_28 x0_29 x0_30 x0_31 x0_32 x0_35 x0_36 x0_37 x0_44 x0_49 x0_50 a1 a2 a3 a4 a5 a6 a7 a8 a9 a10) H := hP
    have hD : va_D A (wW_X11_chooses G h0 h1 h2 h3 h4 h5 h6 h7 h8 h9 h10 y0_0 y0_6 y0_18 y0_33 y0_34 y0_38 y0_39 y0_40 y0_41 y0_42 y0_43 y0_45 y0_46 y0_47 y0_48 x0_5 x0_7 x0_8 x0_9 x0_10 x0_11 x0_12 x0_13 x0_14 x0_15 x0_16 x0_17 x0_19 (1 : Int32) x0_27 x0_28 x0_29 x0_30 x0_31 x0_32 x0_35 x0_36 x0_37 x0_44 x0_49 x0_50 a1 a2 a3 a4 a5 a6 a7 a8 a9 a10) := hD
    refine lv_aload_n hx hb dX11_chooses_13 rfl (lv_at hl 0 rfl) ?_
    refine lv_aload_n hx hb dX11_chooses_14 rfl (lv_at hl 0 rfl) ?_
    refine va_get (ci := 11) (v := .ref h1) (C := RX11) (T := TX11) (N := 51) hx hb ht0 iX11 hown hK hP 0 rfl rfl 1 (by decide) (ht0 _ wd_1407) (fun _ h9 => h9) rfl dX11_chooses_15 ?_
    refine lv_iload_n hx hb dX11_chooses_18 rfl (lv_at hl 1 rfl) ?_
    obtain ⟨g5, hf⟩ := of_grd hf
    refine va_iald hx hb hK hP 1 0 rfl rfl g5 dX11_chooses_19 ?_
    refine lv_aload_n hx hb dX11_chooses_20 rfl (lv_at hl 0 rfl) ?_
    refine va_get (ci := 11) (v := .ref h2) (C := RX11) (T := TX11) (N := 51) hx hb ht0 iX11 hown hK hP 0 rfl rfl 2 (by decide) (ht0 _ wd_1408) (fun _ h9 => h9) rfl dX11_chooses_21 ?_
    refine lv_iload_n hx hb dX11_chooses_24 rfl (lv_at hl 1 rfl) ?_
    obtain ⟨g6, hf⟩ := of_grd hf
    refine va_iald hx hb hK hP 2 0 rfl rfl g6 dX11_chooses_25 ?_
    refine lv_aload_n hx hb dX11_chooses_26 rfl (lv_at hl 0 rfl) ?_
    refine va_get (ci := 11) (v := .ref h3) (C := RX11) (T := TX11) (N := 51) hx hb ht0 iX11 hown hK hP 0 rfl rfl 3 (by decide) (ht0 _ wd_1409) (fun _ h9 => h9) rfl dX11_chooses_27 ?_
    refine lv_iload_n hx hb dX11_chooses_30 rfl (lv_at hl 1 rfl) ?_
    obtain ⟨g7, hf⟩ := of_grd hf
    refine va_iald hx hb hK hP 3 0 rfl rfl g7 dX11_chooses_31 ?_
    obtain ⟨⟨r_32_7, r_32_7_x0_27, r_32_7_x0_28, r_32_7_a1, r_32_7_a2, r_32_7_a3, r_32_7_a4, r_32_7_a5, r_32_7_a6⟩, hc_r_32_7, hf⟩ := of_bnd hf
    refine cl_Vi (w2 := (wW_X11_chooses G h0 h1 h2 h3 h4 h5 h6 h7 h8 h9 h10 y0_0 y0_6 y0_18 y0_33 y0_34 y0_38 y0_39 y0_40 y0_41 y0_42 y0_43 y0_45 y0_46 y0_47 y0_48 x0_5 x0_7 x0_8 x0_9 x0_10 x0_11 x0_12 x0_13 x0_14 x0_15 x0_16 x0_17 x0_19 (1 : Int32) r_32_7_x0_27 r_32_7_x0_28 x0_29 x0_30 x0_31 x0_32 x0_35 x0_36 x0_37 x0_44 x0_49 x0_50 a1 a2 a3 a4 r_32_7_a1 r_32_7_a2 r_32_7_a3 r_32_7_a4 r_32_7_a5 r_32_7_a6)) (As := [.int (a1 b1.toNatClampNeg), .int (a2 b1.toNatClampNeg), .int (a3 b1.toNatClampNeg)]) (rest := []) ⟨hx, hb, hml, hown, ht0⟩ (c_X11_choose l G h0 h5 h6 h7 h8 h9 h10 y0_0 h1 h2 h3 h4 y0_6 y0_18 y0_33 y0_34 y0_38 y0_39 y0_40 y0_41 y0_42 y0_43 y0_45 y0_46 y0_47 y0_48 _ x0_5 x0_7 x0_8 x0_9 x0_10 x0_11 x0_12 x0_13 x0_14 x0_15 x0_16 x0_17 x0_19 (1 : Int32) x0_27 x0_28 x0_29 x0_30 x0_31 x0_32 x0_35 x0_36 x0_37 x0_44 x0_49 x0_50 a5 a6 a7 a8 a9 a10 F (a1 b1.toNatClampNeg) (a2 b1.toNatClampNeg) (a3 b1.toNatClampNeg) _ _ _ _ _ _ _ _ _ hc_r_32_7) yk_X11_choose wd_1336 ⟨rfl, rfl, by decide, by decide⟩ ⟨Nat.le_refl _, Nat.le_refl _⟩ hX hK hP hD hS hA [0, 5, 6, 7, 8, 9, 10] [1, 2, 3, 4] [4, 0, 1, 2, 3, 5, 6, 7, 8, 9, 10] (va_recv hK hP (ci := 11) (q0 := 0) rfl rfl) rfl rfl (by decide) rfl rfl rfl rfl rfl hl.1 rfl (Nat.le_of_ble_eq_true rfl) dX11_chooses_32 (fun H locs hP hD hS => ?_)
    refine lv_if_ne (tgt := 43) hx hb dX11_chooses_35 (by decide) (fun c9 => ?_) (fun c9 => ?_)
    · have hf := of_neg hf c9
      exact kJ43 _ _ _ _ _ _ _ _ _ _ _ _ _ hf _ _ hP hD hS _ (lv_sub hl [0, 1] rfl)
    · have hf := of_pos hf c9
      refine lv_aload_n hx hb dX11_chooses_38 rfl (lv_at hl 0 rfl) ?_
      refine lv_iconst (v := (4 : Int32)) hx hb dX11_chooses_39 (by decide) ?_
      obtain ⟨⟨r_40_9_x0_14, r_40_9_x0_15⟩, hc_r_40_9, hf⟩ := of_bnd hf
      refine cl_Vv (w2 := (wW_X11_chooses G h0 h1 h2 h3 h4 h5 h6 h7 h8 h9 h10 y0_0 y0_6 y0_18 y0_33 y0_34 y0_38 y0_39 y0_40 y0_41 y0_42 y0_43 y0_45 y0_46 y0_47 y0_48 x0_5 x0_7 x0_8 x0_9 x0_10 x0_11 x0_12 x0_13 r_40_9_x0_14 r_40_9_x0_15 x0_16 x0_17 x0_19 (1 : Int32) r_32_7_x0_27 r_32_7_x0_28 x0_29 x0_30 x0_31 x0_32 x0_35 x0_36 x0_37 x0_44 x0_49 x0_50 a1 a2 a3 a4 r_32_7_a1 r_32_7_a2 r_32_7_a3 r_32_7_a4 r_32_7_a5 r_32_7_a6)) (As := [.int (4 : Int32)]) (rest := []) ⟨hx, hb, hml, hown, ht0⟩ (c_X11_fail l G h0 y0_0 h1 h2 h3 h4 y0_6 y0_18 h5 h6 h7 h8 h9 h10 y0_33 y0_34 y0_38 y0_39 y0_40 y0_41 y0_42 y0_43 y0_45 y0_46 y0_47 y0_48 _ x0_5 x0_7 x0_8 x0_9 x0_10 x0_11 x0_12 x0_13 x0_14 x0_15 x0_16 x0_17 x0_19 (1 : Int32) r_32_7_x0_27 r_32_7_x0_28 x0_29 x0_30 x0_31 x0_32 x0_35 x0_36 x0_37 x0_44 x0_49 x0_50 F (4 : Int32) _ _ hc_r_40_9) yk_X11_fail wd_1313 ⟨rfl, rfl, by decide, by decide⟩ ⟨Nat.le_refl _, Nat.le_refl _⟩ hX hK hP hD hS hA [0] [1, 2, 3, 4, 5, 6, 7, 8, 9, 10] [10, 0, 1, 2, 3, 4, 5, 6, 7, 8, 9] (va_recv hK hP (ci := 11) (q0 := 0) rfl rfl) rfl rfl (by decide) rfl rfl rfl rfl rfl hl.1 rfl (Nat.le_of_ble_eq_true rfl) dX11_chooses_40 (fun H locs hP hD hS => ?_)
      exact kJ43 _ _ _ _ _ _ _ _ _ _ _ _ _ hf _ _ hP hD hS _ (lv_sub hl [0, 1] rfl)
  · have hf := of_neg hf c4
    cases hf
    exact ret_v hx hb hr hlk hK hP hD hS dX11_chooses_7
theorem yk_X11_chooses : ykV yX11_chooses RX11 cX11_chooses 3 none 1 := ⟨wd_1334, wd_54, wd_142, wd_1335, rfl, by decide +kernel, by decide +kernel, by decide +kernel⟩
theorem dX11_isOfData_0 : decode cX11_isOfData 0 = .ok (.iload_n 0, 1) := by decide +kernel
theorem dX11_isOfData_1 : decode cX11_isOfData 1 = .ok (.iconst 1, 1) := by decide +kernel
theorem dX11_isOfData_2 : decode cX11_isOfData 2 = .ok (.iconst 1, 1) := by decide +kernel
theorem dX11_isOfData_3 : decode cX11_isOfData 3 = .ok (.iload_n 1, 1) := by decide +kernel
theorem dX11_isOfData_4 : decode cX11_isOfData 4 = .ok (.ishl, 1) := by decide +kernel
theorem dX11_isOfData_5 : decode cX11_isOfData 5 = .ok (.iconst 1, 1) := by decide +kernel
theorem dX11_isOfData_6 : decode cX11_isOfData 6 = .ok (.isub, 1) := by decide +kernel
theorem dX11_isOfData_7 : decode cX11_isOfData 7 = .ok (.invokestatic 163, 3) := by decide +kernel
theorem dX11_isOfData_10 : decode cX11_isOfData 10 = .ok (.ifCond .eq 25, 3) := by decide +kernel
theorem dX11_isOfData_13 : decode cX11_isOfData 13 = .ok (.iload_n 0, 1) := by decide +kernel
theorem dX11_isOfData_14 : decode cX11_isOfData 14 = .ok (.invokestatic 192, 3) := by decide +kernel
theorem dX11_isOfData_17 : decode cX11_isOfData 17 = .ok (.iconst 2, 1) := by decide +kernel
theorem dX11_isOfData_18 : decode cX11_isOfData 18 = .ok (.irem, 1) := by decide +kernel
theorem dX11_isOfData_19 : decode cX11_isOfData 19 = .ok (.iconst 1, 1) := by decide +kernel
theorem dX11_isOfData_20 : decode cX11_isOfData 20 = .ok (.if_icmp .ne 15, 3) := by decide +kernel
theorem dX11_isOfData_23 : decode cX11_isOfData 23 = .ok (.iload_n 0, 1) := by decide +kernel
theorem dX11_isOfData_24 : decode cX11_isOfData 24 = .ok (.invokestatic 192, 3) := by decide +kernel
theorem dX11_isOfData_27 : decode cX11_isOfData 27 = .ok (.iconst 2, 1) := by decide +kernel
theorem dX11_isOfData_28 : decode cX11_isOfData 28 = .ok (.if_icmp .le 7, 3) := by decide +kernel
theorem dX11_isOfData_31 : decode cX11_isOfData 31 = .ok (.iconst 1, 1) := by decide +kernel
theorem dX11_isOfData_32 : decode cX11_isOfData 32 = .ok (.goto 4, 3) := by decide +kernel
theorem dX11_isOfData_35 : decode cX11_isOfData 35 = .ok (.iconst 0, 1) := by decide +kernel
theorem dX11_isOfData_36 : decode cX11_isOfData 36 = .ok (.ireturn, 1) := by decide +kernel
set_option maxHeartbeats 4000000 in
set_option maxRecDepth 100000 in
theorem c_X11_isOfData (l : Launch) (G : GG) (sz : Nat)  (F : Nat) (b0 : Int32) (b1 : Int32)  (r0 : Int32) (hf : p_X11_isOfData F b0 b1 = some r0) : Met l yX11_isOfData (.code yX11_isOfData cX11_isOfData 2 (some .boolean) :: gtbl) ({ frames := 1, cells := 0, slots := 0, locals := 22 } : Room) (PcS G [.int b0, .int b1] [] sz) (QiS G r0 (va_A [] sz) []) 0 0 (va_A [] sz) := by
  refine met_start (by decide) (Nat.le_of_ble_eq_true rfl) ?_
  intro p e s m below meth c hC hr hlk hnm hK hP hD hA hS hX ls hl
  obtain ⟨hx, hb, hml, hown, ht0⟩ := hC
  have hown : s.vm.findClass RX11 = some m.cls := hown
  generalize va_A [] sz = A at hD hA hS hX ⊢
  have hl : lv_has ls 2 [(0, .int b0), (1, .int b1)] := hl
  have hf : p_X11_isOfData F b0 b1 = some r0 := hf
  refine lv_iload_n hx hb dX11_isOfData_0 rfl (lv_at hl 0 rfl) ?_
  refine lv_iconst (v := (1 : Int32)) hx hb dX11_isOfData_1 (by decide) ?_
  refine lv_iconst (v := (1 : Int32)) hx hb dX11_isOfData_2 (by decide) ?_
  refine lv_iload_n hx hb dX11_isOfData_3 rfl (lv_at hl 1 rfl) ?_
  refine lv_ishl hx hb dX11_isOfData_4 ?_
  refine lv_iconst (v := (1 : Int32)) hx hb dX11_isOfData_5 (by decide) ?_
  refine lv_isub hx hb dX11_isOfData_6 ?_
  obtain ⟨r_7_0, hc_r_7_0, hf⟩ := of_bnd hf
  refine cl_Si (w2 := []) (As := [.int b0, .int (1 : Int32), .int (((1 : Int32) <<< (b1 &&& 31)) - (1 : Int32))]) (rest := []) ⟨hx, hb, hml, hown, ht0⟩ (c_X11_isIn l G _ F b0 (1 : Int32) (((1 : Int32) <<< (b1 &&& 31)) - (1 : Int32)) _ hc_r_7_0) yk_X11_isIn wd_1321 ⟨rfl, rfl, by decide, by decide⟩ ⟨Nat.le_refl _, Nat.le_refl _⟩ hX hK hP hD hS hA [] [] [] rfl rfl (by decide) rfl rfl rfl rfl rfl hl.1 rfl (Nat.le_of_ble_eq_true rfl) dX11_isOfData_7 (fun H locs hP hD hS => ?_)
  refine lv_if_eq (tgt := 35) hx hb dX11_isOfData_10 (by decide) (fun c2 => ?_) (fun c2 => ?_)
  · have hf := of_pos hf c2
    refine lv_iconst (v := (0 : Int32)) hx hb dX11_isOfData_35 (by decide) ?_
    cases hf
    exact ret_z hx hb hr hlk hK hP hD hS (by decide) dX11_isOfData_36
  · have hf := of_neg hf c2
    refine lv_iload_n hx hb dX11_isOfData_13 rfl (lv_at hl 0 rfl) ?_
    obtain ⟨r_14_2, hc_r_14_2, hf⟩ := of_bnd hf
    refine cl_Si (w2 := []) (As := [.int b0]) (rest := []) ⟨hx, hb, hml, hown, ht0⟩ (c_X11_ones l G _ F b0 _ hc_r_14_2) yk_X11_ones wd_1344 ⟨rfl, rfl, by decide, by decide⟩ ⟨Nat.le_refl _, Nat.le_refl _⟩ hX hK hP hD hS hA [] [] [] rfl rfl (by decide) rfl rfl rfl rfl rfl hl.1 rfl (Nat.le_of_ble_eq_true rfl) dX11_isOfData_14 (fun H locs hP hD hS => ?_)
    refine lv_iconst (v := (2 : Int32)) hx hb dX11_isOfData_17 (by decide) ?_
    refine lv_irem hx hb dX11_isOfData_18 (by decide) ?_
    refine lv_iconst (v := (1 : Int32)) hx hb dX11_isOfData_19 (by decide) ?_
    refine lv_icmp_ne (tgt := 35) hx hb dX11_isOfData_20 (by decide) (fun c4 => ?_) (fun c4 => ?_)
    · have hf := of_neg hf c4
      refine lv_iconst (v := (0 : Int32)) hx hb dX11_isOfData_35 (by decide) ?_
      cases hf
      exact ret_z hx hb hr hlk hK hP hD hS (by decide) dX11_isOfData_36
    · have hf := of_pos hf c4
      refine lv_iload_n hx hb dX11_isOfData_23 rfl (lv_at hl 0 rfl) ?_
      obtain ⟨r_24_4, hc_r_24_4, hf⟩ := of_bnd hf
      refine cl_Si (w2 := []) (As := [.int b0]) (rest := []) ⟨hx, hb, hml, hown, ht0⟩ (c_X11_ones l G _ F b0 _ hc_r_24_4) yk_X11_ones wd_1344 ⟨rfl, rfl, by decide, by decide⟩ ⟨Nat.le_refl _, Nat.le_refl _⟩ hX hK hP hD hS hA [] [] [] rfl rfl (by decide) rfl rfl rfl rfl rfl hl.1 rfl (Nat.le_of_ble_eq_true rfl) dX11_isOfData_24 (fun H locs hP hD hS => ?_)
      refine lv_iconst (v := (2 : Int32)) hx hb dX11_isOfData_27 (by decide) ?_
      refine lv_icmp_le (tgt := 35) hx hb dX11_isOfData_28 (by decide) (fun c6 => ?_) (fun c6 => ?_)
      · have hf := of_pos hf c6
        refine lv_iconst (v := (0 : Int32)) hx hb dX11_isOfData_35 (by decide) ?_
        cases hf
        exact ret_z hx hb hr hlk hK hP hD hS (by decide) dX11_isOfData_36
      · have hf := of_neg hf c6
        refine lv_iconst (v := (1 : Int32)) hx hb dX11_isOfData_31 (by decide) ?_
        refine lv_goto (tgt := 36) hx hb dX11_isOfData_32 (by decide) ?_
        cases hf
        exact ret_z hx hb hr hlk hK hP hD hS (by decide) dX11_isOfData_36
theorem yk_X11_isOfData : ykS yX11_isOfData cX11_isOfData 2 (some .boolean) 2 := ⟨wd_1376, wd_142, wd_1377, by decide +kernel, by decide +kernel, by decide +kernel⟩
theorem dX11_isElsewhere_0 : decode cX11_isElsewhere 0 = .ok (.iconst 0, 1) := by decide +kernel
theorem dX11_isElsewhere_1 : decode cX11_isElsewhere 1 = .ok (.istore 4, 2) := by decide +kernel
theorem dX11_isElsewhere_3 : decode cX11_isElsewhere 3 = .ok (.iload 4, 2) := by decide +kernel
theorem dX11_isElsewhere_5 : decode cX11_isElsewhere 5 = .ok (.aload_n 0, 1) := by decide +kernel
theorem dX11_isElsewhere_6 : decode cX11_isElsewhere 6 = .ok (.getfield 13, 3) := by decide +kernel
theorem dX11_isElsewhere_9 : decode cX11_isElsewhere 9 = .ok (.iload_n 1, 1) := by decide +kernel
theorem dX11_isElsewhere_10 : decode cX11_isElsewhere 10 = .ok (.iaload, 1) := by decide +kernel
theorem dX11_isElsewhere_11 : decode cX11_isElsewhere 11 = .ok (.if_icmp .ge 35, 3) := by decide +kernel
theorem dX11_isElsewhere_14 : decode cX11_isElsewhere 14 = .ok (.iload 4, 2) := by decide +kernel
theorem dX11_isElsewhere_16 : decode cX11_isElsewhere 16 = .ok (.iload_n 3, 1) := by decide +kernel
theorem dX11_isElsewhere_17 : decode cX11_isElsewhere 17 = .ok (.if_icmp .eq 23, 3) := by decide +kernel
theorem dX11_isElsewhere_20 : decode cX11_isElsewhere 20 = .ok (.aload_n 0, 1) := by decide +kernel
theorem dX11_isElsewhere_21 : decode cX11_isElsewhere 21 = .ok (.getfield 22, 3) := by decide +kernel
theorem dX11_isElsewhere_24 : decode cX11_isElsewhere 24 = .ok (.bipush 121, 2) := by decide +kernel
theorem dX11_isElsewhere_26 : decode cX11_isElsewhere 26 = .ok (.iload_n 1, 1) := by decide +kernel
theorem dX11_isElsewhere_27 : decode cX11_isElsewhere 27 = .ok (.imul, 1) := by decide +kernel
theorem dX11_isElsewhere_28 : decode cX11_isElsewhere 28 = .ok (.iconst 0, 1) := by decide +kernel
theorem dX11_isElsewhere_29 : decode cX11_isElsewhere 29 = .ok (.iadd, 1) := by decide +kernel
theorem dX11_isElsewhere_30 : decode cX11_isElsewhere 30 = .ok (.iload 4, 2) := by decide +kernel
theorem dX11_isElsewhere_32 : decode cX11_isElsewhere 32 = .ok (.iadd, 1) := by decide +kernel
theorem dX11_isElsewhere_33 : decode cX11_isElsewhere 33 = .ok (.iaload, 1) := by decide +kernel
theorem dX11_isElsewhere_34 : decode cX11_isElsewhere 34 = .ok (.iload_n 2, 1) := by decide +kernel
theorem dX11_isElsewhere_35 : decode cX11_isElsewhere 35 = .ok (.if_icmp .ne 5, 3) := by decide +kernel
theorem dX11_isElsewhere_38 : decode cX11_isElsewhere 38 = .ok (.iconst 1, 1) := by decide +kernel
theorem dX11_isElsewhere_39 : decode cX11_isElsewhere 39 = .ok (.ireturn, 1) := by decide +kernel
theorem dX11_isElsewhere_40 : decode cX11_isElsewhere 40 = .ok (.iinc 4 1, 3) := by decide +kernel
theorem dX11_isElsewhere_43 : decode cX11_isElsewhere 43 = .ok (.goto (-40), 3) := by decide +kernel
theorem dX11_isElsewhere_46 : decode cX11_isElsewhere 46 = .ok (.iconst 0, 1) := by decide +kernel
theorem dX11_isElsewhere_47 : decode cX11_isElsewhere 47 = .ok (.ireturn, 1) := by decide +kernel
def wW_X11_isElsewhere (G : GG) (h0 h1 h2 y0_0 y0_2 y0_3 y0_6 y0_18 y0_21 y0_22 y0_23 y0_24 y0_25 y0_26 y0_33 y0_34 y0_38 y0_39 y0_40 y0_41 y0_42 y0_43 y0_45 y0_46 y0_47 y0_48 : Nat) (x0_5 : Int32) (x0_7 : Int32) (x0_8 : Int32) (x0_9 : Int32) (x0_10 : Int32) (x0_11 : Int32) (x0_12 : Int32) (x0_13 : Int32) (x0_14 : Int32) (x0_15 : Int32) (x0_16 : Int32) (x0_17 : Int32) (x0_19 : Int32) (x0_20 : Int32) (x0_27 : Int32) (x0_28 : Int32) (x0_29 : Int32) (x0_30 : Int32) (x0_31 : Int32) (x0_32 : Int32) (x0_35 : Int32) (x0_36 : Int32) (x0_37 : Int32) (x0_44 : Int32) (x0_49 : Int32) (x0_50 : Int32) (a1 : Nat → Int32) (a2 : Nat → Int32) : va_W := [(h0, .inr (11, [.ref y0_0, .ref h1, .ref y0_2, .ref y0_3, .ref h2, .int x0_5, .ref y0_6, .int x0_7, .int x0_8, .int x0_9, .int x0_10, .int x0_11, .int x0_12, .int x0_13, .int x0_14, .int x0_15, .int x0_16, .int x0_17, .ref y0_18, .int x0_19, .int x0_20, .ref y0_21, .ref y0_22, .ref y0_23, .ref y0_24, .ref y0_25, .ref y0_26, .int x0_27, .int x0_28, .int x0_29, .int x0_30, .int x0_31, .int x0_32, .ref y0_33, .ref y0_34, .int x0_35, .int x0_36, .int x0_37, .ref y0_38, .ref y0_39, .ref y0_40, .ref y0_41, .ref y0_42, .ref y0_43, .int x0_44, .ref y0_45, .ref y0_46, .ref y0_47, .ref y0_48, .int x0_49, .int x0_50])), (h1, .inl (G.2.1, 2, .inl a1)), (h2, .inl (G.2.1, 242, .inl a2))]
set_option maxHeartbeats 4000000 in
set_option maxRecDepth 100000 in
theorem c_X11_isElsewhere (l : Launch) (G : GG) (h0 h1 h2 y0_0 y0_2 y0_3 y0_6 y0_18 y0_21 y0_22 y0_23 y0_24 y0_25 y0_26 y0_33 y0_34 y0_38 y0_39 y0_40 y0_41 y0_42 y0_43 y0_45 y0_46 y0_47 y0_48 : Nat) (sz : Nat) (x0_5 : Int32) (x0_7 : Int32) (x0_8 : Int32) (x0_9 : Int32) (x0_10 : Int32) (x0_11 : Int32) (x0_12 : Int32) (x0_13 : Int32) (x0_14 : Int32) (x0_15 : Int32) (x0_16 : Int32) (x0_17 : Int32) (x0_19 : Int32) (x0_20 : Int32) (x0_27 : Int32) (x0_28 : Int32) (x0_29 : Int32) (x0_30 : Int32) (x0_31 : Int32) (x0_32 : Int32) (x0_35 : Int32) (x0_36 : Int32) (x0_37 : Int32) (x0_44 : Int32) (x0_49 : Int32) (x0_50 : Int32) (a1 : Nat → Int32) (a2 : Nat → Int32) (F : Nat) (b1 : Int32) (b2 : Int32) (b3 : Int32)  (r0 : Int32) (hf : p_X11_isElsewhere F a1 a2 b1 b2 b3 = some r0) : Met l yX11_isElsewhere (.code yX11_isElsewhere cX11_isElsewhere 5 (some .boolean) :: gtbl) ({ frames := 0, cells := 0, slots := 0, locals := 0 } : Room) (PcS G [.ref h0, .int b1, .int b2, .int b3] (wW_X11_isElsewhere G h0 h1 h2 y0_0 y0_2 y0_3 y0_6 y0_18 y0_21 y0_22 y0_23 y0_24 y0_25 y0_26 y0_33 y0_34 y0_38 y0_39 y0_40 y0_41 y0_42 y0_43 y0_45 y0_46 y0_47 y0_48 x0_5 x0_7 x0_8 x0_9 x0_10 x0_11 x0_12 x0_13 x0_14 x0_15 x0_16 x0_17 x0_19 x0_20 x0_27 x0_28 x0_29 x0_30 x0_31 x0_32 x0_35 x0_36 x0_37 x0_44 x0_49 x0_50 a1 a2) sz) (QiS G r0 (va_A (wW_X11_isElsewhere G h0 h1 h2 y0_0 y0_2 y0_3 y0_6 y0_18 y0_21 y0_22 y0_23 y0_24 y0_25 y0_26 y0_33 y0_34 y0_38 y0_39 y0_40 y0_41 y0_42 y0_43 y0_45 y0_46 y0_47 y0_48 x0_5 x0_7 x0_8 x0_9 x0_10 x0_11 x0_12 x0_13 x0_14 x0_15 x0_16 x0_17 x0_19 x0_20 x0_27 x0_28 x0_29 x0_30 x0_31 x0_32 x0_35 x0_36 x0_37 x0_44 x0_49 x0_50 a1 a2) sz) (wW_X11_isElsewhere G h0 h1 h2 y0_0 y0_2 y0_3 y0_6 y0_18 y0_21 y0_22 y0_23 y0_24 y0_25 y0_26 y0_33 y0_34 y0_38 y0_39 y0_40 y0_41 y0_42 y0_43 y0_45 y0_46 y0_47 y0_48 x0_5 x0_7 x0_8 x0_9 x0_10 x0_11 x0_12 x0_13 x0_14 x0_15 x0_16 x0_17 x0_19 x0_20 x0_27 x0_28 x0_29 x0_30 x0_31 x0_32 x0_35 x0_36 x0_37 x0_44 x0_49 x0_50 a1 a2)) 0 0 (va_A (wW_X11_isElsewhere G h0 h1 h2 y0_0 y0_2 y0_3 y0_6 y0_18 y0_21 y0_22 y0_23 y0_24 y0_25 y0_26 y0_33 y0_34 y0_38 y0_39 y0_40 y0_41 y0_42 y0_43 y0_45 y0_46 y0_47 y0_48 x0_5 x0_7 x0_8 x0_9 x0_10 x0_11 x0_12 x0_13 x0_14 x0_15 x0_16 x0_17 x0_19 x0_20 x0_27 x0_28 x0_29 x0_30 x0_31 x0_32 x0_35 x0_36 x0_37 x0_44 x0_49 x0_50 a1 a2) sz) := by
  refine met_start (by decide) (Nat.le_of_ble_eq_true rfl) ?_
  intro p e s m below meth c hC hr hlk hnm hK hP hD hA hS hX ls hl
  obtain ⟨hx, hb, hml, hown, ht0⟩ := hC
  have hown : s.vm.findClass RX11 = some m.cls := hown
  generalize va_A (wW_X11_isElsewhere G h0 h1 h2 y0_0 y0_2 y0_3 y0_6 y0_18 y0_21 y0_22 y0_23 y0_24 y0_25 y0_26 y0_33 y0_34 y0_38 y0_39 y0_40 y0_41 y0_42 y0_43 y0_45 y0_46 y0_47 y0_48 x0_5 x0_7 x0_8 x0_9 x0_10 x0_11 x0_12 x0_13 x0_14 x0_15 x0_16 x0_17 x0_19 x0_20 x0_27 x0_28 x0_29 x0_30 x0_31 x0_32 x0_35 x0_36 x0_37 x0_44 x0_49 x0_50 a1 a2) sz = A at hD hA hS hX ⊢
  have hl : lv_has ls 5 [(0, .ref h0), (1, .int b1), (2, .int b2), (3, .int b3)] := hl
  have hf : p_X11_isElsewhere F a1 a2 b1 b2 b3 = some r0 := hf
  have kL3 : ∀ (c3_1 : Int32) (c3_2 : Int32) (c3_3 : Int32) (n3 : Nat) (u3_4 : Int32), p_X11_isElsewhere_L3 F a1 a2 c3_1 c3_2 c3_3 n3 u3_4 = some r0 → ∀ (H : Heap) (locs : List Loc), va_P G.1 vwCl (wW_X11_isElsewhere G h0 h1 h2 y0_0 y0_2 y0_3 y0_6 y0_18 y0_21 y0_22 y0_23 y0_24 y0_25 y0_26 y0_33 y0_34 y0_38 y0_39 y0_40 y0_41 y0_42 y0_43 y0_45 y0_46 y0_47 y0_48 x0_5 x0_7 x0_8 x0_9 x0_10 x0_11 x0_12 x0_13 x0_14 x0_15 x0_16 x0_17 x0_19 x0_20 x0_27 x0_28 x0_29 x0_30 x0_31 x0_32 x0_35 x0_36 x0_37 x0_44 x0_49 x0_50 a1 a2) H → va_D A (wW_X11_isElsewhere G h0 h1 h2 y0_0 y0_2 y0_3 y0_6 y0_18 y0_21 y0_22 y0_23 y0_24 y0_25 y0_26 y0_33 y0_34 y0_38 y0_39 y0_40 y0_41 y0_42 y0_43 y0_45 y0_46 y0_47 y0_48 x0_5 x0_7 x0_8 x0_9 x0_10 x0_11 x0_12 x0_13 x0_14 x0_15 x0_16 x0_17 x0_19 x0_20 x0_27 x0_28 x0_29 x0_30 x0_31 x0_32 x0_35 x0_36 x0_37 x0_44 x0_49 x0_50 a1 a2) → va_S A s.heap H locs → ∀ ls : Array Slot, lv_has ls 5 [(0, .ref h0), (1, .int c3_1), (2, .int c3_2), (3, .int c3_3), (4, .int u3_4)] → W p l e ({ frames := 0, cells := 0, slots := 0, locals := 0 } : Room) s m (List.toArray [.ref h0, .int b1, .int b2, .int b3]) below meth c H locs 0 0 (MQ below (QiS G r0 A (wW_X11_isElsewhere G h0 h1 h2 y0_0 y0_2 y0_3 y0_6 y0_18 y0_21 y0_22 y0_23 y0_24 y0_25 y0_26 y0_33 y0_34 y0_38 y0_39 y0_40 y0_41 y0_42 y0_43 y0_45 y0_46 y0_47 y0_48 x0_5 x0_7 x0_8 x0_9 x0_10 x0_11 x0_12 x0_13 x0_14 x0_15 x0_16 x0_17 x0_19 x0_20 x0_27 x0_28 x0_29 x0_30 x0_31 x0_32 x0_35 x0_36 x0_37 x0_44 x0_49 x0_50 a1 a2)) (List.toArray [.ref h0, .int b1, .int b2, .int b3]) s 0 0 A) (F0 m 3 ls []) := by
    intro c3_1 c3_2 c3_3 n3
    induction n3 with
    | zero =>
      intro u3_4 hf
      cases hf
    | succ n3 ih3 =>
      have kJ40 : ∀ (u40_4 : Int32), p_X11_isElsewhere_J40 F a1 a2 c3_1 c3_2 c3_3 (p_X11_isElsewhere_L3 F a1 a2 c3_1 c3_2 c3_3 n3) u40_4 = some r0 → ∀ (H : Heap) (locs : List Loc), va_P G.1 vwCl (wW_X11_isElsewhere G h0 h1 h2 y0_0 y0_2 y0_3 y0_6 y0_18 y0_21 y0_22 y0_23 y0_24 y0_25 y0_26 y0_33 y0_34 y0_38 y0_39 y0_40 y0_41 y0_42 y0_43 y0_45 y0_46 y0_47 y0_48 x0_5 x0_7 x0_8 x0_9 x0_10 x0_11 x0_12 x0_13 x0_14 x0_15 x0_16 x0_17 x0_19 x0_20 x0_27 x0_28 x0_29 x0_30 x0_31 x0_32 x0_35 x0_36 x0_37 x0_44 x0_49 x0_50 a1 a2) H → va_D A (wW_X11_isElsewhere G h0 h1 h2 y0_0 y0_2 y0_3 y0_6 y0_18 y0_21 y0_22 y0_23 y0_24 y0_25 y0_26 y0_33 y0_34 y0_38 y0_39 y0_40 y0_41 y0_42 y0_43 y0_45 y0_46 y0_47 y0_48 x0_5 x0_7 x0_8 x0_9 x0_10 x0_11 x0_12 x0_13 x0_14 x0_15 x0_16 x0_17 x0_19 x0_20 x0_27 x0_28 x0_29 x0_30 x0_31 x0_32 x0_35 x0_36 x0_37 x0_44 x0_49 x0_50 a1 a2) → va_S A s.heap H locs → ∀ ls : Array Slot, lv_has ls 5 [(0, .ref h0), (1, .int c3_1), (2, .int c3_2), (3, .int c3_3), (4, .int u40_4)] → W p l e ({ frames := 0, cells := 0, slots := 0, locals := 0 } : Room) s m (List.toArray [.ref h0, .int b1, .int b2, .int b3]) below meth c H locs 0 0 (MQ below (QiS G r0 A (wW_X11_isElsewhere G h0 h1 h2 y0_0 y0_2 y0_3 y0_6 y0_18 y0_21 y0_22 y0_23 y0_24 y0_25 y0_26 y0_33 y0_34 y0_38 y0_39 y0_40 y0_41 y0_42 y0_43 y0_45 y0_46 y0_47 y0_48 x0_5 x0_7 x0_8 x0_9 x0_10 x0_11 x0_12 x0_13 x0_14 x0_15 x0_16 x0_17 x0_19 x0_20 x0_27 x0_28 x0_29 x0_30 x0_31 x0_32 x0_35 x0_36 x0_37 x0_44 x0_49 x0_50 a1 a2)) (List.toArray [.ref h0, .int b1, .int b2, .int b3]) s 0 0 A) (F0 m 40 ls []) := by
        intro u40_4 hf H locs hP hD hS ls hl
        refine lv_iinc (v := u40_4 + (1 : Int32)) (lv' := [(4, .int (u40_4 + (1 : Int32))), (0, .ref h0), (1, .int c3_1), (2, .int c3_2), (3, .int c3_3)]) hx hb dX11_isElsewhere_40 hl (k := 4) rfl (by rfl) (by decide) rfl (fun ls hl => ?_)
        refine lv_goto (tgt := 3) hx hb dX11_isElsewhere_43 (by decide) ?_
        exact ih3 _ hf _ _ hP hD hS _ (lv_sub hl [1, 2, 3, 4, 0] rfl)
      intro u3_4 hf H locs hP hD hS ls hl
      have hf : p_X11_isElsewhere_L3b F a1 a2 c3_1 c3_2 c3_3 (p_X11_isElsewhere_L3 F a1 a2 c3_1 c3_2 c3_3 n3) u3_4 = some r0 := hf
      refine lv_iload hx hb dX11_isElsewhere_3 (lv_at hl 4 rfl) ?_
      refine lv_aload_n hx hb dX11_isElsewhere_5 rfl (lv_at hl 0 rfl) ?_
      refine va_get (ci := 11) (v := .ref h1) (C := RX11) (T := TX11) (N := 51) hx hb ht0 iX11 hown hK hP 0 rfl rfl 1 (by decide) (ht0 _ wd_1407) (fun _ h9 => h9) rfl dX11_isElsewhere_6 ?_
      refine lv_iload_n hx hb dX11_isElsewhere_9 rfl (lv_at hl 1 rfl) ?_
      obtain ⟨g1, hf⟩ := of_grd hf
      refine va_iald hx hb hK hP 1 0 rfl rfl g1 dX11_isElsewhere_10 ?_
      refine lv_icmp_ge (tgt := 46) hx hb dX11_isElsewhere_11 (by decide) (fun c2 => ?_) (fun c2 => ?_)
      · have hf := of_pos hf c2
        refine lv_iconst (v := (0 : Int32)) hx hb dX11_isElsewhere_46 (by decide) ?_
        cases hf
        exact ret_z hx hb hr hlk hK hP hD hS (by decide) dX11_isElsewhere_47
      · have hf := of_neg hf c2
        refine lv_iload hx hb dX11_isElsewhere_14 (lv_at hl 4 rfl) ?_
        refine lv_iload_n hx hb dX11_isElsewhere_16 rfl (lv_at hl 3 rfl) ?_
        refine lv_icmp_eq (tgt := 40) hx hb dX11_isElsewhere_17 (by decide) (fun c3 => ?_) (fun c3 => ?_)
        · have hf := of_pos hf c3
          exact kJ40 _ hf _ _ hP hD hS _ (lv_sub hl [0, 1, 2, 3, 4] rfl)
        · have hf := of_neg hf c3
          refine lv_aload_n hx hb dX11_isElsewhere_20 rfl (lv_at hl 0 rfl) ?_
          refine va_get (ci := 11) (v := .ref h2) (C := RX11) (T := TX11) (N := 51) hx hb ht0 iX11 hown hK hP 0 rfl rfl 4 (by decide) (ht0 _ wd_1410) (fun _ h9 => h9) rfl dX11_isElsewhere_21 ?_
          refine lv_bipush (v := (121 : Int32)) hx hb dX11_isElsewhere_24 (by decide) ?_
          refine lv_iload_n hx hb dX11_isElsewhere_26 rfl (lv_at hl 1 rfl) ?_
          refine lv_imul hx hb dX11_isElsewhere_27 ?_
          refine lv_iconst (v := (0 : Int32)) hx hb dX11_isElsewhere_28 (by decide) ?_
          refine lv_iadd hx hb dX11_isElsewhere_29 ?_
          refine lv_iload hx hb dX11_isElsewhere_30 (lv_at hl 4 rfl) ?_
          refine lv_iadd hx hb dX11_isElsewhere_32 ?_
          obtain ⟨g4, hf⟩ := of_grd hf
          refine va_iald hx hb hK hP 2 0 rfl rfl g4 dX11_isElsewhere_33 ?_
          refine lv_iload_n hx hb dX11_isElsewhere_34 rfl (lv_at hl 2 rfl) ?_
          refine lv_icmp_ne (tgt := 40) hx hb dX11_isElsewhere_35 (by decide) (fun c5 => ?_) (fun c5 => ?_)
          · have hf := of_neg hf c5
            exact kJ40 _ hf _ _ hP hD hS _ (lv_sub hl [0, 1, 2, 3, 4] rfl)
          · have hf := of_pos hf c5
            refine lv_iconst (v := (1 : Int32)) hx hb dX11_isElsewhere_38 (by decide) ?_
            cases hf
            exact ret_z hx hb hr hlk hK hP hD hS (by decide) dX11_isElsewhere_39
  refine lv_iconst (v := (0 : Int32)) hx hb dX11_isElsewhere_0 (by decide) ?_
  refine lv_istore (lv' := [(4, .int (0 : Int32)), (0, .ref h0), (1, .int b1), (2, .int b2), (3, .int b3)]) hx hb dX11_isElsewhere_1 hl (by decide) rfl (fun ls hl => ?_)
  exact kL3 _ _ _ _ _ hf _ _ hP hD hS _ (lv_sub hl [1, 2, 3, 4, 0] rfl)
theorem yk_X11_isElsewhere : ykV yX11_isElsewhere RX11 cX11_isElsewhere 5 (some .boolean) 3 := ⟨wd_1380, wd_63, wd_142, wd_1381, rfl, by decide +kernel, by decide +kernel, by decide +kernel⟩
theorem dX11_readColumn_0 : decode cX11_readColumn 0 = .ok (.aload_n 0, 1) := by decide +kernel
theorem dX11_readColumn_1 : decode cX11_readColumn 1 = .ok (.iload_n 1, 1) := by decide +kernel
theorem dX11_readColumn_2 : decode cX11_readColumn 2 = .ok (.invokevirtual 195, 3) := by decide +kernel
theorem dX11_readColumn_5 : decode cX11_readColumn 5 = .ok (.aload_n 0, 1) := by decide +kernel
theorem dX11_readColumn_6 : decode cX11_readColumn 6 = .ok (.getfield 111, 3) := by decide +kernel
theorem dX11_readColumn_9 : decode cX11_readColumn 9 = .ok (.ifCond .le 4, 3) := by decide +kernel
theorem dX11_readColumn_12 : decode cX11_readColumn 12 = .ok (.return_, 1) := by decide +kernel
theorem dX11_readColumn_13 : decode cX11_readColumn 13 = .ok (.aload_n 0, 1) := by decide +kernel
theorem dX11_readColumn_14 : decode cX11_readColumn 14 = .ok (.invokevirtual 167, 3) := by decide +kernel
theorem dX11_readColumn_17 : decode cX11_readColumn 17 = .ok (.aload_n 0, 1) := by decide +kernel
theorem dX11_readColumn_18 : decode cX11_readColumn 18 = .ok (.iconst 0, 1) := by decide +kernel
theorem dX11_readColumn_19 : decode cX11_readColumn 19 = .ok (.aload_n 0, 1) := by decide +kernel
theorem dX11_readColumn_20 : decode cX11_readColumn 20 = .ok (.getfield 13, 3) := by decide +kernel
theorem dX11_readColumn_23 : decode cX11_readColumn 23 = .ok (.iload_n 1, 1) := by decide +kernel
theorem dX11_readColumn_24 : decode cX11_readColumn 24 = .ok (.iaload, 1) := by decide +kernel
theorem dX11_readColumn_25 : decode cX11_readColumn 25 = .ok (.iconst 1, 1) := by decide +kernel
theorem dX11_readColumn_26 : decode cX11_readColumn 26 = .ok (.isub, 1) := by decide +kernel
theorem dX11_readColumn_27 : decode cX11_readColumn 27 = .ok (.invokevirtual 176, 3) := by decide +kernel
theorem dX11_readColumn_30 : decode cX11_readColumn 30 = .ok (.istore_n 2, 1) := by decide +kernel
theorem dX11_readColumn_31 : decode cX11_readColumn 31 = .ok (.aload_n 0, 1) := by decide +kernel
theorem dX11_readColumn_32 : decode cX11_readColumn 32 = .ok (.getfield 111, 3) := by decide +kernel
theorem dX11_readColumn_35 : decode cX11_readColumn 35 = .ok (.ifCond .le 4, 3) := by decide +kernel
theorem dX11_readColumn_38 : decode cX11_readColumn 38 = .ok (.return_, 1) := by decide +kernel
theorem dX11_readColumn_39 : decode cX11_readColumn 39 = .ok (.aload_n 0, 1) := by decide +kernel
theorem dX11_readColumn_40 : decode cX11_readColumn 40 = .ok (.getfield 134, 3) := by decide +kernel
theorem dX11_readColumn_43 : decode cX11_readColumn 43 = .ok (.iconst 3, 1) := by decide +kernel
theorem dX11_readColumn_44 : decode cX11_readColumn 44 = .ok (.if_icmp .eq 11, 3) := by decide +kernel
theorem dX11_readColumn_47 : decode cX11_readColumn 47 = .ok (.aload_n 0, 1) := by decide +kernel
theorem dX11_readColumn_48 : decode cX11_readColumn 48 = .ok (.iconst 1, 1) := by decide +kernel
theorem dX11_readColumn_49 : decode cX11_readColumn 49 = .ok (.invokevirtual 160, 3) := by decide +kernel
theorem dX11_readColumn_52 : decode cX11_readColumn 52 = .ok (.goto 37, 3) := by decide +kernel
theorem dX11_readColumn_55 : decode cX11_readColumn 55 = .ok (.aload_n 0, 1) := by decide +kernel
theorem dX11_readColumn_56 : decode cX11_readColumn 56 = .ok (.getfield 156, 3) := by decide +kernel
theorem dX11_readColumn_59 : decode cX11_readColumn 59 = .ok (.aload_n 0, 1) := by decide +kernel
theorem dX11_readColumn_60 : decode cX11_readColumn 60 = .ok (.getfield 16, 3) := by decide +kernel
theorem dX11_readColumn_63 : decode cX11_readColumn 63 = .ok (.iload_n 1, 1) := by decide +kernel
theorem dX11_readColumn_64 : decode cX11_readColumn 64 = .ok (.iaload, 1) := by decide +kernel
theorem dX11_readColumn_65 : decode cX11_readColumn 65 = .ok (.invokestatic 198, 3) := by decide +kernel
theorem dX11_readColumn_68 : decode cX11_readColumn 68 = .ok (.ifCond .eq 16, 3) := by decide +kernel
theorem dX11_readColumn_71 : decode cX11_readColumn 71 = .ok (.aload_n 0, 1) := by decide +kernel
theorem dX11_readColumn_72 : decode cX11_readColumn 72 = .ok (.iload_n 1, 1) := by decide +kernel
theorem dX11_readColumn_73 : decode cX11_readColumn 73 = .ok (.aload_n 0, 1) := by decide +kernel
theorem dX11_readColumn_74 : decode cX11_readColumn 74 = .ok (.getfield 156, 3) := by decide +kernel
theorem dX11_readColumn_77 : decode cX11_readColumn 77 = .ok (.iload_n 2, 1) := by decide +kernel
theorem dX11_readColumn_78 : decode cX11_readColumn 78 = .ok (.invokevirtual 201, 3) := by decide +kernel
theorem dX11_readColumn_81 : decode cX11_readColumn 81 = .ok (.ifCond .eq 8, 3) := by decide +kernel
theorem dX11_readColumn_84 : decode cX11_readColumn 84 = .ok (.aload_n 0, 1) := by decide +kernel
theorem dX11_readColumn_85 : decode cX11_readColumn 85 = .ok (.iconst 2, 1) := by decide +kernel
theorem dX11_readColumn_86 : decode cX11_readColumn 86 = .ok (.invokevirtual 160, 3) := by decide +kernel
theorem dX11_readColumn_89 : decode cX11_readColumn 89 = .ok (.aload_n 0, 1) := by decide +kernel
theorem dX11_readColumn_90 : decode cX11_readColumn 90 = .ok (.getfield 111, 3) := by decide +kernel
theorem dX11_readColumn_93 : decode cX11_readColumn 93 = .ok (.ifCond .le 4, 3) := by decide +kernel
theorem dX11_readColumn_96 : decode cX11_readColumn 96 = .ok (.return_, 1) := by decide +kernel
theorem dX11_readColumn_97 : decode cX11_readColumn 97 = .ok (.aload_n 0, 1) := by decide +kernel
theorem dX11_readColumn_98 : decode cX11_readColumn 98 = .ok (.getfield 22, 3) := by decide +kernel
theorem dX11_readColumn_101 : decode cX11_readColumn 101 = .ok (.bipush 121, 2) := by decide +kernel
theorem dX11_readColumn_103 : decode cX11_readColumn 103 = .ok (.iload_n 1, 1) := by decide +kernel
theorem dX11_readColumn_104 : decode cX11_readColumn 104 = .ok (.imul, 1) := by decide +kernel
theorem dX11_readColumn_105 : decode cX11_readColumn 105 = .ok (.iconst 0, 1) := by decide +kernel
theorem dX11_readColumn_106 : decode cX11_readColumn 106 = .ok (.iadd, 1) := by decide +kernel
theorem dX11_readColumn_107 : decode cX11_readColumn 107 = .ok (.iload_n 2, 1) := by decide +kernel
theorem dX11_readColumn_108 : decode cX11_readColumn 108 = .ok (.iadd, 1) := by decide +kernel
theorem dX11_readColumn_109 : decode cX11_readColumn 109 = .ok (.aload_n 0, 1) := by decide +kernel
theorem dX11_readColumn_110 : decode cX11_readColumn 110 = .ok (.getfield 156, 3) := by decide +kernel
theorem dX11_readColumn_113 : decode cX11_readColumn 113 = .ok (.iastore, 1) := by decide +kernel
theorem dX11_readColumn_114 : decode cX11_readColumn 114 = .ok (.aload_n 0, 1) := by decide +kernel
theorem dX11_readColumn_115 : decode cX11_readColumn 115 = .ok (.invokevirtual 167, 3) := by decide +kernel
theorem dX11_readColumn_118 : decode cX11_readColumn 118 = .ok (.return_, 1) := by decide +kernel
def wW_X11_readColumn (G : GG) (h0 h1 h2 h3 h4 h5 h6 h7 h8 h9 h10 h11 h12 y0_0 y0_33 y0_34 y0_38 y0_39 y0_40 y0_41 y0_42 y0_43 y0_45 y0_46 y0_47 y0_48 : Nat) (x0_5 : Int32) (x0_7 : Int32) (x0_8 : Int32) (x0_9 : Int32) (x0_10 : Int32) (x0_11 : Int32) (x0_12 : Int32) (x0_13 : Int32) (x0_14 : Int32) (x0_15 : Int32) (x0_16 : Int32) (x0_17 : Int32) (x0_19 : Int32) (x0_20 : Int32) (x0_27 : Int32) (x0_28 : Int32) (x0_29 : Int32) (x0_30 : Int32) (x0_31 : Int32) (x0_32 : Int32) (x0_35 : Int32) (x0_36 : Int32) (x0_37 : Int32) (x0_44 : Int32) (x0_49 : Int32) (x0_50 : Int32) (a1 : Nat → Int32) (a2 : Nat → Int32) (a3 : Nat → Int32) (a4 : Nat → Int32) (a5 : Nat → Int32) (a6 : Nat → Int32) (a7 : Nat → Int32) (a8 : Nat → Int32) (a9 : Nat → Int32) (a10 : Nat → Int32) (a11 : Nat → Int32) (a12 : Nat → Int32) : va_W := [(h0, .inr (11, [.ref y0_0, .ref h1, .ref h2, .ref h3, .ref h4, .int x0_5, .ref h5, .int x0_7, .int x0_8, .int x0_9, .int x0_10, .int x0_11, .int x0_12, .int x0_13, .int x0_14, .int x0_15, .int x0_16, .int x0_17, .ref h6, .int x0_19, .int x0_20, .ref h7, .ref h8, .ref h9, .ref h10, .ref h11, .ref h12, .int x0_27, .int x0_28, .int x0_29, .int x0_30, .int x0_31, .int x0_32, .ref y0_33, .ref y0_34, .int x0_35, .int x0_36, .int x0_37, .ref y0_38, .ref y0_39, .ref y0_40, .ref y0_41, .ref y0_42, .ref y0_43, .int x0_44, .ref y0_45, .ref y0_46, .ref y0_47, .ref y0_48, .int x0_49, .int x0_50])), (h1, .inl (G.2.1, 2, .inl a1)), (h2, .inl (G.2.1, 2, .inl a2)), (h3, .inl (G.2.1, 2, .inl a3)), (h4, .inl (G.2.1, 242, .inl a4)), (h5, .inl (G.2.2.2.1, 600, .inl a5)), (h6, .inl (G.2.2.2.1, 56, .inl a6)), (h7, .inl (G.2.1, 128, .inl a7)), (h8, .inl (G.2.1, 32, .inl a8)), (h9, .inl (G.2.1, 32, .inl a9)), (h10, .inl (G.2.1, 8, .inl a10)), (h11, .inl (G.2.2.1, 256, .inl a11)), (h12, .inl (G.2.2.1, 256, .inl a12))]
set_option maxHeartbeats 4000000 in
set_option maxRecDepth 100000 in
theorem c_X11_readColumn (l : Launch) (G : GG) (h0 h1 h2 h3 h4 h5 h6 h7 h8 h9 h10 h11 h12 y0_0 y0_33 y0_34 y0_38 y0_39 y0_40 y0_41 y0_42 y0_43 y0_45 y0_46 y0_47 y0_48 : Nat) (sz : Nat) (x0_5 : Int32) (x0_7 : Int32) (x0_8 : Int32) (x0_9 : Int32) (x0_10 : Int32) (x0_11 : Int32) (x0_12 : Int32) (x0_13 : Int32) (x0_14 : Int32) (x0_15 : Int32) (x0_16 : Int32) (x0_17 : Int32) (x0_19 : Int32) (x0_20 : Int32) (x0_27 : Int32) (x0_28 : Int32) (x0_29 : Int32) (x0_30 : Int32) (x0_31 : Int32) (x0_32 : Int32) (x0_35 : Int32) (x0_36 : Int32) (x0_37 : Int32) (x0_44 : Int32) (x0_49 : Int32) (x0_50 : Int32) (a1 : Nat → Int32) (a2 : Nat → Int32) (a3 : Nat → Int32) (a4 : Nat → Int32) (a5 : Nat → Int32) (a6 : Nat → Int32) (a7 : Nat → Int32) (a8 : Nat → Int32) (a9 : Nat → Int32) (a10 : Nat → Int32) (a11 : Nat → Int32) (a12 : Nat → Int32) (F : Nat) (b1 : Int32)  (e_x0_9 : Int32) (e_x0_10 : Int32) (e_x0_11 : Int32) (e_x0_12 : Int32) (e_x0_13 : Int32) (e_x0_14 : Int32) (e_x0_15 : Int32) (e_x0_20 : Int32) (e_x0_27 : Int32) (e_x0_28 : Int32) (e_a4 : Nat → Int32) (e_a7 : Nat → Int32) (e_a8 : Nat → Int32) (e_a9 : Nat → Int32) (e_a10 : Nat → Int32) (e_a11 : Nat → Int32) (e_a12 : Nat → Int32) (hf : p_X11_readColumn F x0_8 x0_9 x0_10 x0_11 x0_12 x0_13 x0_14 x0_15 x0_20 x0_27 x0_28 a1 a2 a3 a4 a5 a6 a7 a8 a9 a10 a11 a12 b1 = some (e_x0_9, e_x0_10, e_x0_11, e_x0_12, e_x0_13, e_x0_14, e_x0_15, e_x0_20, e_x0_27, e_x0_28, e_a4, e_a7, e_a8, e_a9, e_a10, e_a11, e_a12)) : Met l yX11_readColumn (.code yX11_readColumn cX11_readColumn 3 none :: gtbl) ({ frames := 4, cells := 0, slots := 0, locals := 95 } : Room) (PcS G [.ref h0, .int b1] (wW_X11_readColumn G h0 h1 h2 h3 h4 h5 h6 h7 h8 h9 h10 h11 h12 y0_0 y0_33 y0_34 y0_38 y0_39 y0_40 y0_41 y0_42 y0_43 y0_45 y0_46 y0_47 y0_48 x0_5 x0_7 x0_8 x0_9 x0_10 x0_11 x0_12 x0_13 x0_14 x0_15 x0_16 x0_17 x0_19 x0_20 x0_27 x0_28 x0_29 x0_30 x0_31 x0_32 x0_35 x0_36 x0_37 x0_44 x0_49 x0_50 a1 a2 a3 a4 a5 a6 a7 a8 a9 a10 a11 a12) sz) (QvS G (va_A (wW_X11_readColumn G h0 h1 h2 h3 h4 h5 h6 h7 h8 h9 h10 h11 h12 y0_0 y0_33 y0_34 y0_38 y0_39 y0_40 y0_41 y0_42 y0_43 y0_45 y0_46 y0_47 y0_48 x0_5 x0_7 x0_8 x0_9 x0_10 x0_11 x0_12 x0_13 x0_14 x0_15 x0_16 x0_17 x0_19 x0_20 x0_27 x0_28 x0_29 x0_30 x0_31 x0_32 x0_35 x0_36 x0_37 x0_44 x0_49 x0_50 a1 a2 a3 a4 a5 a6 a7 a8 a9 a10 a11 a12) sz) (wW_X11_readColumn G h0 h1 h2 h3 h4 h5 h6 h7 h8 h9 h10 h11 h12 y0_0 y0_33 y0_34 y0_38 y0_39 y0_40 y0_41 y0_42 y0_43 y0_45 y0_46 y0_47 y0_48 x0_5 x0_7 x0_8 e_x0_9 e_x0_10 e_x0_11 e_x0_12 e_x0_13 e_x0_14 e_x0_15 x0_16 x0_17 x0_19 e_x0_20 e_x0_27 e_x0_28 x0_29 x0_30 x0_31 x0_32 x0_35 x0_36 x0_37 x0_44 x0_49 x0_50 a1 a2 a3 e_a4 a5 a6 e_a7 e_a8 e_a9 e_a10 e_a11 e_a12)) 0 0 (va_A (wW_X11_readColumn G h0 h1 h2 h3 h4 h5 h6 h7 h8 h9 h10 h11 h12 y0_0 y0_33 y0_34 y0_38 y0_39 y0_40 y0_41 y0_42 y0_43 y0_45 y0_46 y0_47 y0_48 x0_5 x0_7 x0_8 x0_9 x0_10 x0_11 x0_12 x0_13 x0_14 x0_15 x0_16 x0_17 x0_19 x0_20 x0_27 x0_28 x0_29 x0_30 x0_31 x0_32 x0_35 x0_36 x0_37 x0_44 x0_49 x0_50 a1 a2 a3 a4 a5 a6 a7 a8 a9 a10 a11 a12) sz) := by
  refine met_start (by decide) (Nat.le_of_ble_eq_true rfl) ?_
  intro p e s m below meth c hC hr hlk hnm hK hP hD hA hS hX ls hl
  obtain ⟨hx, hb, hml, hown, ht0⟩ := hC
  have hown : s.vm.findClass RX11 = some m.cls := hown
  generalize va_A (wW_X11_readColumn G h0 h1 h2 h3 h4 h5 h6 h7 h8 h9 h10 h11 h12 y0_0 y0_33 y0_34 y0_38 y0_39 y0_40 y0_41 y0_42 y0_43 y0_45 y0_46 y0_47 y0_48 x0_5 x0_7 x0_8 x0_9 x0_10 x0_11 x0_12 x0_13 x0_14 x0_15 x0_16 x0_17 x0_19 x0_20 x0_27 x0_28 x0_29 x0_30 x0_31 x0_32 x0_35 x0_36 x0_37 x0_44 x0_49 x0_50 a1 a2 a3 a4 a5 a6 a7 a8 a9 a10 a11 a12) sz = A at hD hA hS hX ⊢
  have hl : lv_has ls 3 [(0, .ref h0), (1, .int b1)] := hl
  have hf : p_X11_readColumn F x0_8 x0_9 x0_10 x0_11 x0_12 x0_13 x0_14 x0_15 x0_20 x0_27 x0_28 a1 a2 a3 a4 a5 a6 a7 a8 a9 a10 a11 a12 b1 = some (e_x0_9, e_x0_10, e_x0_11, e_x0_12, e_x0_13, e_x0_14, e_x0_15, e_x0_20, e_x0_27, e_x0_28, e_a4, e_a7, e_a8, e_a9, e_a10, e_a11, e_a12) := hf
  have kJ89 : ∀ (u89_1 : Int32) (u89_2 : Int32) (x0_9_89 : Int32) (x0_10_89 : Int32) (x0_11_89 : Int32) (x0_12_89 : Int32) (x0_13_89 : Int32) (x0_14_89 : Int32) (x0_15_89 : Int32) (x0_20_89 : Int32) (x0_27_89 : Int32) (x0_28_89 : Int32) (a4_89 : Nat → Int32) (a7_89 : Nat → Int32) (a8_89 : Nat → Int32) (a9_89 : Nat → Int32) (a10_89 : Nat → Int32) (a11_89 : Nat → Int32) (a12_89 : Nat → Int32), p_X11_readColumn_J89 F x0_8 a1 a2 a3 a5 a6 u89_1 u89_2 x0_9_89 x0_10_89 x0_11_89 x0_12_89 x0_13_89 x0_14_89 x0_15_89 x0_20_89 x0_27_89 x0_28_89 a4_89 a7_89 a8_89 a9_89 a10_89 a11_89 a12_89 = some (e_x0_9, e_x0_10, e_x0_11, e_x0_12, e_x0_13, e_x0_14, e_x0_15, e_x0_20, e_x0_27, e_x0_28, e_a4, e_a7, e_a8, e_a9, e_a10, e_a11, e_a12) → ∀ (H : Heap) (locs : List Loc), va_P G.1 vwCl (wW_X11_readColumn G h0 h1 h2 h3 h4 h5 h6 h7 h8 h9 h10 h11 h12 y0_0 y0_33 y0_34 y0_38 y0_39 y0_40 y0_41 y0_42 y0_43 y0_45 y0_46 y0_47 y0_48 x0_5 x0_7 x0_8 x0_9_89 x0_10_89 x0_11_89 x0_12_89 x0_13_89 x0_14_89 x0_15_89 x0_16 x0_17 x0_19 x0_20_89 x0_27_89 x0_28_89 x0_29 x0_30 x0_31 x0_32 x0_35 x0_36 x0_37 x0_44 x0_49 x0_50 a1 a2 a3 a4_89 a5 a6 a7_89 a8_89 a9_89 a10_89 a11_89 a12_89) H → va_D A (wW_X11_readColumn G h0 h1 h2 h3 h4 h5 h6 h7 h8 h9 h10 h11 h12 y0_0 y0_33 y0_34 y0_38 y0_39 y0_40 y0_41 y0_42 y0_43 y0_45 y0_46 y0_47 y0_48 x0_5 x0_7 x0_8 x0_9_89 x0_10_89 x0_11_89 x0_12_89 x0_13_89 x0_14_89 x0_15_89 x0_16 x0_17 x0_19 x0_20_89 x0_27_89 x0_28_89 x0_29 x0_30 x0_31 x0_32 x0_35 x0_36 x0_37 x0_44 x0_49 x0_50 a1 a2 a3 a4_89 a5 a6 a7_89 a8_89 a9_89 a10_89 a11_89 a12_89) → va_S A s.heap H locs → ∀ ls : Array Slot, lv_has ls 3 [(0, .ref h0), (1, .int u89_1), (2, .int u89_2)] → W p l e ({ frames := 4, cells := 0, slots := 0, locals := 95 } : Room) s m (List.toArray [.ref h0, .int b1]) below meth c H locs 0 0 (MQ below (QvS G A (wW_X11_readColumn G h0 h1 h2 h3 h4 h5 h6 h7 h8 h9 h10 h11 h12 y0_0 y0_33 y0_34 y0_38 y0_39 y0_40 y0_41 y0_42 y0_43 y0_45 y0_46 y0_47 y0_48 x0_5 x0_7 x0_8 e_x0_9 e_x0_10 e_x0_11 e_x0_12 e_x0_13 e_x0_14 e_x0_15 x0_16 x0_17 x0_19 e_x0_20 e_x0_27 e_x0_28 x0_29 x0_30 x0_31 x0_32 x0_35 x0_36 x0_37 x0_44 x0_49 x0_50 a1 a2 a3 e_a4 a5 a6 e_a7 e_a8 e_a9 e_a10 e_a11 e_a12)) (List.toArray [.ref h0, .int b1]) s 0 0 A) (F0 m 89 ls []) := by
    intro u89_1 u89_2 x0_9_89 x0_10_89 x0_11_89 x0_12_89 x0_13_89 x0_14_89 x0_15_89 x0_20_89 x0_27_89 x0_28_89 a4_89 a7_89 a8_89 a9_89 a10_89 a11_89 a12_89 hf H locs hP hD hS ls hl
    refine lv_aload_n hx hb dX11_readColumn_89 rfl (lv_at hl 0 rfl) ?_
    refine va_get (ci := 11) (v := .int x0_14_89) (C := RX11) (T := TX11) (N := 51) hx hb ht0 iX11 hown hK hP 0 rfl rfl 14 (by decide) (ht0 _ wd_1420) (fun _ h9 => h9) rfl dX11_readColumn_90 ?_
    refine lv_if_le (tgt := 97) hx hb dX11_readColumn_93 (by decide) (fun c1 => ?_) (fun c1 => ?_)
    · have hf := of_pos hf c1
      refine lv_aload_n hx hb dX11_readColumn_97 rfl (lv_at hl 0 rfl) ?_
      refine va_get (ci := 11) (v := .ref h4) (C := RX11) (T := TX11) (N := 51) hx hb ht0 iX11 hown hK hP 0 rfl rfl 4 (by decide) (ht0 _ wd_1410) (fun _ h9 => h9) rfl dX11_readColumn_98 ?_
      refine lv_bipush (v := (121 : Int32)) hx hb dX11_readColumn_101 (by decide) ?_
      refine lv_iload_n hx hb dX11_readColumn_103 rfl (lv_at hl 1 rfl) ?_
      refine lv_imul hx hb dX11_readColumn_104 ?_
      refine lv_iconst (v := (0 : Int32)) hx hb dX11_readColumn_105 (by decide) ?_
      refine lv_iadd hx hb dX11_readColumn_106 ?_
      refine lv_iload_n hx hb dX11_readColumn_107 rfl (lv_at hl 2 rfl) ?_
      refine lv_iadd hx hb dX11_readColumn_108 ?_
      refine lv_aload_n hx hb dX11_readColumn_109 rfl (lv_at hl 0 rfl) ?_
      refine va_get (ci := 11) (v := .int x0_12_89) (C := RX11) (T := TX11) (N := 51) hx hb ht0 iX11 hown hK hP 0 rfl rfl 12 (by decide) (ht0 _ wd_1418) (fun _ h9 => h9) rfl dX11_readColumn_110 ?_
      obtain ⟨g2, hf⟩ := of_grd hf
      refine va_iast hx hb hK hP hD hS 4 0 rfl rfl g2 dX11_readColumn_113 (fun H locs hP hD hS => ?_)
      have hP : va_P G.1 vwCl (wW_X11_readColumn G h0 h1 h2 h3 h4 h5 h6 h7 h8 h9 h10 h11 h12 y0_0 y0_33 y0_34 y0_38 y0_39 y0_40 y0_41 y0_42 y0_43 y0_45 y0_46 y0_47 y0_48 x0_5 x0_7 x0_8 x0_9_89 x0_10_89 x0_11_89 x0_12_89 x0_13_89 x0_14_89 x0_15_89 x0_16 x0_17 x0_19 x0_20_89 x0_27_89 x0_28_89 x0_29 x0_30 x0_31 x0_32 x0_35 x0_36 x0_37 x0_44 x0_49 x0_50 a1 a2 a3 (upd a4_89 ((((121 : Int32) * u89_1) + (0 : Int32)) + u89_2).toNatClampNeg x0_12_89) a5 a6 a7_89 a8_89 a9_89 a10_89 a11_89 a12_89) H := hP
      have hD : va_D A (wW_X11_readColumn G h0 h1 h2 h3 h4 h5 h6 h7 h8 h9 h10 h11 h12 y0_0 y0_33 y0_34 y0_38 y0_39 y0_40 y0_41 y0_42 y0_43 y0_45 y0_46 y0_47 y0_48 x0_5 x0_7 x0_8 x0_9_89 x0_10_89 x0_11_89 x0_12_89 x0_13_89 x0_14_89 x0_15_89 x0_16 x0_17 x0_19 x0_20_89 x0_27_89 x0_28_89 x0_29 x0_30 x0_31 x0_32 x0_35 x0_36 x0_37 x0_44 x0_49 x0_50 a1 a2 a3 (upd a4_89 ((((121 : Int32) * u89_1) + (0 : Int32)) + u89_2).toNatClampNeg x0_12_89) a5 a6 a7_89 a8_89 a9_89 a10_89 a11_89 a12_89) := hD
      refine lv_aload_n hx hb dX11_readColumn_114 rfl (lv_at hl 0 rfl) ?_
      obtain ⟨⟨r_115_2_x0_9, r_115_2_x0_10, r_115_2_x0_11, r_115_2_x0_12, r_115_2_x0_13⟩, hc_r_115_2, hf⟩ := of_bnd hf
      refine cl_Vv (w2 := (wW_X11_readColumn G h0 h1 h2 h3 h4 h5 h6 h7 h8 h9 h10 h11 h12 y0_0 y0_33 y0_34 y0_38 y0_39 y0_40 y0_41 y0_42 y0_43 y0_45 y0_46 y0_47 y0_48 x0_5 x0_7 x0_8 r_115_2_x0_9 r_115_2_x0_10 r_115_2_x0_11 r_115_2_x0_12 r_115_2_x0_13 x0_14_89 x0_15_89 x0_16 x0_17 x0_19 x0_20_89 x0_27_89 x0_28_89 x0_29 x0_30 x0_31 x0_32 x0_35 x0_36 x0_37 x0_44 x0_49 x0_50 a1 a2 a3 (upd a4_89 ((((121 : Int32) * u89_1) + (0 : Int32)) + u89_2).toNatClampNeg x0_12_89) a5 a6 a7_89 a8_89 a9_89 a10_89 a11_89 a12_89)) (As := []) (rest := []) ⟨hx, hb, hml, hown, ht0⟩ (c_X11_scan l G h0 h5 h6 y0_0 h1 h2 h3 h4 h7 h8 h9 h10 h11 h12 y0_33 y0_34 y0_38 y0_39 y0_40 y0_41 y0_42 y0_43 y0_45 y0_46 y0_47 y0_48 _ x0_5 x0_7 x0_8 x0_9_89 x0_10_89 x0_11_89 x0_12_89 x0_13_89 x0_14_89 x0_15_89 x0_16 x0_17 x0_19 x0_20_89 x0_27_89 x0_28_89 x0_29 x0_30 x0_31 x0_32 x0_35 x0_36 x0_37 x0_44 x0_49 x0_50 a5 a6 F _ _ _ _ _ hc_r_115_2) yk_X11_scan wd_1270 ⟨rfl, rfl, by decide, by decide⟩ ⟨Nat.le_refl _, Nat.le_refl _⟩ hX hK hP hD hS hA [0, 5, 6] [1, 2, 3, 4, 7, 8, 9, 10, 11, 12] [10, 0, 1, 2, 3, 11, 12, 4, 5, 6, 7, 8, 9] (va_recv hK hP (ci := 11) (q0 := 0) rfl rfl) rfl rfl (by decide) rfl rfl rfl rfl rfl hl.1 rfl (Nat.le_of_ble_eq_true rfl) dX11_readColumn_115 (fun H locs hP hD hS => ?_)
      cases hf
      exact ret_v hx hb hr hlk hK hP hD hS dX11_readColumn_118
    · have hf := of_neg hf c1
      cases hf
      exact ret_v hx hb hr hlk hK hP hD hS dX11_readColumn_96
  have kJ84 : ∀ (u84_1 : Int32) (u84_2 : Int32) (x0_9_84 : Int32) (x0_10_84 : Int32) (x0_11_84 : Int32) (x0_12_84 : Int32) (x0_13_84 : Int32) (x0_14_84 : Int32) (x0_15_84 : Int32) (x0_20_84 : Int32) (x0_27_84 : Int32) (x0_28_84 : Int32) (a4_84 : Nat → Int32) (a7_84 : Nat → Int32) (a8_84 : Nat → Int32) (a9_84 : Nat → Int32) (a10_84 : Nat → Int32) (a11_84 : Nat → Int32) (a12_84 : Nat → Int32), p_X11_readColumn_J84 F x0_8 a1 a2 a3 a5 a6 u84_1 u84_2 x0_9_84 x0_10_84 x0_11_84 x0_12_84 x0_13_84 x0_14_84 x0_15_84 x0_20_84 x0_27_84 x0_28_84 a4_84 a7_84 a8_84 a9_84 a10_84 a11_84 a12_84 = some (e_x0_9, e_x0_10, e_x0_11, e_x0_12, e_x0_13, e_x0_14, e_x0_15, e_x0_20, e_x0_27, e_x0_28, e_a4, e_a7, e_a8, e_a9, e_a10, e_a11, e_a12) → ∀ (H : Heap) (locs : List Loc), va_P G.1 vwCl (wW_X11_readColumn G h0 h1 h2 h3 h4 h5 h6 h7 h8 h9 h10 h11 h12 y0_0 y0_33 y0_34 y0_38 y0_39 y0_40 y0_41 y0_42 y0_43 y0_45 y0_46 y0_47 y0_48 x0_5 x0_7 x0_8 x0_9_84 x0_10_84 x0_11_84 x0_12_84 x0_13_84 x0_14_84 x0_15_84 x0_16 x0_17 x0_19 x0_20_84 x0_27_84 x0_28_84 x0_29 x0_30 x0_31 x0_32 x0_35 x0_36 x0_37 x0_44 x0_49 x0_50 a1 a2 a3 a4_84 a5 a6 a7_84 a8_84 a9_84 a10_84 a11_84 a12_84) H → va_D A (wW_X11_readColumn G h0 h1 h2 h3 h4 h5 h6 h7 h8 h9 h10 h11 h12 y0_0 y0_33 y0_34 y0_38 y0_39 y0_40 y0_41 y0_42 y0_43 y0_45 y0_46 y0_47 y0_48 x0_5 x0_7 x0_8 x0_9_84 x0_10_84 x0_11_84 x0_12_84 x0_13_84 x0_14_84 x0_15_84 x0_16 x0_17 x0_19 x0_20_84 x0_27_84 x0_28_84 x0_29 x0_30 x0_31 x0_32 x0_35 x0_36 x0_37 x0_44 x0_49 x0_50 a1 a2 a3 a4_84 a5 a6 a7_84 a8_84 a9_84 a10_84 a11_84 a12_84) → va_S A s.heap H locs → ∀ ls : Array Slot, lv_has ls 3 [(0, .ref h0), (1, .int u84_1), (2, .int u84_2)] → W p l e ({ frames := 4, cells := 0, slots := 0, locals := 95 } : Room) s m (List.toArray [.ref h0, .int b1]) below meth c H locs 0 0 (MQ below (QvS G A (wW_X11_readColumn G h0 h1 h2 h3 h4 h5 h6 h7 h8 h9 h10 h11 h12 y0_0 y0_33 y0_34 y0_38 y0_39 y0_40 y0_41 y0_42 y0_43 y0_45 y0_46 y0_47 y0_48 x0_5 x0_7 x0_8 e_x0_9 e_x0_10 e_x0_11 e_x0_12 e_x0_13 e_x0_14 e_x0_15 x0_16 x0_17 x0_19 e_x0_20 e_x0_27 e_x0_28 x0_29 x0_30 x0_31 x0_32 x0_35 x0_36 x0_37 x0_44 x0_49 x0_50 a1 a2 a3 e_a4 a5 a6 e_a7 e_a8 e_a9 e_a10 e_a11 e_a12)) (List.toArray [.ref h0, .int b1]) s 0 0 A) (F0 m 84 ls []) := by
    intro u84_1 u84_2 x0_9_84 x0_10_84 x0_11_84 x0_12_84 x0_13_84 x0_14_84 x0_15_84 x0_20_84 x0_27_84 x0_28_84 a4_84 a7_84 a8_84 a9_84 a10_84 a11_84 a12_84 hf H locs hP hD hS ls hl
    refine lv_aload_n hx hb dX11_readColumn_84 rfl (lv_at hl 0 rfl) ?_
    refine lv_iconst (v := (2 : Int32)) hx hb dX11_readColumn_85 (by decide) ?_
    obtain ⟨⟨r_86_3_x0_14, r_86_3_x0_15⟩, hc_r_86_3, hf⟩ := of_bnd hf
    refine cl_Vv (w2 := (wW_X11_readColumn G h0 h1 h2 h3 h4 h5 h6 h7 h8 h9 h10 h11 h12 y0_0 y0_33 y0_34 y0_38 y0_39 y0_40 y0_41 y0_42 y0_43 y0_45 y0_46 y0_47 y0_48 x0_5 x0_7 x0_8 x0_9_84 x0_10_84 x0_11_84 x0_12_84 x0_13_84 r_86_3_x0_14 r_86_3_x0_15 x0_16 x0_17 x0_19 x0_20_84 x0_27_84 x0_28_84 x0_29 x0_30 x0_31 x0_32 x0_35 x0_36 x0_37 x0_44 x0_49 x0_50 a1 a2 a3 a4_84 a5 a6 a7_84 a8_84 a9_84 a10_84 a11_84 a12_84)) (As := [.int (2 : Int32)]) (rest := []) ⟨hx, hb, hml, hown, ht0⟩ (c_X11_fail l G h0 y0_0 h1 h2 h3 h4 h5 h6 h7 h8 h9 h10 h11 h12 y0_33 y0_34 y0_38 y0_39 y0_40 y0_41 y0_42 y0_43 y0_45 y0_46 y0_47 y0_48 _ x0_5 x0_7 x0_8 x0_9_84 x0_10_84 x0_11_84 x0_12_84 x0_13_84 x0_14_84 x0_15_84 x0_16 x0_17 x0_19 x0_20_84 x0_27_84 x0_28_84 x0_29 x0_30 x0_31 x0_32 x0_35 x0_36 x0_37 x0_44 x0_49 x0_50 F (2 : Int32) _ _ hc_r_86_3) yk_X11_fail wd_1313 ⟨rfl, rfl, by decide, by decide⟩ ⟨Nat.le_refl _, Nat.le_refl _⟩ hX hK hP hD hS hA [0] [1, 2, 3, 4, 5, 6, 7, 8, 9, 10, 11, 12] [12, 0, 1, 2, 3, 4, 5, 6, 7, 8, 9, 10, 11] (va_recv hK hP (ci := 11) (q0 := 0) rfl rfl) rfl rfl (by decide) rfl rfl rfl rfl rfl hl.1 rfl (Nat.le_of_ble_eq_true rfl) dX11_readColumn_86 (fun H locs hP hD hS => ?_)
    exact kJ89 _ _ _ _ _ _ _ _ _ _ _ _ _ _ _ _ _ _ _ hf _ _ hP hD hS _ (lv_sub hl [0, 1, 2] rfl)
  refine lv_aload_n hx hb dX11_readColumn_0 rfl (lv_at hl 0 rfl) ?_
  refine lv_iload_n hx hb dX11_readColumn_1 rfl (lv_at hl 1 rfl) ?_
  obtain ⟨⟨r_2_4_x0_14, r_2_4_x0_15, r_2_4_x0_20, r_2_4_x0_27, r_2_4_x0_28, r_2_4_a4, r_2_4_a5, r_2_4_a6, r_2_4_a7, r_2_4_a8, r_2_4_a9, r_2_4_a10⟩, hc_r_2_4, hf⟩ := of_bnd hf
  refine cl_Vv (w2 := (wW_X11_readColumn G h0 h1 h2 h3 h4 h5 h6 h7 h8 h9 h10 h11 h12 y0_0 y0_33 y0_34 y0_38 y0_39 y0_40 y0_41 y0_42 y0_43 y0_45 y0_46 y0_47 y0_48 x0_5 x0_7 x0_8 x0_9 x0_10 x0_11 x0_12 x0_13 r_2_4_x0_14 r_2_4_x0_15 x0_16 x0_17 x0_19 r_2_4_x0_20 r_2_4_x0_27 r_2_4_x0_28 x0_29 x0_30 x0_31 x0_32 x0_35 x0_36 x0_37 x0_44 x0_49 x0_50 a1 a2 a3 r_2_4_a4 a5 a6 r_2_4_a5 r_2_4_a6 r_2_4_a7 r_2_4_a8 r_2_4_a9 r_2_4_a10)) (As := [.int b1]) (rest := []) ⟨hx, hb, hml, hown, ht0⟩ (c_X11_chooses l G h0 h1 h2 h3 h4 h7 h8 h9 h10 h11 h12 y0_0 h5 h6 y0_33 y0_34 y0_38 y0_39 y0_40 y0_41 y0_42 y0_43 y0_45 y0_46 y0_47 y0_48 _ x0_5 x0_7 x0_8 x0_9 x0_10 x0_11 x0_12 x0_13 x0_14 x0_15 x0_16 x0_17 x0_19 x0_20 x0_27 x0_28 x0_29 x0_30 x0_31 x0_32 x0_35 x0_36 x0_37 x0_44 x0_49 x0_50 a1 a2 a3 a4 a7 a8 a9 a10 a11 a12 F b1 _ _ _ _ _ _ _ _ _ _ _ _ hc_r_2_4) yk_X11_chooses wd_1332 ⟨rfl, rfl, by decide, by decide⟩ ⟨Nat.le_refl _, Nat.le_refl _⟩ hX hK hP hD hS hA [0, 1, 2, 3, 4, 7, 8, 9, 10, 11, 12] [5, 6] [2, 3, 4, 5, 6, 0, 1, 7, 8, 9, 10, 11, 12] (va_recv hK hP (ci := 11) (q0 := 0) rfl rfl) rfl rfl (by decide) rfl rfl rfl rfl rfl hl.1 rfl (Nat.le_of_ble_eq_true rfl) dX11_readColumn_2 (fun H locs hP hD hS => ?_)
  refine lv_aload_n hx hb dX11_readColumn_5 rfl (lv_at hl 0 rfl) ?_
  refine va_get (ci := 11) (v := .int r_2_4_x0_14) (C := RX11) (T := TX11) (N := 51) hx hb ht0 iX11 hown hK hP 0 rfl rfl 14 (by decide) (ht0 _ wd_1420) (fun _ h9 => h9) rfl dX11_readColumn_6 ?_
  refine lv_if_le (tgt := 13) hx hb dX11_readColumn_9 (by decide) (fun c6 => ?_) (fun c6 => ?_)
  · have hf := of_pos hf c6
    refine lv_aload_n hx hb dX11_readColumn_13 rfl (lv_at hl 0 rfl) ?_
    obtain ⟨⟨r_14_6_x0_9, r_14_6_x0_10, r_14_6_x0_11, r_14_6_x0_12, r_14_6_x0_13⟩, hc_r_14_6, hf⟩ := of_bnd hf
    refine cl_Vv (w2 := (wW_X11_readColumn G h0 h1 h2 h3 h4 h5 h6 h7 h8 h9 h10 h11 h12 y0_0 y0_33 y0_34 y0_38 y0_39 y0_40 y0_41 y0_42 y0_43 y0_45 y0_46 y0_47 y0_48 x0_5 x0_7 x0_8 r_14_6_x0_9 r_14_6_x0_10 r_14_6_x0_11 r_14_6_x0_12 r_14_6_x0_13 r_2_4_x0_14 r_2_4_x0_15 x0_16 x0_17 x0_19 r_2_4_x0_20 r_2_4_x0_27 r_2_4_x0_28 x0_29 x0_30 x0_31 x0_32 x0_35 x0_36 x0_37 x0_44 x0_49 x0_50 a1 a2 a3 r_2_4_a4 a5 a6 r_2_4_a5 r_2_4_a6 r_2_4_a7 r_2_4_a8 r_2_4_a9 r_2_4_a10)) (As := []) (rest := []) ⟨hx, hb, hml, hown, ht0⟩ (c_X11_scan l G h0 h5 h6 y0_0 h1 h2 h3 h4 h7 h8 h9 h10 h11 h12 y0_33 y0_34 y0_38 y0_39 y0_40 y0_41 y0_42 y0_43 y0_45 y0_46 y0_47 y0_48 _ x0_5 x0_7 x0_8 x0_9 x0_10 x0_11 x0_12 x0_13 r_2_4_x0_14 r_2_4_x0_15 x0_16 x0_17 x0_19 r_2_4_x0_20 r_2_4_x0_27 r_2_4_x0_28 x0_29 x0_30 x0_31 x0_32 x0_35 x0_36 x0_37 x0_44 x0_49 x0_50 a5 a6 F _ _ _ _ _ hc_r_14_6) yk_X11_scan wd_1270 ⟨rfl, rfl, by decide, by decide⟩ ⟨Nat.le_refl _, Nat.le_refl _⟩ hX hK hP hD hS hA [0, 5, 6] [1, 2, 3, 4, 7, 8, 9, 10, 11, 12] [10, 0, 1, 2, 3, 11, 12, 4, 5, 6, 7, 8, 9] (va_recv hK hP (ci := 11) (q0 := 0) rfl rfl) rfl rfl (by decide) rfl rfl rfl rfl rfl hl.1 rfl (Nat.le_of_ble_eq_true rfl) dX11_readColumn_14 (fun H locs hP hD hS => ?_)
    refine lv_aload_n hx hb dX11_readColumn_17 rfl (lv_at hl 0 rfl) ?_
    refine lv_iconst (v := (0 : Int32)) hx hb dX11_readColumn_18 (by decide) ?_
    refine lv_aload_n hx hb dX11_readColumn_19 rfl (lv_at hl 0 rfl) ?_
    refine va_get (ci := 11) (v := .ref h1) (C := RX11) (T := TX11) (N := 51) hx hb ht0 iX11 hown hK hP 0 rfl rfl 1 (by decide) (ht0 _ wd_1407) (fun _ h9 => h9) rfl dX11_readColumn_20 ?_
    refine lv_iload_n hx hb dX11_readColumn_23 rfl (lv_at hl 1 rfl) ?_
    obtain ⟨g8, hf⟩ := of_grd hf
    refine va_iald hx hb hK hP 1 0 rfl rfl g8 dX11_readColumn_24 ?_
    refine lv_iconst (v := (1 : Int32)) hx hb dX11_readColumn_25 (by decide) ?_
    refine lv_isub hx hb dX11_readColumn_26 ?_
    obtain ⟨⟨r_27_8, r_27_8_x0_9, r_27_8_x0_10, r_27_8_x0_11, r_27_8_x0_12, r_27_8_x0_13, r_27_8_x0_14, r_27_8_x0_15⟩, hc_r_27_8, hf⟩ := of_bnd hf
    refine cl_Vi (w2 := (wW_X11_readColumn G h0 h1 h2 h3 h4 h5 h6 h7 h8 h9 h10 h11 h12 y0_0 y0_33 y0_34 y0_38 y0_39 y0_40 y0_41 y0_42 y0_43 y0_45 y0_46 y0_47 y0_48 x0_5 x0_7 x0_8 r_27_8_x0_9 r_27_8_x0_10 r_27_8_x0_11 r_27_8_x0_12 r_27_8_x0_13 r_27_8_x0_14 r_27_8_x0_15 x0_16 x0_17 x0_19 r_2_4_x0_20 r_2_4_x0_27 r_2_4_x0_28 x0_29 x0_30 x0_31 x0_32 x0_35 x0_36 x0_37 x0_44 x0_49 x0_50 a1 a2 a3 r_2_4_a4 a5 a6 r_2_4_a5 r_2_4_a6 r_2_4_a7 r_2_4_a8 r_2_4_a9 r_2_4_a10)) (As := [.int (0 : Int32), .int ((a1 b1.toNatClampNeg) - (1 : Int32))]) (rest := []) ⟨hx, hb, hml, hown, ht0⟩ (c_X11_numeral l G h0 h5 h6 y0_0 h1 h2 h3 h4 h7 h8 h9 h10 h11 h12 y0_33 y0_34 y0_38 y0_39 y0_40 y0_41 y0_42 y0_43 y0_45 y0_46 y0_47 y0_48 _ x0_5 x0_7 x0_8 r_14_6_x0_9 r_14_6_x0_10 r_14_6_x0_11 r_14_6_x0_12 r_14_6_x0_13 r_2_4_x0_14 r_2_4_x0_15 x0_16 x0_17 x0_19 r_2_4_x0_20 r_2_4_x0_27 r_2_4_x0_28 x0_29 x0_30 x0_31 x0_32 x0_35 x0_36 x0_37 x0_44 x0_49 x0_50 a5 a6 F (0 : Int32) ((a1 b1.toNatClampNeg) - (1 : Int32)) _ _ _ _ _ _ _ _ hc_r_27_8) yk_X11_numeral wd_1317 ⟨rfl, rfl, by decide, by decide⟩ ⟨Nat.le_refl _, Nat.le_refl _⟩ hX hK hP hD hS hA [0, 5, 6] [1, 2, 3, 4, 7, 8, 9, 10, 11, 12] [10, 0, 1, 2, 3, 11, 12, 4, 5, 6, 7, 8, 9] (va_recv hK hP (ci := 11) (q0 := 0) rfl rfl) rfl rfl (by decide) rfl rfl rfl rfl rfl hl.1 rfl (Nat.le_of_ble_eq_true rfl) dX11_readColumn_27 (fun H locs hP hD hS => ?_)
    refine lv_istore_n (lv' := [(2, .int r_27_8), (0, .ref h0), (1, .int b1)]) hx hb dX11_readColumn_30 rfl hl (by decide) rfl (fun ls hl => ?_)
    refine lv_aload_n hx hb dX11_readColumn_31 rfl (lv_at hl 1 rfl) ?_
    refine va_get (ci := 11) (v := .int r_27_8_x0_14) (C := RX11) (T := TX11) (N := 51) hx hb ht0 iX11 hown hK hP 0 rfl rfl 14 (by decide) (ht0 _ wd_1420) (fun _ h9 => h9) rfl dX11_readColumn_32 ?_
    refine lv_if_le (tgt := 39) hx hb dX11_readColumn_35 (by decide) (fun c10 => ?_) (fun c10 => ?_)
    · have hf := of_pos hf c10
      refine lv_aload_n hx hb dX11_readColumn_39 rfl (lv_at hl 1 rfl) ?_
      refine va_get (ci := 11) (v := .int r_27_8_x0_11) (C := RX11) (T := TX11) (N := 51) hx hb ht0 iX11 hown hK hP 0 rfl rfl 11 (by decide) (ht0 _ wd_1417) (fun _ h9 => h9) rfl dX11_readColumn_40 ?_
      refine lv_iconst (v := (3 : Int32)) hx hb dX11_readColumn_43 (by decide) ?_
      refine lv_icmp_eq (tgt := 55) hx hb dX11_readColumn_44 (by decide) (fun c11 => ?_) (fun c11 => ?_)
      · have hf := of_pos hf c11
        refine lv_aload_n hx hb dX11_readColumn_55 rfl (lv_at hl 1 rfl) ?_
        refine va_get (ci := 11) (v := .int r_27_8_x0_12) (C := RX11) (T := TX11) (N := 51) hx hb ht0 iX11 hown hK hP 0 rfl rfl 12 (by decide) (ht0 _ wd_1418) (fun _ h9 => h9) rfl dX11_readColumn_56 ?_
        refine lv_aload_n hx hb dX11_readColumn_59 rfl (lv_at hl 1 rfl) ?_
        refine va_get (ci := 11) (v := .ref h2) (C := RX11) (T := TX11) (N := 51) hx hb ht0 iX11 hown hK hP 0 rfl rfl 2 (by decide) (ht0 _ wd_1408) (fun _ h9 => h9) rfl dX11_readColumn_60 ?_
        refine lv_iload_n hx hb dX11_readColumn_63 rfl (lv_at hl 2 rfl) ?_
        obtain ⟨g12, hf⟩ := of_grd hf
        refine va_iald hx hb hK hP 2 0 rfl rfl g12 dX11_readColumn_64 ?_
        obtain ⟨r_65_12, hc_r_65_12, hf⟩ := of_bnd hf
        refine cl_Si (w2 := (wW_X11_readColumn G h0 h1 h2 h3 h4 h5 h6 h7 h8 h9 h10 h11 h12 y0_0 y0_33 y0_34 y0_38 y0_39 y0_40 y0_41 y0_42 y0_43 y0_45 y0_46 y0_47 y0_48 x0_5 x0_7 x0_8 r_27_8_x0_9 r_27_8_x0_10 r_27_8_x0_11 r_27_8_x0_12 r_27_8_x0_13 r_27_8_x0_14 r_27_8_x0_15 x0_16 x0_17 x0_19 r_2_4_x0_20 r_2_4_x0_27 r_2_4_x0_28 x0_29 x0_30 x0_31 x0_32 x0_35 x0_36 x0_37 x0_44 x0_49 x0_50 a1 a2 a3 r_2_4_a4 a5 a6 r_2_4_a5 r_2_4_a6 r_2_4_a7 r_2_4_a8 r_2_4_a9 r_2_4_a10)) (As := [.int r_27_8_x0_12, .int (a2 b1.toNatClampNeg)]) (rest := []) ⟨hx, hb, hml, hown, ht0⟩ (c_X11_isOfData l G _ F r_27_8_x0_12 (a2 b1.toNatClampNeg) _ hc_r_65_12) yk_X11_isOfData wd_1375 ⟨rfl, rfl, by decide, by decide⟩ ⟨Nat.le_refl _, Nat.le_refl _⟩ hX hK hP hD hS hA [] [0, 1, 2, 3, 4, 5, 6, 7, 8, 9, 10, 11, 12] [0, 1, 2, 3, 4, 5, 6, 7, 8, 9, 10, 11, 12] rfl rfl (by decide) rfl rfl rfl rfl rfl hl.1 rfl (Nat.le_of_ble_eq_true rfl) dX11_readColumn_65 (fun H locs hP hD hS => ?_)
        refine lv_if_eq (tgt := 84) hx hb dX11_readColumn_68 (by decide) (fun c14 => ?_) (fun c14 => ?_)
        · have hf := of_pos hf c14
          exact kJ84 _ _ _ _ _ _ _ _ _ _ _ _ _ _ _ _ _ _ _ hf _ _ hP hD hS _ (lv_sub hl [1, 2, 0] rfl)
        · have hf := of_neg hf c14
          refine lv_aload_n hx hb dX11_readColumn_71 rfl (lv_at hl 1 rfl) ?_
          refine lv_iload_n hx hb dX11_readColumn_72 rfl (lv_at hl 2 rfl) ?_
          refine lv_aload_n hx hb dX11_readColumn_73 rfl (lv_at hl 1 rfl) ?_
          refine va_get (ci := 11) (v := .int r_27_8_x0_12) (C := RX11) (T := TX11) (N := 51) hx hb ht0 iX11 hown hK hP 0 rfl rfl 12 (by decide) (ht0 _ wd_1418) (fun _ h9 => h9) rfl dX11_readColumn_74 ?_
          refine lv_iload_n hx hb dX11_readColumn_77 rfl (lv_at hl 0 rfl) ?_
          obtain ⟨r_78_14, hc_r_78_14, hf⟩ := of_bnd hf
          refine cl_Vi (w2 := (wW_X11_readColumn G h0 h1 h2 h3 h4 h5 h6 h7 h8 h9 h10 h11 h12 y0_0 y0_33 y0_34 y0_38 y0_39 y0_40 y0_41 y0_42 y0_43 y0_45 y0_46 y0_47 y0_48 x0_5 x0_7 x0_8 r_27_8_x0_9 r_27_8_x0_10 r_27_8_x0_11 r_27_8_x0_12 r_27_8_x0_13 r_27_8_x0_14 r_27_8_x0_15 x0_16 x0_17 x0_19 r_2_4_x0_20 r_2_4_x0_27 r_2_4_x0_28 x0_29 x0_30 x0_31 x0_32 x0_35 x0_36 x0_37 x0_44 x0_49 x0_50 a1 a2 a3 r_2_4_a4 a5 a6 r_2_4_a5 r_2_4_a6 r_2_4_a7 r_2_4_a8 r_2_4_a9 r_2_4_a10)) (As := [.int b1, .int r_27_8_x0_12, .int r_27_8]) (rest := []) ⟨hx, hb, hml, hown, ht0⟩ (c_X11_isElsewhere l G h0 h1 h4 y0_0 h2 h3 h5 h6 h7 h8 h9 h10 h11 h12 y0_33 y0_34 y0_38 y0_39 y0_40 y0_41 y0_42 y0_43 y0_45 y0_46 y0_47 y0_48 _ x0_5 x0_7 x0_8 r_27_8_x0_9 r_27_8_x0_10 r_27_8_x0_11 r_27_8_x0_12 r_27_8_x0_13 r_27_8_x0_14 r_27_8_x0_15 x0_16 x0_17 x0_19 r_2_4_x0_20 r_2_4_x0_27 r_2_4_x0_28 x0_29 x0_30 x0_31 x0_32 x0_35 x0_36 x0_37 x0_44 x0_49 x0_50 a1 r_2_4_a4 F b1 r_27_8_x0_12 r_27_8 _ hc_r_78_14) yk_X11_isElsewhere wd_1378 ⟨rfl, rfl, by decide, by decide⟩ ⟨Nat.le_refl _, Nat.le_refl _⟩ hX hK hP hD hS hA [0, 1, 4] [2, 3, 5, 6, 7, 8, 9, 10, 11, 12] [10, 11, 0, 1, 12, 2, 3, 4, 5, 6, 7, 8, 9] (va_recv hK hP (ci := 11) (q0 := 0) rfl rfl) rfl rfl (by decide) rfl rfl rfl rfl rfl hl.1 rfl (Nat.le_of_ble_eq_true rfl) dX11_readColumn_78 (fun H locs hP hD hS => ?_)
          refine lv_if_eq (tgt := 89) hx hb dX11_readColumn_81 (by decide) (fun c16 => ?_) (fun c16 => ?_)
          · have hf := of_pos hf c16
            exact kJ89 _ _ _ _ _ _ _ _ _ _ _ _ _ _ _ _ _ _ _ hf _ _ hP hD hS _ (lv_sub hl [1, 2, 0] rfl)
          · have hf := of_neg hf c16
            exact kJ84 _ _ _ _ _ _ _ _ _ _ _ _ _ _ _ _ _ _ _ hf _ _ hP hD hS _ (lv_sub hl [1, 2, 0] rfl)
      · have hf := of_neg hf c11
        refine lv_aload_n hx hb dX11_readColumn_47 rfl (lv_at hl 1 rfl) ?_
        refine lv_iconst (v := (1 : Int32)) hx hb dX11_readColumn_48 (by decide) ?_
        obtain ⟨⟨r_49_16_x0_14, r_49_16_x0_15⟩, hc_r_49_16, hf⟩ := of_bnd hf
        refine cl_Vv (w2 := (wW_X11_readColumn G h0 h1 h2 h3 h4 h5 h6 h7 h8 h9 h10 h11 h12 y0_0 y0_33 y0_34 y0_38 y0_39 y0_40 y0_41 y0_42 y0_43 y0_45 y0_46 y0_47 y0_48 x0_5 x0_7 x0_8 r_27_8_x0_9 r_27_8_x0_10 r_27_8_x0_11 r_27_8_x0_12 r_27_8_x0_13 r_49_16_x0_14 r_49_16_x0_15 x0_16 x0_17 x0_19 r_2_4_x0_20 r_2_4_x0_27 r_2_4_x0_28 x0_29 x0_30 x0_31 x0_32 x0_35 x0_36 x0_37 x0_44 x0_49 x0_50 a1 a2 a3 r_2_4_a4 a5 a6 r_2_4_a5 r_2_4_a6 r_2_4_a7 r_2_4_a8 r_2_4_a9 r_2_4_a10)) (As := [.int (1 : Int32)]) (rest := []) ⟨hx, hb, hml, hown, ht0⟩ (c_X11_fail l G h0 y0_0 h1 h2 h3 h4 h5 h6 h7 h8 h9 h10 h11 h12 y0_33 y0_34 y0_38 y0_39 y0_40 y0_41 y0_42 y0_43 y0_45 y0_46 y0_47 y0_48 _ x0_5 x0_7 x0_8 r_27_8_x0_9 r_27_8_x0_10 r_27_8_x0_11 r_27_8_x0_12 r_27_8_x0_13 r_27_8_x0_14 r_27_8_x0_15 x0_16 x0_17 x0_19 r_2_4_x0_20 r_2_4_x0_27 r_2_4_x0_28 x0_29 x0_30 x0_31 x0_32 x0_35 x0_36 x0_37 x0_44 x0_49 x0_50 F (1 : Int32) _ _ hc_r_49_16) yk_X11_fail wd_1313 ⟨rfl, rfl, by decide, by decide⟩ ⟨Nat.le_refl _, Nat.le_refl _⟩ hX hK hP hD hS hA [0] [1, 2, 3, 4, 5, 6, 7, 8, 9, 10, 11, 12] [12, 0, 1, 2, 3, 4, 5, 6, 7, 8, 9, 10, 11] (va_recv hK hP (ci := 11) (q0 := 0) rfl rfl) rfl rfl (by decide) rfl rfl rfl rfl rfl hl.1 rfl (Nat.le_of_ble_eq_true rfl) dX11_readColumn_49 (fun H locs hP hD hS => ?_)
        refine lv_goto (tgt := 89) hx hb dX11_readColumn_52 (by decide) ?_
        exact kJ89 _ _ _ _ _ _ _ _ _ _ _ _ _ _ _ _ _ _ _ hf _ _ hP hD hS _ (lv_sub hl [1, 2, 0] rfl)
    · have hf := of_neg hf c10
      cases hf
      exact ret_v hx hb hr hlk hK hP hD hS dX11_readColumn_38
  · have hf := of_neg hf c6
    cases hf
    exact ret_v hx hb hr hlk hK hP hD hS dX11_readColumn_12
theorem yk_X11_readColumn : ykV yX11_readColumn RX11 cX11_readColumn 3 none 1 := ⟨wd_1330, wd_53, wd_142, wd_1331, rfl, by decide +kernel, by decide +kernel, by decide +kernel⟩
theorem dX11_readWord_0 : decode cX11_readWord 0 = .ok (.aload_n 0, 1) := by decide +kernel
theorem dX11_readWord_1 : decode cX11_readWord 1 = .ok (.iload_n 1, 1) := by decide +kernel
theorem dX11_readWord_2 : decode cX11_readWord 2 = .ok (.invokevirtual 195, 3) := by decide +kernel
theorem dX11_readWord_5 : decode cX11_readWord 5 = .ok (.aload_n 0, 1) := by decide +kernel
theorem dX11_readWord_6 : decode cX11_readWord 6 = .ok (.getfield 111, 3) := by decide +kernel
theorem dX11_readWord_9 : decode cX11_readWord 9 = .ok (.ifCond .le 4, 3) := by decide +kernel
theorem dX11_readWord_12 : decode cX11_readWord 12 = .ok (.return_, 1) := by decide +kernel
theorem dX11_readWord_13 : decode cX11_readWord 13 = .ok (.aload_n 0, 1) := by decide +kernel
theorem dX11_readWord_14 : decode cX11_readWord 14 = .ok (.invokevirtual 167, 3) := by decide +kernel
theorem dX11_readWord_17 : decode cX11_readWord 17 = .ok (.aload_n 0, 1) := by decide +kernel
theorem dX11_readWord_18 : decode cX11_readWord 18 = .ok (.iconst 0, 1) := by decide +kernel
theorem dX11_readWord_19 : decode cX11_readWord 19 = .ok (.bipush 15, 2) := by decide +kernel
theorem dX11_readWord_21 : decode cX11_readWord 21 = .ok (.invokevirtual 176, 3) := by decide +kernel
theorem dX11_readWord_24 : decode cX11_readWord 24 = .ok (.istore_n 2, 1) := by decide +kernel
theorem dX11_readWord_25 : decode cX11_readWord 25 = .ok (.aload_n 0, 1) := by decide +kernel
theorem dX11_readWord_26 : decode cX11_readWord 26 = .ok (.iconst 0, 1) := by decide +kernel
theorem dX11_readWord_27 : decode cX11_readWord 27 = .ok (.iconst 1, 1) := by decide +kernel
theorem dX11_readWord_28 : decode cX11_readWord 28 = .ok (.aload_n 0, 1) := by decide +kernel
theorem dX11_readWord_29 : decode cX11_readWord 29 = .ok (.getfield 13, 3) := by decide +kernel
theorem dX11_readWord_32 : decode cX11_readWord 32 = .ok (.iload_n 1, 1) := by decide +kernel
theorem dX11_readWord_33 : decode cX11_readWord 33 = .ok (.iaload, 1) := by decide +kernel
theorem dX11_readWord_34 : decode cX11_readWord 34 = .ok (.ishl, 1) := by decide +kernel
theorem dX11_readWord_35 : decode cX11_readWord 35 = .ok (.iconst 1, 1) := by decide +kernel
theorem dX11_readWord_36 : decode cX11_readWord 36 = .ok (.isub, 1) := by decide +kernel
theorem dX11_readWord_37 : decode cX11_readWord 37 = .ok (.invokevirtual 176, 3) := by decide +kernel
theorem dX11_readWord_40 : decode cX11_readWord 40 = .ok (.istore_n 3, 1) := by decide +kernel
theorem dX11_readWord_41 : decode cX11_readWord 41 = .ok (.aload_n 0, 1) := by decide +kernel
theorem dX11_readWord_42 : decode cX11_readWord 42 = .ok (.getfield 111, 3) := by decide +kernel
theorem dX11_readWord_45 : decode cX11_readWord 45 = .ok (.ifCond .ne 18, 3) := by decide +kernel
theorem dX11_readWord_48 : decode cX11_readWord 48 = .ok (.aload_n 0, 1) := by decide +kernel
theorem dX11_readWord_49 : decode cX11_readWord 49 = .ok (.getfield 22, 3) := by decide +kernel
theorem dX11_readWord_52 : decode cX11_readWord 52 = .ok (.bipush 121, 2) := by decide +kernel
theorem dX11_readWord_54 : decode cX11_readWord 54 = .ok (.iload_n 1, 1) := by decide +kernel
theorem dX11_readWord_55 : decode cX11_readWord 55 = .ok (.imul, 1) := by decide +kernel
theorem dX11_readWord_56 : decode cX11_readWord 56 = .ok (.bipush 65, 2) := by decide +kernel
theorem dX11_readWord_58 : decode cX11_readWord 58 = .ok (.iadd, 1) := by decide +kernel
theorem dX11_readWord_59 : decode cX11_readWord 59 = .ok (.iload_n 2, 1) := by decide +kernel
theorem dX11_readWord_60 : decode cX11_readWord 60 = .ok (.iadd, 1) := by decide +kernel
theorem dX11_readWord_61 : decode cX11_readWord 61 = .ok (.iload_n 3, 1) := by decide +kernel
theorem dX11_readWord_62 : decode cX11_readWord 62 = .ok (.iastore, 1) := by decide +kernel
theorem dX11_readWord_63 : decode cX11_readWord 63 = .ok (.return_, 1) := by decide +kernel
def wW_X11_readWord (G : GG) (h0 h1 h2 h3 h4 h5 h6 h7 h8 h9 h10 h11 h12 y0_0 y0_33 y0_34 y0_38 y0_39 y0_40 y0_41 y0_42 y0_43 y0_45 y0_46 y0_47 y0_48 : Nat) (x0_5 : Int32) (x0_7 : Int32) (x0_8 : Int32) (x0_9 : Int32) (x0_10 : Int32) (x0_11 : Int32) (x0_12 : Int32) (x0_13 : Int32) (x0_14 : Int32) (x0_15 : Int32) (x0_16 : Int32) (x0_17 : Int32) (x0_19 : Int32) (x0_20 : Int32) (x0_27 : Int32) (x0_28 : Int32) (x0_29 : Int32) (x0_30 : Int32) (x0_31 : Int32) (x0_32 : Int32) (x0_35 : Int32) (x0_36 : Int32) (x0_37 : Int32) (x0_44 : Int32) (x0_49 : Int32) (x0_50 : Int32) (a1 : Nat → Int32) (a2 : Nat → Int32) (a3 : Nat → Int32) (a4 : Nat → Int32) (a5 : Nat → Int32) (a6 : Nat → Int32) (a7 : Nat → Int32) (a8 : Nat → Int32) (a9 : Nat → Int32) (a10 : Nat → Int32) (a11 : Nat → Int32) (a12 : Nat → Int32) : va_W := [(h0, .inr (11, [.ref y0_0, .ref h1, .ref h2, .ref h3, .ref h4, .int x0_5, .ref h5, .int x0_7, .int x0_8, .int x0_9, .int x0_10, .int x0_11, .int x0_12, .int x0_13, .int x0_14, .int x0_15, .int x0_16, .int x0_17, .ref h6, .int x0_19, .int x0_20, .ref h7, .ref h8, .ref h9, .ref h10, .ref h11, .ref h12, .int x0_27, .int x0_28, .int x0_29, .int x0_30, .int x0_31, .int x0_32, .ref y0_33, .ref y0_34, .int x0_35, .int x0_36, .int x0_37, .ref y0_38, .ref y0_39, .ref y0_40, .ref y0_41, .ref y0_42, .ref y0_43, .int x0_44, .ref y0_45, .ref y0_46, .ref y0_47, .ref y0_48, .int x0_49, .int x0_50])), (h1, .inl (G.2.1, 2, .inl a1)), (h2, .inl (G.2.1, 2, .inl a2)), (h3, .inl (G.2.1, 2, .inl a3)), (h4, .inl (G.2.1, 242, .inl a4)), (h5, .inl (G.2.2.2.1, 600, .inl a5)), (h6, .inl (G.2.2.2.1, 56, .inl a6)), (h7, .inl (G.2.1, 128, .inl a7)), (h8, .inl (G.2.1, 32, .inl a8)), (h9, .inl (G.2.1, 32, .inl a9)), (h10, .inl (G.2.1, 8, .inl a10)), (h11, .inl (G.2.2.1, 256, .inl a11)), (h12, .inl (G.2.2.1, 256, .inl a12))]
set_option maxHeartbeats 4000000 in
set_option maxRecDepth 100000 in
theorem c_X11_readWord (l : Launch) (G : GG) (h0 h1 h2 h3 h4 h5 h6 h7 h8 h9 h10 h11 h12 y0_0 y0_33 y0_34 y0_38 y0_39 y0_40 y0_41 y0_42 y0_43 y0_45 y0_46 y0_47 y0_48 : Nat) (sz : Nat) (x0_5 : Int32) (x0_7 : Int32) (x0_8 : Int32) (x0_9 : Int32) (x0_10 : Int32) (x0_11 : Int32) (x0_12 : Int32) (x0_13 : Int32) (x0_14 : Int32) (x0_15 : Int32) (x0_16 : Int32) (x0_17 : Int32) (x0_19 : Int32) (x0_20 : Int32) (x0_27 : Int32) (x0_28 : Int32) (x0_29 : Int32) (x0_30 : Int32) (x0_31 : Int32) (x0_32 : Int32) (x0_35 : Int32) (x0_36 : Int32) (x0_37 : Int32) (x0_44 : Int32) (x0_49 : Int32) (x0_50 : Int32) (a1 : Nat → Int32) (a2 : Nat → Int32) (a3 : Nat → Int32) (a4 : Nat → Int32) (a5 : Nat → Int32) (a6 : Nat → Int32) (a7 : Nat → Int32) (a8 : Nat → Int32) (a9 : Nat → Int32) (a10 : Nat → Int32) (a11 : Nat → Int32) (a12 : Nat → Int32) (F : Nat) (b1 : Int32)  (e_x0_9 : Int32) (e_x0_10 : Int32) (e_x0_11 : Int32) (e_x0_12 : Int32) (e_x0_13 : Int32) (e_x0_14 : Int32) (e_x0_15 : Int32) (e_x0_20 : Int32) (e_x0_27 : Int32) (e_x0_28 : Int32) (e_a4 : Nat → Int32) (e_a7 : Nat → Int32) (e_a8 : Nat → Int32) (e_a9 : Nat → Int32) (e_a10 : Nat → Int32) (e_a11 : Nat → Int32) (e_a12 : Nat → Int32) (hf : p_X11_readWord F x0_8 x0_9 x0_10 x0_11 x0_12 x0_13 x0_14 x0_15 x0_20 x0_27 x0_28 a1 a2 a3 a4 a5 a6 a7 a8 a9 a10 a11 a12 b1 = some (e_x0_9, e_x0_10, e_x0_11, e_x0_12, e_x0_13, e_x0_14, e_x0_15, e_x0_20, e_x0_27, e_x0_28, e_a4, e_a7, e_a8, e_a9, e_a10, e_a11, e_a12)) : Met l yX11_readWord (.code yX11_readWord cX11_readWord 4 none :: gtbl) ({ frames := 4, cells := 0, slots := 0, locals := 95 } : Room) (PcS G [.ref h0, .int b1] (wW_X11_readWord G h0 h1 h2 h3 h4 h5 h6 h7 h8 h9 h10 h11 h12 y0_0 y0_33 y0_34 y0_38 y0_39 y0_40 y0_41 y0_42 y0_43 y0_45 y0_46 y0_47 y0_48 x0_5 x0_7 x0_8 x0_9 x0_10 x0_11 x0_12 x0_13 x0_14 x0_15 x0_16 x0_17 x0_19 x0_20 x0_27 x0_28 x0_29 x0_30 x0_31 x0_32 x0_35 x0_36 x0_37 x0_44 x0_49 x0_50 a1 a2 a3 a4 a5 a6 a7 a8 a9 a10 a11 a12) sz) (QvS G (va_A (wW_X11_readWord G h0 h1 h2 h3 h4 h5 h6 h7 h8 h9 h10 h11 h12 y0_0 y0_33 y0_34 y0_38 y0_39 y0_40 y0_41 y0_42 y0_43 y0_45 y0_46 y0_47 y0_48 x0_5 x0_7 x0_8 x0_9 x0_10 x0_11 x0_12 x0_13 x0_14 x0_15 x0_16 x0_17 x0_19 x0_20 x0_27 x0_28 x0_29 x0_30 x0_31 x0_32 x0_35 x0_36 x0_37 x0_44 x0_49 x0_50 a1 a2 a3 a4 a5 a6 a7 a8 a9 a10 a11 a12) sz) (wW_X11_readWord G h0 h1 h2 h3 h4 h5 h6 h7 h8 h9 h10 h11 h12 y0_0 y0_33 y0_34 y0_38 y0_39 y0_40 y0_41 y0_42 y0_43 y0_45 y0_46 y0_47 y0_48 x0_5 x0_7 x0_8 e_x0_9 e_x0_10 e_x0_11 e_x0_12 e_x0_13 e_x0_14 e_x0_15 x0_16 x0_17 x0_19 e_x0_20 e_x0_27 e_x0_28 x0_29 x0_30 x0_31 x0_32 x0_35 x0_36 x0_37 x0_44 x0_49 x0_50 a1 a2 a3 e_a4 a5 a6 e_a7 e_a8 e_a9 e_a10 e_a11 e_a12)) 0 0 (va_A (wW_X11_readWord G h0 h1 h2 h3 h4 h5 h6 h7 h8 h9 h10 h11 h12 y0_0 y0_33 y0_34 y0_38 y0_39 y0_40 y0_41 y0_42 y0_43 y0_45 y0_46 y0_47 y0_48 x0_5 x0_7 x0_8 x0_9 x0_10 x0_11 x0_12 x0_13 x0_14 x0_15 x0_16 x0_17 x0_19 x0_20 x0_27 x0_28 x0_29 x0_30 x0_31 x0_32 x0_35 x0_36 x0_37 x0_44 x0_49 x0_50 a1 a2 a3 a4 a5 a6 a7 a8 a9 a10 a11 a12) sz) := by
  refine met_start (by decide) (Nat.le_of_ble_eq_true rfl) ?_
  intro p e s m below meth c hC hr hlk hnm hK hP hD hA hS hX ls hl
  obtain ⟨hx, hb, hml, hown, ht0⟩ := hC
  have hown : s.vm.findClass RX11 = some m.cls := hown
  generalize va_A (wW_X11_readWord G h0 h1 h2 h3 h4 h5 h6 h7 h8 h9 h10 h11 h12 y0_0 y0_33 y0_34 y0_38 y0_39 y0_40 y0_41 y0_42 y0_43 y0_45 y0_46 y0_47 y0_48 x0_5 x0_7 x0_8 x0_9 x0_10 x0_11 x0_12 x0_13 x0_14 x0_15 x0_16 x0_17 x0_19 x0_20 x0_27 x0_28 x0_29 x0_30 x0_31 x0_32 x0_35 x0_36 x0_37 x0_44 x0_49 x0_50 a1 a2 a3 a4 a5 a6 a7 a8 a9 a10 a11 a12) sz = A at hD hA hS hX ⊢
  have hl : lv_has ls 4 [(0, .ref h0), (1, .int b1)] := hl
  have hf : p_X11_readWord F x0_8 x0_9 x0_10 x0_11 x0_12 x0_13 x0_14 x0_15 x0_20 x0_27 x0_28 a1 a2 a3 a4 a5 a6 a7 a8 a9 a10 a11 a12 b1 = some (e_x0_9, e_x0_10, e_x0_11, e_x0_12, e_x0_13, e_x0_14, e_x0_15, e_x0_20, e_x0_27, e_x0_28, e_a4, e_a7, e_a8, e_a9, e_a10, e_a11, e_a12) := hf
  refine lv_aload_n hx hb dX11_readWord_0 rfl (lv_at hl 0 rfl) ?_
  refine lv_iload_n hx hb dX11_readWord_1 rfl (lv_at hl 1 rfl) ?_
  obtain ⟨⟨r_2_0_x0_14, r_2_0_x0_15, r_2_0_x0_20, r_2_0_x0_27, r_2_0_x0_28, r_2_0_a4, r_2_0_a5, r_2_0_a6, r_2_0_a7, r_2_0_a8, r_2_0_a9, r_2_0_a10⟩, hc_r_2_0, hf⟩ := of_bnd hf
  refine cl_Vv (w2 := (wW_X11_readWord G h0 h1 h2 h3 h4 h5 h6 h7 h8 h9 h10 h11 h12 y0_0 y0_33 y0_34 y0_38 y0_39 y0_40 y0_41 y0_42 y0_43 y0_45 y0_46 y0_47 y0_48 x0_5 x0_7 x0_8 x0_9 x0_10 x0_11 x0_12 x0_13 r_2_0_x0_14 r_2_0_x0_15 x0_16 x0_17 x0_19 r_2_0_x0_20 r_2_0_x0_27 r_2_0_x0_28 x0_29 x0_30 x0_31 x0_32 x0_35 x0_36 x0_37 x0_44 x0_49 x0_50 a1 a2 a3 r_2_0_a4 a5 a6 r_2_0_a5 r_2_0_a6 r_2_0_a7 r_2_0_a8 r_2_0_a9 r_2_0_a10)) (As := [.int b1]) (rest := []) ⟨hx, hb, hml, hown, ht0⟩ (c_X11_chooses l G h0 h1 h2 h3 h4 h7 h8 h9 h10 h11 h12 y0_0 h5 h6 y0_33 y0_34 y0_38 y0_39 y0_40 y0_41 y0_42 y0_43 y0_45 y0_46 y0_47 y0_48 _ x0_5 x0_7 x0_8 x0_9 x0_10 x0_11 x0_12 x0_13 x0_14 x0_15 x0_16 x0_17 x0_19 x0_20 x0_27 x0_28 x0_29 x0_30 x0_31 x0_32 x0_35 x0_36 x0_37 x0_44 x0_49 x0_50 a1 a2 a3 a4 a7 a8 a9 a10 a11 a12 F b1 _ _ _ _ _ _ _ _ _ _ _ _ hc_r_2_0) yk_X11_chooses wd_1332 ⟨rfl, rfl, by decide, by decide⟩ ⟨Nat.le_refl _, Nat.le_refl _⟩ hX hK hP hD hS hA [0, 1, 2, 3, 4, 7, 8, 9, 10, 11, 12] [5, 6] [2, 3, 4, 5, 6, 0, 1, 7, 8, 9, 10, 11, 12] (va_recv hK hP (ci := 11) (q0 := 0) rfl rfl) rfl rfl (by decide) rfl rfl rfl rfl rfl hl.1 rfl (Nat.le_of_ble_eq_true rfl) dX11_readWord_2 (fun H locs hP hD hS => ?_)
  refine lv_aload_n hx hb dX11_readWord_5 rfl (lv_at hl 0 rfl) ?_
  refine va_get (ci := 11) (v := .int r_2_0_x0_14) (C := RX11) (T := TX11) (N := 51) hx hb ht0 iX11 hown hK hP 0 rfl rfl 14 (by decide) (ht0 _ wd_1420) (fun _ h9 => h9) rfl dX11_readWord_6 ?_
  refine lv_if_le (tgt := 13) hx hb dX11_readWord_9 (by decide) (fun c2 => ?_) (fun c2 => ?_)
  · have hf := of_pos hf c2
    refine lv_aload_n hx hb dX11_readWord_13 rfl (lv_at hl 0 rfl) ?_
    obtain ⟨⟨r_14_2_x0_9, r_14_2_x0_10, r_14_2_x0_11, r_14_2_x0_12, r_14_2_x0_13⟩, hc_r_14_2, hf⟩ := of_bnd hf
    refine cl_Vv (w2 := (wW_X11_readWord G h0 h1 h2 h3 h4 h5 h6 h7 h8 h9 h10 h11 h12 y0_0 y0_33 y0_34 y0_38 y0_39 y0_40 y0_41 y0_42 y0_43 y0_45 y0_46 y0_47 y0_48 x0_5 x0_7 x0_8 r_14_2_x0_9 r_14_2_x0_10 r_14_2_x0_11 r_14_2_x0_12 r_14_2_x0_13 r_2_0_x0_14 r_2_0_x0_15 x0_16 x0_17 x0_19 r_2_0_x0_20 r_2_0_x0_27 r_2_0_x0_28 x0_29 x0_30 x0_31 x0_32 x0_35 x0_36 x0_37 x0_44 x0_49 x0_50 a1 a2 a3 r_2_0_a4 a5 a6 r_2_0_a5 r_2_0_a6 r_2_0_a7 r_2_0_a8 r_2_0_a9 r_2_0_a10)) (As := []) (rest := []) ⟨hx, hb, hml, hown, ht0⟩ (c_X11_scan l G h0 h5 h6 y0_0 h1 h2 h3 h4 h7 h8 h9 h10 h11 h12 y0_33 y0_34 y0_38 y0_39 y0_40 y0_41 y0_42 y0_43 y0_45 y0_46 y0_47 y0_48 _ x0_5 x0_7 x0_8 x0_9 x0_10 x0_11 x0_12 x0_13 r_2_0_x0_14 r_2_0_x0_15 x0_16 x0_17 x0_19 r_2_0_x0_20 r_2_0_x0_27 r_2_0_x0_28 x0_29 x0_30 x0_31 x0_32 x0_35 x0_36 x0_37 x0_44 x0_49 x0_50 a5 a6 F _ _ _ _ _ hc_r_14_2) yk_X11_scan wd_1270 ⟨rfl, rfl, by decide, by decide⟩ ⟨Nat.le_refl _, Nat.le_refl _⟩ hX hK hP hD hS hA [0, 5, 6] [1, 2, 3, 4, 7, 8, 9, 10, 11, 12] [10, 0, 1, 2, 3, 11, 12, 4, 5, 6, 7, 8, 9] (va_recv hK hP (ci := 11) (q0 := 0) rfl rfl) rfl rfl (by decide) rfl rfl rfl rfl rfl hl.1 rfl (Nat.le_of_ble_eq_true rfl) dX11_readWord_14 (fun H locs hP hD hS => ?_)
    refine lv_aload_n hx hb dX11_readWord_17 rfl (lv_at hl 0 rfl) ?_
    refine lv_iconst (v := (0 : Int32)) hx hb dX11_readWord_18 (by decide) ?_
    refine lv_bipush (v := (15 : Int32)) hx hb dX11_readWord_19 (by decide) ?_
    obtain ⟨⟨r_21_3, r_21_3_x0_9, r_21_3_x0_10, r_21_3_x0_11, r_21_3_x0_12, r_21_3_x0_13, r_21_3_x0_14, r_21_3_x0_15⟩, hc_r_21_3, hf⟩ := of_bnd hf
    refine cl_Vi (w2 := (wW_X11_readWord G h0 h1 h2 h3 h4 h5 h6 h7 h8 h9 h10 h11 h12 y0_0 y0_33 y0_34 y0_38 y0_39 y0_40 y0_41 y0_42 y0_43 y0_45 y0_46 y0_47 y0_48 x0_5 x0_7 x0_8 r_21_3_x0_9 r_21_3_x0_10 r_21_3_x0_11 r_21_3_x0_12 r_21_3_x0_13 r_21_3_x0_14 r_21_3_x0_15 x0_16 x0_17 x0_19 r_2_0_x0_20 r_2_0_x0_27 r_2_0_x0_28 x0_29 x0_30 x0_31 x0_32 x0_35 x0_36 x0_37 x0_44 x0_49 x0_50 a1 a2 a3 r_2_0_a4 a5 a6 r_2_0_a5 r_2_0_a6 r_2_0_a7 r_2_0_a8 r_2_0_a9 r_2_0_a10)) (As := [.int (0 : Int32), .int (15 : Int32)]) (rest := []) ⟨hx, hb, hml, hown, ht0⟩ (c_X11_numeral l G h0 h5 h6 y0_0 h1 h2 h3 h4 h7 h8 h9 h10 h11 h12 y0_33 y0_34 y0_38 y0_39 y0_40 y0_41 y0_42 y0_43 y0_45 y0_46 y0_47 y0_48 _ x0_5 x0_7 x0_8 r_14_2_x0_9 r_14_2_x0_10 r_14_2_x0_11 r_14_2_x0_12 r_14_2_x0_13 r_2_0_x0_14 r_2_0_x0_15 x0_16 x0_17 x0_19 r_2_0_x0_20 r_2_0_x0_27 r_2_0_x0_28 x0_29 x0_30 x0_31 x0_32 x0_35 x0_36 x0_37 x0_44 x0_49 x0_50 a5 a6 F (0 : Int32) (15 : Int32) _ _ _ _ _ _ _ _ hc_r_21_3) yk_X11_numeral wd_1317 ⟨rfl, rfl, by decide, by decide⟩ ⟨Nat.le_refl _, Nat.le_refl _⟩ hX hK hP hD hS hA [0, 5, 6] [1, 2, 3, 4, 7, 8, 9, 10, 11, 12] [10, 0, 1, 2, 3, 11, 12, 4, 5, 6, 7, 8, 9] (va_recv hK hP (ci := 11) (q0 := 0) rfl rfl) rfl rfl (by decide) rfl rfl rfl rfl rfl hl.1 rfl (Nat.le_of_ble_eq_true rfl) dX11_readWord_21 (fun H locs hP hD hS => ?_)
    refine lv_istore_n (lv' := [(2, .int r_21_3), (0, .ref h0), (1, .int b1)]) hx hb dX11_readWord_24 rfl hl (by decide) rfl (fun ls hl => ?_)
    refine lv_aload_n hx hb dX11_readWord_25 rfl (lv_at hl 1 rfl) ?_
    refine lv_iconst (v := (0 : Int32)) hx hb dX11_readWord_26 (by decide) ?_
    refine lv_iconst (v := (1 : Int32)) hx hb dX11_readWord_27 (by decide) ?_
    refine lv_aload_n hx hb dX11_readWord_28 rfl (lv_at hl 1 rfl) ?_
    refine va_get (ci := 11) (v := .ref h1) (C := RX11) (T := TX11) (N := 51) hx hb ht0 iX11 hown hK hP 0 rfl rfl 1 (by decide) (ht0 _ wd_1407) (fun _ h9 => h9) rfl dX11_readWord_29 ?_
    refine lv_iload_n hx hb dX11_readWord_32 rfl (lv_at hl 2 rfl) ?_
    obtain ⟨g5, hf⟩ := of_grd hf
    refine va_iald hx hb hK hP 1 0 rfl rfl g5 dX11_readWord_33 ?_
    refine lv_ishl hx hb dX11_readWord_34 ?_
    refine lv_iconst (v := (1 : Int32)) hx hb dX11_readWord_35 (by decide) ?_
    refine lv_isub hx hb dX11_readWord_36 ?_
    obtain ⟨⟨r_37_5, r_37_5_x0_9, r_37_5_x0_10, r_37_5_x0_11, r_37_5_x0_12, r_37_5_x0_13, r_37_5_x0_14, r_37_5_x0_15⟩, hc_r_37_5, hf⟩ := of_bnd hf
    refine cl_Vi (w2 := (wW_X11_readWord G h0 h1 h2 h3 h4 h5 h6 h7 h8 h9 h10 h11 h12 y0_0 y0_33 y0_34 y0_38 y0_39 y0_40 y0_41 y0_42 y0_43 y0_45 y0_46 y0_47 y0_48 x0_5 x0_7 x0_8 r_37_5_x0_9 r_37_5_x0_10 r_37_5_x0_11 r_37_5_x0_12 r_37_5_x0_13 r_37_5_x0_14 r_37_5_x0_15 x0_16 x0_17 x0_19 r_2_0_x0_20 r_2_0_x0_27 r_2_0_x0_28 x0_29 x0_30 x0_31 x0_32 x0_35 x0_36 x0_37 x0_44 x0_49 x0_50 a1 a2 a3 r_2_0_a4 a5 a6 r_2_0_a5 r_2_0_a6 r_2_0_a7 r_2_0_a8 r_2_0_a9 r_2_0_a10)) (As := [.int (0 : Int32), .int (((1 : Int32) <<< ((a1 b1.toNatClampNeg) &&& 31)) - (1 : Int32))]) (rest := []) ⟨hx, hb, hml, hown, ht0⟩ (c_X11_numeral l G h0 h5 h6 y0_0 h1 h2 h3 h4 h7 h8 h9 h10 h11 h12 y0_33 y0_34 y0_38 y0_39 y0_40 y0_41 y0_42 y0_43 y0_45 y0_46 y0_47 y0_48 _ x0_5 x0_7 x0_8 r_21_3_x0_9 r_21_3_x0_10 r_21_3_x0_11 r_21_3_x0_12 r_21_3_x0_13 r_21_3_x0_14 r_21_3_x0_15 x0_16 x0_17 x0_19 r_2_0_x0_20 r_2_0_x0_27 r_2_0_x0_28 x0_29 x0_30 x0_31 x0_32 x0_35 x0_36 x0_37 x0_44 x0_49 x0_50 a5 a6 F (0 : Int32) (((1 : Int32) <<< ((a1 b1.toNatClampNeg) &&& 31)) - (1 : Int32)) _ _ _ _ _ _ _ _ hc_r_37_5) yk_X11_numeral wd_1317 ⟨rfl, rfl, by decide, by decide⟩ ⟨Nat.le_refl _, Nat.le_refl _⟩ hX hK hP hD hS hA [0, 5, 6] [1, 2, 3, 4, 7, 8, 9, 10, 11, 12] [10, 0, 1, 2, 3, 11, 12, 4, 5, 6, 7, 8, 9] (va_recv hK hP (ci := 11) (q0 := 0) rfl rfl) rfl rfl (by decide) rfl rfl rfl rfl rfl hl.1 rfl (Nat.le_of_ble_eq_true rfl) dX11_readWord_37 (fun H locs hP hD hS => ?_)
    refine lv_istore_n (lv' := [(3, .int r_37_5), (2, .int r_21_3), (0, .ref h0), (1, .int b1)]) hx hb dX11_readWord_40 rfl hl (by decide) rfl (fun ls hl => ?_)
    refine lv_aload_n hx hb dX11_readWord_41 rfl (lv_at hl 2 rfl) ?_
    refine va_get (ci := 11) (v := .int r_37_5_x0_14) (C := RX11) (T := TX11) (N := 51) hx hb ht0 iX11 hown hK hP 0 rfl rfl 14 (by decide) (ht0 _ wd_1420) (fun _ h9 => h9) rfl dX11_readWord_42 ?_
    refine lv_if_ne (tgt := 63) hx hb dX11_readWord_45 (by decide) (fun c7 => ?_) (fun c7 => ?_)
    · have hf := of_neg hf c7
      cases hf
      exact ret_v hx hb hr hlk hK hP hD hS dX11_readWord_63
    · have hf := of_pos hf c7
      refine lv_aload_n hx hb dX11_readWord_48 rfl (lv_at hl 2 rfl) ?_
      refine va_get (ci := 11) (v := .ref h4) (C := RX11) (T := TX11) (N := 51) hx hb ht0 iX11 hown hK hP 0 rfl rfl 4 (by decide) (ht0 _ wd_1410) (fun _ h9 => h9) rfl dX11_readWord_49 ?_
      refine lv_bipush (v := (121 : Int32)) hx hb dX11_readWord_52 (by decide) ?_
      refine lv_iload_n hx hb dX11_readWord_54 rfl (lv_at hl 3 rfl) ?_
      refine lv_imul hx hb dX11_readWord_55 ?_
      refine lv_bipush (v := (65 : Int32)) hx hb dX11_readWord_56 (by decide) ?_
      refine lv_iadd hx hb dX11_readWord_58 ?_
      refine lv_iload_n hx hb dX11_readWord_59 rfl (lv_at hl 1 rfl) ?_
      refine lv_iadd hx hb dX11_readWord_60 ?_
      refine lv_iload_n hx hb dX11_readWord_61 rfl (lv_at hl 0 rfl) ?_
      obtain ⟨g8, hf⟩ := of_grd hf
      refine va_iast hx hb hK hP hD hS 4 0 rfl rfl g8 dX11_readWord_62 (fun H locs hP hD hS => ?_)
      have hP : va_P G.1 vwCl (wW_X11_readWord G h0 h1 h2 h3 h4 h5 h6 h7 h8 h9 h10 h11 h12 y0_0 y0_33 y0_34 y0_38 y0_39 y0_40 y0_41 y0_42 y0_43 y0_45 y0_46 y0_47 y0_48 x0_5 x0_7 x0_8 r_37_5_x0_9 r_37_5_x0_10 r_37_5_x0_11 r_37_5_x0_12 r_37_5_x0_13 r_37_5_x0_14 r_37_5_x0_15 x0_16 x0_17 x0_19 r_2_0_x0_20 r_2_0_x0_27 r_2_0_x0_28 x0_29 x0_30 x0_31 x0_32 x0_35 x0_36 x0_37 x0_44 x0_49 x0_50 a1 a2 a3 (upd r_2_0_a4 ((((121 : Int32) * b1) + (65 : Int32)) + r_21_3).toNatClampNeg r_37_5) a5 a6 r_2_0_a5 r_2_0_a6 r_2_0_a7 r_2_0_a8 r_2_0_a9 r_2_0_a10) H := hP
      have hD : va_D A (wW_X11_readWord G h0 h1 h2 h3 h4 h5 h6 h7 h8 h9 h10 h11 h12 y0_0 y0_33 y0_34 y0_38 y0_39 y0_40 y0_41 y0_42 y0_43 y0_45 y0_46 y0_47 y0_48 x0_5 x0_7 x0_8 r_37_5_x0_9 r_37_5_x0_10 r_37_5_x0_11 r_37_5_x0_12 r_37_5_x0_13 r_37_5_x0_14 r_37_5_x0_15 x0_16 x0_17 x0_19 r_2_0_x0_20 r_2_0_x0_27 r_2_0_x0_28 x0_29 x0_30 x0_31 x0_32 x0_35 x0_36 x0_37 x0_44 x0_49 x0_50 a1 a2 a3 (upd r_2_0_a4 ((((121 : Int32) * b1) + (65 : Int32)) + r_21_3).toNatClampNeg r_37_5) a5 a6 r_2_0_a5 r_2_0_a6 r_2_0_a7 r_2_0_a8 r_2_0_a9 r_2_0_a10) := hD
      cases hf
      exact ret_v hx hb hr hlk hK hP hD hS dX11_readWord_63
  · have hf := of_neg hf c2
    cases hf
    exact ret_v hx hb hr hlk hK hP hD hS dX11_readWord_12
theorem yk_X11_readWord : ykV yX11_readWord RX11 cX11_readWord 4 none 1 := ⟨wd_1384, wd_64, wd_142, wd_1385, rfl, by decide +kernel, by decide +kernel, by decide +kernel⟩
