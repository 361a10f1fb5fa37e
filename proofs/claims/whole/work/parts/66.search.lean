theorem dX4_best_0 : decode cX4_best 0 = .ok (.iload_n 1, 1) := by decide +kernel
theorem dX4_best_1 : decode cX4_best 1 = .ok (.lookupswitch 37 #[(0, 27), (1, 32)], 27) := by decide +kernel
theorem dX4_best_28 : decode cX4_best 28 = .ok (.aload_n 0, 1) := by decide +kernel
theorem dX4_best_29 : decode cX4_best 29 = .ok (.getfield 32, 3) := by decide +kernel
theorem dX4_best_32 : decode cX4_best 32 = .ok (.ireturn, 1) := by decide +kernel
theorem dX4_best_33 : decode cX4_best 33 = .ok (.aload_n 0, 1) := by decide +kernel
theorem dX4_best_34 : decode cX4_best 34 = .ok (.getfield 36, 3) := by decide +kernel
theorem dX4_best_37 : decode cX4_best 37 = .ok (.ireturn, 1) := by decide +kernel
theorem dX4_best_38 : decode cX4_best 38 = .ok (.aload_n 0, 1) := by decide +kernel
theorem dX4_best_39 : decode cX4_best 39 = .ok (.getfield 39, 3) := by decide +kernel
theorem dX4_best_42 : decode cX4_best 42 = .ok (.ireturn, 1) := by decide +kernel
def wW_X4_best (G : GG) (h0 y0_0 y0_1 y0_2 y0_3 : Nat) (x0_4 : Int32) (x0_5 : Int32) (x0_6 : Int32) : va_W := [(h0, .inr (4, [.ref y0_0, .ref y0_1, .ref y0_2, .ref y0_3, .int x0_4, .int x0_5, .int x0_6]))]
set_option maxHeartbeats 4000000 in
set_option maxRecDepth 100000 in
theorem c_X4_best (l : Launch) (G : GG) (h0 y0_0 y0_1 y0_2 y0_3 : Nat) (sz : Nat) (x0_4 : Int32) (x0_5 : Int32) (x0_6 : Int32) (F : Nat) (b1 : Int32)  (r0 : Int32) (hf : p_X4_best F x0_4 x0_5 x0_6 b1 = some r0) : Met l yX4_best (.code yX4_best cX4_best 2 (some .int) :: gtbl) ({ frames := 0, cells := 0, slots := 0, locals := 0 } : Room) (PcS G [.ref h0, .int b1] (wW_X4_best G h0 y0_0 y0_1 y0_2 y0_3 x0_4 x0_5 x0_6) sz) (QiS G r0 (va_A (wW_X4_best G h0 y0_0 y0_1 y0_2 y0_3 x0_4 x0_5 x0_6) sz) (wW_X4_best G h0 y0_0 y0_1 y0_2 y0_3 x0_4 x0_5 x0_6)) 0 0 (va_A (wW_X4_best G h0 y0_0 y0_1 y0_2 y0_3 x0_4 x0_5 x0_6) sz) := by
  refine met_start (by decide) (Nat.le_of_ble_eq_true rfl) ?_
  intro p e s m below meth c hC hr hlk hnm hK hP hD hA hS hX ls hl
  obtain ⟨hx, hb, hml, hown, ht0⟩ := hC
  have hown : s.vm.findClass RX4 = some m.cls := hown
  generalize va_A (wW_X4_best G h0 y0_0 y0_1 y0_2 y0_3 x0_4 x0_5 x0_6) sz = A at hD hA hS hX ⊢
  have hl : lv_has ls 2 [(0, .ref h0), (1, .int b1)] := hl
  have hf : p_X4_best F x0_4 x0_5 x0_6 b1 = some r0 := hf
  refine lv_iload_n hx hb dX4_best_0 rfl (lv_at hl 1 rfl) ?_
  by_cases c1 : b1 = (0 : Int32)
  · have hf := of_pos hf c1
    refine lv_lookup (off := 27) (tgt := 28) hx hb dX4_best_1 (by decide) (by rw [c1]; rfl) (by decide) ?_
    refine lv_aload_n hx hb dX4_best_28 rfl (lv_at hl 0 rfl) ?_
    refine va_get (ci := 4) (v := .int x0_4) (C := RX4) (T := TX4) (N := 7) hx hb ht0 iX4 hown hK hP 0 rfl rfl 4 (by decide) (ht0 _ wd_399) (fun _ h9 => h9) rfl dX4_best_29 ?_
    cases hf
    exact ret_i hx hb hr hlk hK hP hD hS dX4_best_32
  have hf := of_neg hf c1
  by_cases c2 : b1 = (1 : Int32)
  · have hf := of_pos hf c2
    refine lv_lookup (off := 32) (tgt := 33) hx hb dX4_best_1 (by decide) (by rw [c2]; rfl) (by decide) ?_
    refine lv_aload_n hx hb dX4_best_33 rfl (lv_at hl 0 rfl) ?_
    refine va_get (ci := 4) (v := .int x0_5) (C := RX4) (T := TX4) (N := 7) hx hb ht0 iX4 hown hK hP 0 rfl rfl 5 (by decide) (ht0 _ wd_401) (fun _ h9 => h9) rfl dX4_best_34 ?_
    cases hf
    exact ret_i hx hb hr hlk hK hP hD hS dX4_best_37
  have hf := of_neg hf c2
  refine lv_lookup (off := 37) (tgt := 38) hx hb dX4_best_1 (by decide) (by show Op.lookupswitch.offset [(0, 27), (1, 32)] _ _ = _; rw [lv_osw (a := 0) c1 rfl]; rw [lv_osw (a := 1) c2 rfl]; rfl) (by decide) ?_
  refine lv_aload_n hx hb dX4_best_38 rfl (lv_at hl 0 rfl) ?_
  refine va_get (ci := 4) (v := .int x0_6) (C := RX4) (T := TX4) (N := 7) hx hb ht0 iX4 hown hK hP 0 rfl rfl 6 (by decide) (ht0 _ wd_403) (fun _ h9 => h9) rfl dX4_best_39 ?_
  cases hf
  exact ret_i hx hb hr hlk hK hP hD hS dX4_best_42
theorem yk_X4_best : ykV yX4_best RX4 cX4_best 2 (some .int) 1 := ⟨wd_1110, wd_1111, wd_136, wd_1112, rfl, by decide +kernel, by decide +kernel, by decide +kernel⟩
theorem dX4_settleBest_0 : decode cX4_settleBest 0 = .ok (.aload_n 0, 1) := by decide +kernel
theorem dX4_settleBest_1 : decode cX4_settleBest 1 = .ok (.iload_n 1, 1) := by decide +kernel
theorem dX4_settleBest_2 : decode cX4_settleBest 2 = .ok (.putfield 32, 3) := by decide +kernel
theorem dX4_settleBest_5 : decode cX4_settleBest 5 = .ok (.aload_n 0, 1) := by decide +kernel
theorem dX4_settleBest_6 : decode cX4_settleBest 6 = .ok (.iload_n 2, 1) := by decide +kernel
theorem dX4_settleBest_7 : decode cX4_settleBest 7 = .ok (.putfield 36, 3) := by decide +kernel
theorem dX4_settleBest_10 : decode cX4_settleBest 10 = .ok (.aload_n 0, 1) := by decide +kernel
theorem dX4_settleBest_11 : decode cX4_settleBest 11 = .ok (.iload_n 3, 1) := by decide +kernel
theorem dX4_settleBest_12 : decode cX4_settleBest 12 = .ok (.putfield 39, 3) := by decide +kernel
theorem dX4_settleBest_15 : decode cX4_settleBest 15 = .ok (.return_, 1) := by decide +kernel
def wW_X4_settleBest (G : GG) (h0 y0_0 y0_1 y0_2 y0_3 : Nat) (x0_4 : Int32) (x0_5 : Int32) (x0_6 : Int32) : va_W := [(h0, .inr (4, [.ref y0_0, .ref y0_1, .ref y0_2, .ref y0_3, .int x0_4, .int x0_5, .int x0_6]))]
set_option maxHeartbeats 4000000 in
set_option maxRecDepth 100000 in
theorem c_X4_settleBest (l : Launch) (G : GG) (h0 y0_0 y0_1 y0_2 y0_3 : Nat) (sz : Nat) (x0_4 : Int32) (x0_5 : Int32) (x0_6 : Int32) (F : Nat) (b1 : Int32) (b2 : Int32) (b3 : Int32)  (e_x0_4 : Int32) (e_x0_5 : Int32) (e_x0_6 : Int32) (hf : p_X4_settleBest F x0_4 x0_5 x0_6 b1 b2 b3 = some (e_x0_4, e_x0_5, e_x0_6)) : Met l yX4_settleBest (.code yX4_settleBest cX4_settleBest 4 none :: gtbl) ({ frames := 0, cells := 0, slots := 0, locals := 0 } : Room) (PcS G [.ref h0, .int b1, .int b2, .int b3] (wW_X4_settleBest G h0 y0_0 y0_1 y0_2 y0_3 x0_4 x0_5 x0_6) sz) (QvS G (va_A (wW_X4_settleBest G h0 y0_0 y0_1 y0_2 y0_3 x0_4 x0_5 x0_6) sz) (wW_X4_settleBest G h0 y0_0 y0_1 y0_2 y0_3 e_x0_4 e_x0_5 e_x0_6)) 0 0 (va_A (wW_X4_settleBest G h0 y0_0 y0_1 y0_2 y0_3 x0_4 x0_5 x0_6) sz) := by
  refine met_start (by decide) (Nat.le_of_ble_eq_true rfl) ?_
  intro p e s m below meth c hC hr hlk hnm hK hP hD hA hS hX ls hl
  obtain ⟨hx, hb, hml, hown, ht0⟩ := hC
  have hown : s.vm.findClass RX4 = some m.cls := hown
  generalize va_A (wW_X4_settleBest G h0 y0_0 y0_1 y0_2 y0_3 x0_4 x0_5 x0_6) sz = A at hD hA hS hX ⊢
  have hl : lv_has ls 4 [(0, .ref h0), (1, .int b1), (2, .int b2), (3, .int b3)] := hl
  have hf : p_X4_settleBest F x0_4 x0_5 x0_6 b1 b2 b3 = some (e_x0_4, e_x0_5, e_x0_6) := hf
  refine lv_aload_n hx hb dX4_settleBest_0 rfl (lv_at hl 0 rfl) ?_
  refine lv_iload_n hx hb dX4_settleBest_1 rfl (lv_at hl 1 rfl) ?_
  refine va_put (ci := 4) (v := .int b1) (ty := .int) (C := RX4) (T := TX4) (N := 7) hx hb ht0 iX4 tyX4 tyX4_ok nmX4 hown hK hP hD hS 0 rfl rfl 4 (by decide) (ht0 _ wd_399) (fun _ h9 => h9) rfl rfl rfl rfl (Nat.le_of_ble_eq_true rfl) dX4_settleBest_2 (fun H locs hP hD hS => ?_)
  have hP : va_P G.1 vwCl (wW_X4_settleBest G h0 y0_0 y0_1 y0_2 y0_3 b1 x0_5 x0_6) H := hP
  have hD : va_D A (wW_X4_settleBest G h0 y0_0 y0_1 y0_2 y0_3 b1 x0_5 x0_6) := hD
  refine lv_aload_n hx hb dX4_settleBest_5 rfl (lv_at hl 0 rfl) ?_
  refine lv_iload_n hx hb dX4_settleBest_6 rfl (lv_at hl 2 rfl) ?_
  refine va_put (ci := 4) (v := .int b2) (ty := .int) (C := RX4) (T := TX4) (N := 7) hx hb ht0 iX4 tyX4 tyX4_ok nmX4 hown hK hP hD hS 0 rfl rfl 5 (by decide) (ht0 _ wd_401) (fun _ h9 => h9) rfl rfl rfl rfl (Nat.le_of_ble_eq_true rfl) dX4_settleBest_7 (fun H locs hP hD hS => ?_)
  have hP : va_P G.1 vwCl (wW_X4_settleBest G h0 y0_0 y0_1 y0_2 y0_3 b1 b2 x0_6) H := hP
  have hD : va_D A (wW_X4_settleBest G h0 y0_0 y0_1 y0_2 y0_3 b1 b2 x0_6) := hD
  refine lv_aload_n hx hb dX4_settleBest_10 rfl (lv_at hl 0 rfl) ?_
  refine lv_iload_n hx hb dX4_settleBest_11 rfl (lv_at hl 3 rfl) ?_
  refine va_put (ci := 4) (v := .int b3) (ty := .int) (C := RX4) (T := TX4) (N := 7) hx hb ht0 iX4 tyX4 tyX4_ok nmX4 hown hK hP hD hS 0 rfl rfl 6 (by decide) (ht0 _ wd_403) (fun _ h9 => h9) rfl rfl rfl rfl (Nat.le_of_ble_eq_true rfl) dX4_settleBest_12 (fun H locs hP hD hS => ?_)
  have hP : va_P G.1 vwCl (wW_X4_settleBest G h0 y0_0 y0_1 y0_2 y0_3 b1 b2 b3) H := hP
  have hD : va_D A (wW_X4_settleBest G h0 y0_0 y0_1 y0_2 y0_3 b1 b2 b3) := hD
  cases hf
  exact ret_v hx hb hr hlk hK hP hD hS dX4_settleBest_15
theorem yk_X4_settleBest : ykV yX4_settleBest RX4 cX4_settleBest 4 none 3 := ⟨wd_993, wd_31, wd_136, wd_994, rfl, by decide +kernel, by decide +kernel, by decide +kernel⟩
theorem dX4_countMissed_0 : decode cX4_countMissed 0 = .ok (.iconst 0, 1) := by decide +kernel
theorem dX4_countMissed_1 : decode cX4_countMissed 1 = .ok (.istore_n 3, 1) := by decide +kernel
theorem dX4_countMissed_2 : decode cX4_countMissed 2 = .ok (.iconst 0, 1) := by decide +kernel
theorem dX4_countMissed_3 : decode cX4_countMissed 3 = .ok (.istore 4, 2) := by decide +kernel
theorem dX4_countMissed_5 : decode cX4_countMissed 5 = .ok (.iload 4, 2) := by decide +kernel
theorem dX4_countMissed_7 : decode cX4_countMissed 7 = .ok (.iload_n 2, 1) := by decide +kernel
theorem dX4_countMissed_8 : decode cX4_countMissed 8 = .ok (.if_icmp .ge 88, 3) := by decide +kernel
theorem dX4_countMissed_11 : decode cX4_countMissed 11 = .ok (.iload 4, 2) := by decide +kernel
theorem dX4_countMissed_13 : decode cX4_countMissed 13 = .ok (.iconst 1, 1) := by decide +kernel
theorem dX4_countMissed_14 : decode cX4_countMissed 14 = .ok (.iadd, 1) := by decide +kernel
theorem dX4_countMissed_15 : decode cX4_countMissed 15 = .ok (.istore 5, 2) := by decide +kernel
theorem dX4_countMissed_17 : decode cX4_countMissed 17 = .ok (.iload 5, 2) := by decide +kernel
theorem dX4_countMissed_19 : decode cX4_countMissed 19 = .ok (.iload_n 2, 1) := by decide +kernel
theorem dX4_countMissed_20 : decode cX4_countMissed 20 = .ok (.if_icmp .ge 70, 3) := by decide +kernel
theorem dX4_countMissed_23 : decode cX4_countMissed 23 = .ok (.aload_n 1, 1) := by decide +kernel
theorem dX4_countMissed_24 : decode cX4_countMissed 24 = .ok (.getfield 42, 3) := by decide +kernel
theorem dX4_countMissed_27 : decode cX4_countMissed 27 = .ok (.iload 4, 2) := by decide +kernel
theorem dX4_countMissed_29 : decode cX4_countMissed 29 = .ok (.iaload, 1) := by decide +kernel
theorem dX4_countMissed_30 : decode cX4_countMissed 30 = .ok (.aload_n 1, 1) := by decide +kernel
theorem dX4_countMissed_31 : decode cX4_countMissed 31 = .ok (.getfield 42, 3) := by decide +kernel
theorem dX4_countMissed_34 : decode cX4_countMissed 34 = .ok (.iload 5, 2) := by decide +kernel
theorem dX4_countMissed_36 : decode cX4_countMissed 36 = .ok (.iaload, 1) := by decide +kernel
theorem dX4_countMissed_37 : decode cX4_countMissed 37 = .ok (.ixor, 1) := by decide +kernel
theorem dX4_countMissed_38 : decode cX4_countMissed 38 = .ok (.istore 6, 2) := by decide +kernel
theorem dX4_countMissed_40 : decode cX4_countMissed 40 = .ok (.iload 5, 2) := by decide +kernel
theorem dX4_countMissed_42 : decode cX4_countMissed 42 = .ok (.iconst 1, 1) := by decide +kernel
theorem dX4_countMissed_43 : decode cX4_countMissed 43 = .ok (.iadd, 1) := by decide +kernel
theorem dX4_countMissed_44 : decode cX4_countMissed 44 = .ok (.istore 7, 2) := by decide +kernel
theorem dX4_countMissed_46 : decode cX4_countMissed 46 = .ok (.iload 7, 2) := by decide +kernel
theorem dX4_countMissed_48 : decode cX4_countMissed 48 = .ok (.iload_n 2, 1) := by decide +kernel
theorem dX4_countMissed_49 : decode cX4_countMissed 49 = .ok (.if_icmp .ge 35, 3) := by decide +kernel
theorem dX4_countMissed_52 : decode cX4_countMissed 52 = .ok (.iload_n 3, 1) := by decide +kernel
theorem dX4_countMissed_53 : decode cX4_countMissed 53 = .ok (.aload_n 1, 1) := by decide +kernel
theorem dX4_countMissed_54 : decode cX4_countMissed 54 = .ok (.iload 6, 2) := by decide +kernel
theorem dX4_countMissed_56 : decode cX4_countMissed 56 = .ok (.aload_n 1, 1) := by decide +kernel
theorem dX4_countMissed_57 : decode cX4_countMissed 57 = .ok (.getfield 42, 3) := by decide +kernel
theorem dX4_countMissed_60 : decode cX4_countMissed 60 = .ok (.iload 7, 2) := by decide +kernel
theorem dX4_countMissed_62 : decode cX4_countMissed 62 = .ok (.iaload, 1) := by decide +kernel
theorem dX4_countMissed_63 : decode cX4_countMissed 63 = .ok (.ixor, 1) := by decide +kernel
theorem dX4_countMissed_64 : decode cX4_countMissed 64 = .ok (.invokevirtual 45, 3) := by decide +kernel
theorem dX4_countMissed_67 : decode cX4_countMissed 67 = .ok (.iconst (-1), 1) := by decide +kernel
theorem dX4_countMissed_68 : decode cX4_countMissed 68 = .ok (.if_icmp .eq 7, 3) := by decide +kernel
theorem dX4_countMissed_71 : decode cX4_countMissed 71 = .ok (.iconst 1, 1) := by decide +kernel
theorem dX4_countMissed_72 : decode cX4_countMissed 72 = .ok (.goto 4, 3) := by decide +kernel
theorem dX4_countMissed_75 : decode cX4_countMissed 75 = .ok (.iconst 0, 1) := by decide +kernel
theorem dX4_countMissed_76 : decode cX4_countMissed 76 = .ok (.iadd, 1) := by decide +kernel
theorem dX4_countMissed_77 : decode cX4_countMissed 77 = .ok (.istore_n 3, 1) := by decide +kernel
theorem dX4_countMissed_78 : decode cX4_countMissed 78 = .ok (.iinc 7 1, 3) := by decide +kernel
theorem dX4_countMissed_81 : decode cX4_countMissed 81 = .ok (.goto (-35), 3) := by decide +kernel
theorem dX4_countMissed_84 : decode cX4_countMissed 84 = .ok (.iinc 5 1, 3) := by decide +kernel
theorem dX4_countMissed_87 : decode cX4_countMissed 87 = .ok (.goto (-70), 3) := by decide +kernel
theorem dX4_countMissed_90 : decode cX4_countMissed 90 = .ok (.iinc 4 1, 3) := by decide +kernel
theorem dX4_countMissed_93 : decode cX4_countMissed 93 = .ok (.goto (-88), 3) := by decide +kernel
theorem dX4_countMissed_96 : decode cX4_countMissed 96 = .ok (.iload_n 3, 1) := by decide +kernel
theorem dX4_countMissed_97 : decode cX4_countMissed 97 = .ok (.ireturn, 1) := by decide +kernel
def wW_X4_countMissed (G : GG) (h0 h1 h2 y0_5 : Nat) (x0_0 : Int32) (x0_1 : Int32) (x0_2 : Int32) (a1 : Nat → Int32) (a2 : Nat → Int32) : va_W := [(h0, .inr (1, [.int x0_0, .int x0_1, .int x0_2, .ref h1, .ref h2, .ref y0_5])), (h1, .inl (G.2.1, 32, .inl a1)), (h2, .inl (G.2.1, 256, .inl a2))]
set_option maxHeartbeats 4000000 in
set_option maxRecDepth 100000 in
theorem c_X4_countMissed (l : Launch) (G : GG) (g_t h0 h1 h2 y0_5 : Nat) (sz : Nat) (x0_0 : Int32) (x0_1 : Int32) (x0_2 : Int32) (a1 : Nat → Int32) (a2 : Nat → Int32) (F : Nat) (b2 : Int32)  (r0 : Int32) (hf : p_X4_countMissed F a1 a2 b2 = some r0) : Met l yX4_countMissed (.code yX4_countMissed cX4_countMissed 8 (some .int) :: gtbl) ({ frames := 1, cells := 0, slots := 0, locals := 21 } : Room) (PcS G [.ref g_t, .ref h0, .int b2] (wW_X4_countMissed G h0 h1 h2 y0_5 x0_0 x0_1 x0_2 a1 a2) sz) (QiS G r0 (va_A (wW_X4_countMissed G h0 h1 h2 y0_5 x0_0 x0_1 x0_2 a1 a2) sz) (wW_X4_countMissed G h0 h1 h2 y0_5 x0_0 x0_1 x0_2 a1 a2)) 0 0 (va_A (wW_X4_countMissed G h0 h1 h2 y0_5 x0_0 x0_1 x0_2 a1 a2) sz) := by
  refine met_start (by decide) (Nat.le_of_ble_eq_true rfl) ?_
  intro p e s m below meth c hC hr hlk hnm hK hP hD hA hS hX ls hl
  obtain ⟨hx, hb, hml, hown, ht0⟩ := hC
  have hown : s.vm.findClass RX4 = some m.cls := hown
  generalize va_A (wW_X4_countMissed G h0 h1 h2 y0_5 x0_0 x0_1 x0_2 a1 a2) sz = A at hD hA hS hX ⊢
  have hl : lv_has ls 8 [(0, .ref g_t), (1, .ref h0), (2, .int b2)] := hl
  have hf : p_X4_countMissed F a1 a2 b2 = some r0 := hf
  have kL5 : ∀ (c5_2 : Int32) (n5 : Nat) (u5_3 : Int32) (u5_4 : Int32), p_X4_countMissed_L5 F a1 a2 c5_2 n5 u5_3 u5_4 = some r0 → ∀ (H : Heap) (locs : List Loc), va_P G.1 vwCl (wW_X4_countMissed G h0 h1 h2 y0_5 x0_0 x0_1 x0_2 a1 a2) H → va_D A (wW_X4_countMissed G h0 h1 h2 y0_5 x0_0 x0_1 x0_2 a1 a2) → va_S A s.heap H locs → ∀ ls : Array Slot, lv_has ls 8 [(1, .ref h0), (2, .int c5_2), (3, .int u5_3), (4, .int u5_4)] → W p l e ({ frames := 1, cells := 0, slots := 0, locals := 21 } : Room) s m (List.toArray [.ref g_t, .ref h0, .int b2]) below meth c H locs 0 0 (MQ below (QiS G r0 A (wW_X4_countMissed G h0 h1 h2 y0_5 x0_0 x0_1 x0_2 a1 a2)) (List.toArray [.ref g_t, .ref h0, .int b2]) s 0 0 A) (F0 m 5 ls []) := by
    intro c5_2 n5
    induction n5 with
    | zero =>
      intro u5_3 u5_4 hf
      cases hf
    | succ n5 ih5 =>
      have kL17 : ∀ (c17_4 : Int32) (n17 : Nat) (u17_3 : Int32) (u17_5 : Int32), p_X4_countMissed_L17 F a1 a2 c5_2 c17_4 (p_X4_countMissed_L5 F a1 a2 c5_2 n5) n17 u17_3 u17_5 = some r0 → ∀ (H : Heap) (locs : List Loc), va_P G.1 vwCl (wW_X4_countMissed G h0 h1 h2 y0_5 x0_0 x0_1 x0_2 a1 a2) H → va_D A (wW_X4_countMissed G h0 h1 h2 y0_5 x0_0 x0_1 x0_2 a1 a2) → va_S A s.heap H locs → ∀ ls : Array Slot, lv_has ls 8 [(1, .ref h0), (2, .int c5_2), (3, .int u17_3), (4, .int c17_4), (5, .int u17_5)] → W p l e ({ frames := 1, cells := 0, slots := 0, locals := 21 } : Room) s m (List.toArray [.ref g_t, .ref h0, .int b2]) below meth c H locs 0 0 (MQ below (QiS G r0 A (wW_X4_countMissed G h0 h1 h2 y0_5 x0_0 x0_1 x0_2 a1 a2)) (List.toArray [.ref g_t, .ref h0, .int b2]) s 0 0 A) (F0 m 17 ls []) := by
        intro c17_4 n17
        induction n17 with
        | zero =>
          intro u17_3 u17_5 hf
          cases hf
        | succ n17 ih17 =>
          have kL46 : ∀ (c46_5 : Int32) (c46_6 : Int32) (n46 : Nat) (u46_3 : Int32) (u46_7 : Int32), p_X4_countMissed_L46 F a1 a2 c5_2 c17_4 c46_5 c46_6 (p_X4_countMissed_L5 F a1 a2 c5_2 n5) (p_X4_countMissed_L17 F a1 a2 c5_2 c17_4 (p_X4_countMissed_L5 F a1 a2 c5_2 n5) n17) n46 u46_3 u46_7 = some r0 → ∀ (H : Heap) (locs : List Loc), va_P G.1 vwCl (wW_X4_countMissed G h0 h1 h2 y0_5 x0_0 x0_1 x0_2 a1 a2) H → va_D A (wW_X4_countMissed G h0 h1 h2 y0_5 x0_0 x0_1 x0_2 a1 a2) → va_S A s.heap H locs → ∀ ls : Array Slot, lv_has ls 8 [(1, .ref h0), (2, .int c5_2), (3, .int u46_3), (4, .int c17_4), (5, .int c46_5), (6, .int c46_6), (7, .int u46_7)] → W p l e ({ frames := 1, cells := 0, slots := 0, locals := 21 } : Room) s m (List.toArray [.ref g_t, .ref h0, .int b2]) below meth c H locs 0 0 (MQ below (QiS G r0 A (wW_X4_countMissed G h0 h1 h2 y0_5 x0_0 x0_1 x0_2 a1 a2)) (List.toArray [.ref g_t, .ref h0, .int b2]) s 0 0 A) (F0 m 46 ls []) := by
            intro c46_5 c46_6 n46
            induction n46 with
            | zero =>
              intro u46_3 u46_7 hf
              cases hf
            | succ n46 ih46 =>
              have kJ76 : ∀ (u76_7 : Int32) (s76_0 : Int32) (s76_1 : Int32), p_X4_countMissed_J76 F a1 a2 c5_2 c17_4 c46_5 c46_6 (p_X4_countMissed_L5 F a1 a2 c5_2 n5) (p_X4_countMissed_L17 F a1 a2 c5_2 c17_4 (p_X4_countMissed_L5 F a1 a2 c5_2 n5) n17) (p_X4_countMissed_L46 F a1 a2 c5_2 c17_4 c46_5 c46_6 (p_X4_countMissed_L5 F a1 a2 c5_2 n5) (p_X4_countMissed_L17 F a1 a2 c5_2 c17_4 (p_X4_countMissed_L5 F a1 a2 c5_2 n5) n17) n46) u76_7 s76_0 s76_1 = some r0 → ∀ (H : Heap) (locs : List Loc), va_P G.1 vwCl (wW_X4_countMissed G h0 h1 h2 y0_5 x0_0 x0_1 x0_2 a1 a2) H → va_D A (wW_X4_countMissed G h0 h1 h2 y0_5 x0_0 x0_1 x0_2 a1 a2) → va_S A s.heap H locs → ∀ ls : Array Slot, lv_has ls 8 [(1, .ref h0), (2, .int c5_2), (4, .int c17_4), (5, .int c46_5), (6, .int c46_6), (7, .int u76_7)] → W p l e ({ frames := 1, cells := 0, slots := 0, locals := 21 } : Room) s m (List.toArray [.ref g_t, .ref h0, .int b2]) below meth c H locs 0 0 (MQ below (QiS G r0 A (wW_X4_countMissed G h0 h1 h2 y0_5 x0_0 x0_1 x0_2 a1 a2)) (List.toArray [.ref g_t, .ref h0, .int b2]) s 0 0 A) (F0 m 76 ls [.int s76_1, .int s76_0]) := by
                intro u76_7 s76_0 s76_1 hf H locs hP hD hS ls hl
                refine lv_iadd hx hb dX4_countMissed_76 ?_
                refine lv_istore_n (lv' := [(3, .int (s76_0 + s76_1)), (1, .ref h0), (2, .int c5_2), (4, .int c17_4), (5, .int c46_5), (6, .int c46_6), (7, .int u76_7)]) hx hb dX4_countMissed_77 rfl hl (by decide) rfl (fun ls hl => ?_)
                refine lv_iinc (v := u76_7 + (1 : Int32)) (lv' := [(7, .int (u76_7 + (1 : Int32))), (3, .int (s76_0 + s76_1)), (1, .ref h0), (2, .int c5_2), (4, .int c17_4), (5, .int c46_5), (6, .int c46_6)]) hx hb dX4_countMissed_78 hl (k := 6) rfl (by rfl) (by decide) rfl (fun ls hl => ?_)
                refine lv_goto (tgt := 46) hx hb dX4_countMissed_81 (by decide) ?_
                exact ih46 _ _ hf _ _ hP hD hS _ (lv_sub hl [2, 3, 1, 4, 5, 6, 0] rfl)
              intro u46_3 u46_7 hf H locs hP hD hS ls hl
              have hf : p_X4_countMissed_L46b F a1 a2 c5_2 c17_4 c46_5 c46_6 (p_X4_countMissed_L5 F a1 a2 c5_2 n5) (p_X4_countMissed_L17 F a1 a2 c5_2 c17_4 (p_X4_countMissed_L5 F a1 a2 c5_2 n5) n17) (p_X4_countMissed_L46 F a1 a2 c5_2 c17_4 c46_5 c46_6 (p_X4_countMissed_L5 F a1 a2 c5_2 n5) (p_X4_countMissed_L17 F a1 a2 c5_2 c17_4 (p_X4_countMissed_L5 F a1 a2 c5_2 n5) n17) n46) u46_3 u46_7 = some r0 := hf
              refine lv_iload hx hb dX4_countMissed_46 (lv_at hl 6 rfl) ?_
              refine lv_iload_n hx hb dX4_countMissed_48 rfl (lv_at hl 1 rfl) ?_
              refine lv_icmp_ge (tgt := 84) hx hb dX4_countMissed_49 (by decide) (fun c1 => ?_) (fun c1 => ?_)
              · have hf := of_pos hf c1
                refine lv_iinc (v := c46_5 + (1 : Int32)) (lv' := [(5, .int (c46_5 + (1 : Int32))), (1, .ref h0), (2, .int c5_2), (3, .int u46_3), (4, .int c17_4), (6, .int c46_6), (7, .int u46_7)]) hx hb dX4_countMissed_84 hl (k := 4) rfl (by rfl) (by decide) rfl (fun ls hl => ?_)
                refine lv_goto (tgt := 17) hx hb dX4_countMissed_87 (by decide) ?_
                exact ih17 _ _ hf _ _ hP hD hS _ (lv_sub hl [1, 2, 3, 4, 0] rfl)
              · have hf := of_neg hf c1
                refine lv_iload_n hx hb dX4_countMissed_52 rfl (lv_at hl 2 rfl) ?_
                refine lv_aload_n hx hb dX4_countMissed_53 rfl (lv_at hl 0 rfl) ?_
                refine lv_iload hx hb dX4_countMissed_54 (lv_at hl 5 rfl) ?_
                refine lv_aload_n hx hb dX4_countMissed_56 rfl (lv_at hl 0 rfl) ?_
                refine va_get (ci := 1) (v := .ref h1) (C := RX1) (T := TX1) (N := 6) hx hb ht0 iX1 hown hK hP 0 rfl rfl 3 (by decide) (ht0 _ wd_230) (fun _ h9 => h9) rfl dX4_countMissed_57 ?_
                refine lv_iload hx hb dX4_countMissed_60 (lv_at hl 6 rfl) ?_
                obtain ⟨g2, hf⟩ := of_grd hf
                refine va_iald hx hb hK hP 1 0 rfl rfl g2 dX4_countMissed_62 ?_
                refine lv_ixor hx hb dX4_countMissed_63 ?_
                obtain ⟨r_64_2, hc_r_64_2, hf⟩ := of_bnd hf
                refine cl_Vi (w2 := (wW_X4_countMissed G h0 h1 h2 y0_5 x0_0 x0_1 x0_2 a1 a2)) (As := [.int (c46_6 ^^^ (a1 u46_7.toNatClampNeg))]) (rest := [.int u46_3]) ⟨hx, hb, hml, hown, ht0⟩ (c_X1_placeWith l G h0 h2 h1 y0_5 _ x0_0 x0_1 x0_2 a2 F (c46_6 ^^^ (a1 u46_7.toNatClampNeg)) _ hc_r_64_2) yk_X1_placeWith wd_1009 ⟨rfl, rfl, by decide, by decide⟩ ⟨Nat.le_refl _, Nat.le_refl _⟩ hX hK hP hD hS hA [0, 2] [1] [1, 0, 2] (va_recv hK hP (ci := 1) (q0 := 0) rfl rfl) rfl rfl (by decide) rfl rfl rfl rfl rfl hl.1 rfl (Nat.le_of_ble_eq_true rfl) dX4_countMissed_64 (fun H locs hP hD hS => ?_)
                refine lv_iconst (v := (-1 : Int32)) hx hb dX4_countMissed_67 (by decide) ?_
                refine lv_icmp_eq (tgt := 75) hx hb dX4_countMissed_68 (by decide) (fun c4 => ?_) (fun c4 => ?_)
                · have hf := of_pos hf c4
                  refine lv_iconst (v := (0 : Int32)) hx hb dX4_countMissed_75 (by decide) ?_
                  exact kJ76 _ _ _ hf _ _ hP hD hS _ (lv_sub hl [0, 1, 3, 4, 5, 6] rfl)
                · have hf := of_neg hf c4
                  refine lv_iconst (v := (1 : Int32)) hx hb dX4_countMissed_71 (by decide) ?_
                  refine lv_goto (tgt := 76) hx hb dX4_countMissed_72 (by decide) ?_
                  exact kJ76 _ _ _ hf _ _ hP hD hS _ (lv_sub hl [0, 1, 3, 4, 5, 6] rfl)
          intro u17_3 u17_5 hf H locs hP hD hS ls hl
          have hf : p_X4_countMissed_L17b F a1 a2 c5_2 c17_4 (p_X4_countMissed_L5 F a1 a2 c5_2 n5) (p_X4_countMissed_L17 F a1 a2 c5_2 c17_4 (p_X4_countMissed_L5 F a1 a2 c5_2 n5) n17) u17_3 u17_5 = some r0 := hf
          refine lv_iload hx hb dX4_countMissed_17 (lv_at hl 4 rfl) ?_
          refine lv_iload_n hx hb dX4_countMissed_19 rfl (lv_at hl 1 rfl) ?_
          refine lv_icmp_ge (tgt := 90) hx hb dX4_countMissed_20 (by decide) (fun c5 => ?_) (fun c5 => ?_)
          · have hf := of_pos hf c5
            refine lv_iinc (v := c17_4 + (1 : Int32)) (lv' := [(4, .int (c17_4 + (1 : Int32))), (1, .ref h0), (2, .int c5_2), (3, .int u17_3), (5, .int u17_5)]) hx hb dX4_countMissed_90 hl (k := 3) rfl (by rfl) (by decide) rfl (fun ls hl => ?_)
            refine lv_goto (tgt := 5) hx hb dX4_countMissed_93 (by decide) ?_
            exact ih5 _ _ hf _ _ hP hD hS _ (lv_sub hl [1, 2, 3, 0] rfl)
          · have hf := of_neg hf c5
            refine lv_aload_n hx hb dX4_countMissed_23 rfl (lv_at hl 0 rfl) ?_
            refine va_get (ci := 1) (v := .ref h1) (C := RX1) (T := TX1) (N := 6) hx hb ht0 iX1 hown hK hP 0 rfl rfl 3 (by decide) (ht0 _ wd_230) (fun _ h9 => h9) rfl dX4_countMissed_24 ?_
            refine lv_iload hx hb dX4_countMissed_27 (lv_at hl 3 rfl) ?_
            obtain ⟨g6, hf⟩ := of_grd hf
            refine va_iald hx hb hK hP 1 0 rfl rfl g6 dX4_countMissed_29 ?_
            refine lv_aload_n hx hb dX4_countMissed_30 rfl (lv_at hl 0 rfl) ?_
            refine va_get (ci := 1) (v := .ref h1) (C := RX1) (T := TX1) (N := 6) hx hb ht0 iX1 hown hK hP 0 rfl rfl 3 (by decide) (ht0 _ wd_230) (fun _ h9 => h9) rfl dX4_countMissed_31 ?_
            refine lv_iload hx hb dX4_countMissed_34 (lv_at hl 4 rfl) ?_
            obtain ⟨g7, hf⟩ := of_grd hf
            refine va_iald hx hb hK hP 1 0 rfl rfl g7 dX4_countMissed_36 ?_
            refine lv_ixor hx hb dX4_countMissed_37 ?_
            refine lv_topi (fun z8 ez8 => ?_)
            have hf := of_jlet hf ez8
            refine lv_istore (lv' := [(6, .int z8), (1, .ref h0), (2, .int c5_2), (3, .int u17_3), (4, .int c17_4), (5, .int u17_5)]) hx hb dX4_countMissed_38 hl (by decide) rfl (fun ls hl => ?_)
            refine lv_iload hx hb dX4_countMissed_40 (lv_at hl 5 rfl) ?_
            refine lv_iconst (v := (1 : Int32)) hx hb dX4_countMissed_42 (by decide) ?_
            refine lv_iadd hx hb dX4_countMissed_43 ?_
            refine lv_istore (lv' := [(7, .int (u17_5 + (1 : Int32))), (6, .int z8), (1, .ref h0), (2, .int c5_2), (3, .int u17_3), (4, .int c17_4), (5, .int u17_5)]) hx hb dX4_countMissed_44 hl (by decide) rfl (fun ls hl => ?_)
            exact kL46 _ _ _ _ _ hf _ _ hP hD hS _ (lv_sub hl [2, 3, 4, 5, 6, 1, 0] rfl)
      intro u5_3 u5_4 hf H locs hP hD hS ls hl
      have hf : p_X4_countMissed_L5b F a1 a2 c5_2 (p_X4_countMissed_L5 F a1 a2 c5_2 n5) u5_3 u5_4 = some r0 := hf
      refine lv_iload hx hb dX4_countMissed_5 (lv_at hl 3 rfl) ?_
      refine lv_iload_n hx hb dX4_countMissed_7 rfl (lv_at hl 1 rfl) ?_
      refine lv_icmp_ge (tgt := 96) hx hb dX4_countMissed_8 (by decide) (fun c9 => ?_) (fun c9 => ?_)
      · have hf := of_pos hf c9
        refine lv_iload_n hx hb dX4_countMissed_96 rfl (lv_at hl 2 rfl) ?_
        cases hf
        exact ret_i hx hb hr hlk hK hP hD hS dX4_countMissed_97
      · have hf := of_neg hf c9
        refine lv_iload hx hb dX4_countMissed_11 (lv_at hl 3 rfl) ?_
        refine lv_iconst (v := (1 : Int32)) hx hb dX4_countMissed_13 (by decide) ?_
        refine lv_iadd hx hb dX4_countMissed_14 ?_
        refine lv_istore (lv' := [(5, .int (u5_4 + (1 : Int32))), (1, .ref h0), (2, .int c5_2), (3, .int u5_3), (4, .int u5_4)]) hx hb dX4_countMissed_15 hl (by decide) rfl (fun ls hl => ?_)
        exact kL17 _ _ _ _ hf _ _ hP hD hS _ (lv_sub hl [1, 2, 3, 4, 0] rfl)
  refine lv_iconst (v := (0 : Int32)) hx hb dX4_countMissed_0 (by decide) ?_
  refine lv_istore_n (lv' := [(3, .int (0 : Int32)), (0, .ref g_t), (1, .ref h0), (2, .int b2)]) hx hb dX4_countMissed_1 rfl hl (by decide) rfl (fun ls hl => ?_)
  refine lv_iconst (v := (0 : Int32)) hx hb dX4_countMissed_2 (by decide) ?_
  refine lv_istore (lv' := [(4, .int (0 : Int32)), (3, .int (0 : Int32)), (0, .ref g_t), (1, .ref h0), (2, .int b2)]) hx hb dX4_countMissed_3 hl (by decide) rfl (fun ls hl => ?_)
  exact kL5 _ _ _ _ hf _ _ hP hD hS _ (lv_sub hl [3, 4, 1, 0] rfl)
theorem yk_X4_countMissed : ykV yX4_countMissed RX4 cX4_countMissed 8 (some .int) 2 := ⟨wd_1006, wd_1007, wd_136, wd_1008, rfl, by decide +kernel, by decide +kernel, by decide +kernel⟩
theorem dX4_countUnseen_0 : decode cX4_countUnseen 0 = .ok (.aload_n 0, 1) := by decide +kernel
theorem dX4_countUnseen_1 : decode cX4_countUnseen 1 = .ok (.aload_n 1, 1) := by decide +kernel
theorem dX4_countUnseen_2 : decode cX4_countUnseen 2 = .ok (.aload_n 1, 1) := by decide +kernel
theorem dX4_countUnseen_3 : decode cX4_countUnseen 3 = .ok (.invokevirtual 49, 3) := by decide +kernel
theorem dX4_countUnseen_6 : decode cX4_countUnseen 6 = .ok (.invokevirtual 53, 3) := by decide +kernel
theorem dX4_countUnseen_9 : decode cX4_countUnseen 9 = .ok (.iconst 4, 1) := by decide +kernel
theorem dX4_countUnseen_10 : decode cX4_countUnseen 10 = .ok (.idiv, 1) := by decide +kernel
theorem dX4_countUnseen_11 : decode cX4_countUnseen 11 = .ok (.ireturn, 1) := by decide +kernel
def wW_X4_countUnseen (G : GG) (h0 h1 h2 h3 y0_0 y0_1 y0_2 y0_3 y1_5 : Nat) (x0_4 : Int32) (x0_5 : Int32) (x0_6 : Int32) (x1_0 : Int32) (x1_1 : Int32) (x1_2 : Int32) (a2 : Nat → Int32) (a3 : Nat → Int32) : va_W := [(h0, .inr (4, [.ref y0_0, .ref y0_1, .ref y0_2, .ref y0_3, .int x0_4, .int x0_5, .int x0_6])), (h1, .inr (1, [.int x1_0, .int x1_1, .int x1_2, .ref h2, .ref h3, .ref y1_5])), (h2, .inl (G.2.1, 32, .inl a2)), (h3, .inl (G.2.1, 256, .inl a3))]
set_option maxHeartbeats 4000000 in
set_option maxRecDepth 100000 in
theorem c_X4_countUnseen (l : Launch) (G : GG) (h0 h1 h2 h3 y0_0 y0_1 y0_2 y0_3 y1_5 : Nat) (sz : Nat) (x0_4 : Int32) (x0_5 : Int32) (x0_6 : Int32) (x1_0 : Int32) (x1_1 : Int32) (x1_2 : Int32) (a2 : Nat → Int32) (a3 : Nat → Int32) (F : Nat)   (r0 : Int32) (hf : p_X4_countUnseen F x1_0 x1_1 a2 a3  = some r0) : Met l yX4_countUnseen (.code yX4_countUnseen cX4_countUnseen 2 (some .int) :: gtbl) ({ frames := 2, cells := 0, slots := 0, locals := 48 } : Room) (PcS G [.ref h0, .ref h1] (wW_X4_countUnseen G h0 h1 h2 h3 y0_0 y0_1 y0_2 y0_3 y1_5 x0_4 x0_5 x0_6 x1_0 x1_1 x1_2 a2 a3) sz) (QiS G r0 (va_A (wW_X4_countUnseen G h0 h1 h2 h3 y0_0 y0_1 y0_2 y0_3 y1_5 x0_4 x0_5 x0_6 x1_0 x1_1 x1_2 a2 a3) sz) (wW_X4_countUnseen G h0 h1 h2 h3 y0_0 y0_1 y0_2 y0_3 y1_5 x0_4 x0_5 x0_6 x1_0 x1_1 x1_2 a2 a3)) 0 0 (va_A (wW_X4_countUnseen G h0 h1 h2 h3 y0_0 y0_1 y0_2 y0_3 y1_5 x0_4 x0_5 x0_6 x1_0 x1_1 x1_2 a2 a3) sz) := by
  refine met_start (by decide) (Nat.le_of_ble_eq_true rfl) ?_
  intro p e s m below meth c hC hr hlk hnm hK hP hD hA hS hX ls hl
  obtain ⟨hx, hb, hml, hown, ht0⟩ := hC
  have hown : s.vm.findClass RX4 = some m.cls := hown
  generalize va_A (wW_X4_countUnseen G h0 h1 h2 h3 y0_0 y0_1 y0_2 y0_3 y1_5 x0_4 x0_5 x0_6 x1_0 x1_1 x1_2 a2 a3) sz = A at hD hA hS hX ⊢
  have hl : lv_has ls 2 [(0, .ref h0), (1, .ref h1)] := hl
  have hf : p_X4_countUnseen F x1_0 x1_1 a2 a3  = some r0 := hf
  refine lv_aload_n hx hb dX4_countUnseen_0 rfl (lv_at hl 0 rfl) ?_
  refine lv_aload_n hx hb dX4_countUnseen_1 rfl (lv_at hl 1 rfl) ?_
  refine lv_aload_n hx hb dX4_countUnseen_2 rfl (lv_at hl 1 rfl) ?_
  obtain ⟨r_3_0, hc_r_3_0, hf⟩ := of_bnd hf
  refine cl_Vi (w2 := (wW_X4_countUnseen G h0 h1 h2 h3 y0_0 y0_1 y0_2 y0_3 y1_5 x0_4 x0_5 x0_6 x1_0 x1_1 x1_2 a2 a3)) (As := []) (rest := [.ref h1, .ref h0]) ⟨hx, hb, hml, hown, ht0⟩ (c_X1_places l G h1 h2 h3 y1_5 _ x1_0 x1_1 x1_2 F _ hc_r_3_0) yk_X1_places wd_1000 ⟨rfl, rfl, by decide, by decide⟩ ⟨Nat.le_refl _, Nat.le_refl _⟩ hX hK hP hD hS hA [1] [0, 2, 3] [0, 3, 1, 2] (va_recv hK hP (ci := 1) (q0 := 1) rfl rfl) rfl rfl (by decide) rfl rfl rfl rfl rfl hl.1 rfl (Nat.le_of_ble_eq_true rfl) dX4_countUnseen_3 (fun H locs hP hD hS => ?_)
  obtain ⟨r_6_1, hc_r_6_1, hf⟩ := of_bnd hf
  refine cl_Vi (w2 := (wW_X4_countUnseen G h0 h1 h2 h3 y0_0 y0_1 y0_2 y0_3 y1_5 x0_4 x0_5 x0_6 x1_0 x1_1 x1_2 a2 a3)) (As := [.ref h1, .int r_3_0]) (rest := []) ⟨hx, hb, hml, hown, ht0⟩ (c_X4_countMissed l G h0 h1 h2 h3 y1_5 _ x1_0 x1_1 x1_2 a2 a3 F r_3_0 _ hc_r_6_1) yk_X4_countMissed wd_1005 ⟨rfl, rfl, by decide, by decide⟩ ⟨Nat.le_refl _, Nat.le_refl _⟩ hX hK hP hD hS hA [1, 2, 3] [0] [0, 1, 2, 3] (va_recv hK hP (ci := 4) (q0 := 0) rfl rfl) rfl rfl (by decide) rfl rfl rfl rfl rfl hl.1 rfl (Nat.le_of_ble_eq_true rfl) dX4_countUnseen_6 (fun H locs hP hD hS => ?_)
  refine lv_iconst (v := (4 : Int32)) hx hb dX4_countUnseen_9 (by decide) ?_
  refine lv_idiv hx hb dX4_countUnseen_10 (by decide) ?_
  cases hf
  exact ret_i hx hb hr hlk hK hP hD hS dX4_countUnseen_11
theorem yk_X4_countUnseen : ykV yX4_countUnseen RX4 cX4_countUnseen 2 (some .int) 1 := ⟨wd_1002, wd_1003, wd_136, wd_1004, rfl, by decide +kernel, by decide +kernel, by decide +kernel⟩
theorem dX4_countMistaken_0 : decode cX4_countMistaken 0 = .ok (.iconst 0, 1) := by decide +kernel
theorem dX4_countMistaken_1 : decode cX4_countMistaken 1 = .ok (.istore_n 2, 1) := by decide +kernel
theorem dX4_countMistaken_2 : decode cX4_countMistaken 2 = .ok (.aload_n 1, 1) := by decide +kernel
theorem dX4_countMistaken_3 : decode cX4_countMistaken 3 = .ok (.getfield 57, 3) := by decide +kernel
theorem dX4_countMistaken_6 : decode cX4_countMistaken 6 = .ok (.ifCond .eq 10, 3) := by decide +kernel
theorem dX4_countMistaken_9 : decode cX4_countMistaken 9 = .ok (.aload_n 1, 1) := by decide +kernel
theorem dX4_countMistaken_10 : decode cX4_countMistaken 10 = .ok (.invokevirtual 49, 3) := by decide +kernel
theorem dX4_countMistaken_13 : decode cX4_countMistaken 13 = .ok (.goto 4, 3) := by decide +kernel
theorem dX4_countMistaken_16 : decode cX4_countMistaken 16 = .ok (.iconst 0, 1) := by decide +kernel
theorem dX4_countMistaken_17 : decode cX4_countMistaken 17 = .ok (.istore_n 3, 1) := by decide +kernel
theorem dX4_countMistaken_18 : decode cX4_countMistaken 18 = .ok (.iconst 0, 1) := by decide +kernel
theorem dX4_countMistaken_19 : decode cX4_countMistaken 19 = .ok (.istore 4, 2) := by decide +kernel
theorem dX4_countMistaken_21 : decode cX4_countMistaken 21 = .ok (.iload 4, 2) := by decide +kernel
theorem dX4_countMistaken_23 : decode cX4_countMistaken 23 = .ok (.iload_n 3, 1) := by decide +kernel
theorem dX4_countMistaken_24 : decode cX4_countMistaken 24 = .ok (.if_icmp .ge 58, 3) := by decide +kernel
theorem dX4_countMistaken_27 : decode cX4_countMistaken 27 = .ok (.iload 4, 2) := by decide +kernel
theorem dX4_countMistaken_29 : decode cX4_countMistaken 29 = .ok (.iconst 2, 1) := by decide +kernel
theorem dX4_countMistaken_30 : decode cX4_countMistaken 30 = .ok (.iadd, 1) := by decide +kernel
theorem dX4_countMistaken_31 : decode cX4_countMistaken 31 = .ok (.istore 5, 2) := by decide +kernel
theorem dX4_countMistaken_33 : decode cX4_countMistaken 33 = .ok (.iload 5, 2) := by decide +kernel
theorem dX4_countMistaken_35 : decode cX4_countMistaken 35 = .ok (.iload_n 3, 1) := by decide +kernel
theorem dX4_countMistaken_36 : decode cX4_countMistaken 36 = .ok (.if_icmp .ge 40, 3) := by decide +kernel
theorem dX4_countMistaken_39 : decode cX4_countMistaken 39 = .ok (.iload_n 2, 1) := by decide +kernel
theorem dX4_countMistaken_40 : decode cX4_countMistaken 40 = .ok (.aload_n 1, 1) := by decide +kernel
theorem dX4_countMistaken_41 : decode cX4_countMistaken 41 = .ok (.aload_n 1, 1) := by decide +kernel
theorem dX4_countMistaken_42 : decode cX4_countMistaken 42 = .ok (.getfield 42, 3) := by decide +kernel
theorem dX4_countMistaken_45 : decode cX4_countMistaken 45 = .ok (.iload 4, 2) := by decide +kernel
theorem dX4_countMistaken_47 : decode cX4_countMistaken 47 = .ok (.iaload, 1) := by decide +kernel
theorem dX4_countMistaken_48 : decode cX4_countMistaken 48 = .ok (.aload_n 1, 1) := by decide +kernel
theorem dX4_countMistaken_49 : decode cX4_countMistaken 49 = .ok (.getfield 42, 3) := by decide +kernel
theorem dX4_countMistaken_52 : decode cX4_countMistaken 52 = .ok (.iload 5, 2) := by decide +kernel
theorem dX4_countMistaken_54 : decode cX4_countMistaken 54 = .ok (.iaload, 1) := by decide +kernel
theorem dX4_countMistaken_55 : decode cX4_countMistaken 55 = .ok (.ixor, 1) := by decide +kernel
theorem dX4_countMistaken_56 : decode cX4_countMistaken 56 = .ok (.invokevirtual 61, 3) := by decide +kernel
theorem dX4_countMistaken_59 : decode cX4_countMistaken 59 = .ok (.iconst (-1), 1) := by decide +kernel
theorem dX4_countMistaken_60 : decode cX4_countMistaken 60 = .ok (.if_icmp .eq 7, 3) := by decide +kernel
theorem dX4_countMistaken_63 : decode cX4_countMistaken 63 = .ok (.iconst 1, 1) := by decide +kernel
theorem dX4_countMistaken_64 : decode cX4_countMistaken 64 = .ok (.goto 4, 3) := by decide +kernel
theorem dX4_countMistaken_67 : decode cX4_countMistaken 67 = .ok (.iconst 0, 1) := by decide +kernel
theorem dX4_countMistaken_68 : decode cX4_countMistaken 68 = .ok (.iadd, 1) := by decide +kernel
theorem dX4_countMistaken_69 : decode cX4_countMistaken 69 = .ok (.istore_n 2, 1) := by decide +kernel
theorem dX4_countMistaken_70 : decode cX4_countMistaken 70 = .ok (.iinc 5 1, 3) := by decide +kernel
theorem dX4_countMistaken_73 : decode cX4_countMistaken 73 = .ok (.goto (-40), 3) := by decide +kernel
theorem dX4_countMistaken_76 : decode cX4_countMistaken 76 = .ok (.iinc 4 1, 3) := by decide +kernel
theorem dX4_countMistaken_79 : decode cX4_countMistaken 79 = .ok (.goto (-58), 3) := by decide +kernel
theorem dX4_countMistaken_82 : decode cX4_countMistaken 82 = .ok (.iload_n 2, 1) := by decide +kernel
theorem dX4_countMistaken_83 : decode cX4_countMistaken 83 = .ok (.ireturn, 1) := by decide +kernel
def wW_X4_countMistaken (G : GG) (h0 h1 h2 y0_4 : Nat) (x0_0 : Int32) (x0_1 : Int32) (x0_2 : Int32) (a1 : Nat → Int32) (a2 : Nat → Int32) : va_W := [(h0, .inr (1, [.int x0_0, .int x0_1, .int x0_2, .ref h1, .ref y0_4, .ref h2])), (h1, .inl (G.2.1, 32, .inl a1)), (h2, .inl (G.2.1, 256, .inl a2))]
set_option maxHeartbeats 4000000 in
set_option maxRecDepth 100000 in
theorem c_X4_countMistaken (l : Launch) (G : GG) (g_t h0 h1 h2 y0_4 : Nat) (sz : Nat) (x0_0 : Int32) (x0_1 : Int32) (x0_2 : Int32) (a1 : Nat → Int32) (a2 : Nat → Int32) (F : Nat)   (r0 : Int32) (hf : p_X4_countMistaken F x0_0 x0_1 x0_2 a1 a2  = some r0) : Met l yX4_countMistaken (.code yX4_countMistaken cX4_countMistaken 6 (some .int) :: gtbl) ({ frames := 1, cells := 0, slots := 0, locals := 21 } : Room) (PcS G [.ref g_t, .ref h0] (wW_X4_countMistaken G h0 h1 h2 y0_4 x0_0 x0_1 x0_2 a1 a2) sz) (QiS G r0 (va_A (wW_X4_countMistaken G h0 h1 h2 y0_4 x0_0 x0_1 x0_2 a1 a2) sz) (wW_X4_countMistaken G h0 h1 h2 y0_4 x0_0 x0_1 x0_2 a1 a2)) 0 0 (va_A (wW_X4_countMistaken G h0 h1 h2 y0_4 x0_0 x0_1 x0_2 a1 a2) sz) := by
  refine met_start (by decide) (Nat.le_of_ble_eq_true rfl) ?_
  intro p e s m below meth c hC hr hlk hnm hK hP hD hA hS hX ls hl
  obtain ⟨hx, hb, hml, hown, ht0⟩ := hC
  have hown : s.vm.findClass RX4 = some m.cls := hown
  generalize va_A (wW_X4_countMistaken G h0 h1 h2 y0_4 x0_0 x0_1 x0_2 a1 a2) sz = A at hD hA hS hX ⊢
  have hl : lv_has ls 6 [(0, .ref g_t), (1, .ref h0)] := hl
  have hf : p_X4_countMistaken F x0_0 x0_1 x0_2 a1 a2  = some r0 := hf
  have kL21 : ∀ (c21_3 : Int32) (n21 : Nat) (u21_2 : Int32) (u21_4 : Int32), p_X4_countMistaken_L21 F x0_0 x0_1 x0_2 a1 a2 c21_3 n21 u21_2 u21_4 = some r0 → ∀ (H : Heap) (locs : List Loc), va_P G.1 vwCl (wW_X4_countMistaken G h0 h1 h2 y0_4 x0_0 x0_1 x0_2 a1 a2) H → va_D A (wW_X4_countMistaken G h0 h1 h2 y0_4 x0_0 x0_1 x0_2 a1 a2) → va_S A s.heap H locs → ∀ ls : Array Slot, lv_has ls 6 [(1, .ref h0), (2, .int u21_2), (3, .int c21_3), (4, .int u21_4)] → W p l e ({ frames := 1, cells := 0, slots := 0, locals := 21 } : Room) s m (List.toArray [.ref g_t, .ref h0]) below meth c H locs 0 0 (MQ below (QiS G r0 A (wW_X4_countMistaken G h0 h1 h2 y0_4 x0_0 x0_1 x0_2 a1 a2)) (List.toArray [.ref g_t, .ref h0]) s 0 0 A) (F0 m 21 ls []) := by
    intro c21_3 n21
    induction n21 with
    | zero =>
      intro u21_2 u21_4 hf
      cases hf
    | succ n21 ih21 =>
      have kL33 : ∀ (c33_4 : Int32) (n33 : Nat) (u33_2 : Int32) (u33_5 : Int32), p_X4_countMistaken_L33 F x0_0 x0_1 x0_2 a1 a2 c21_3 c33_4 (p_X4_countMistaken_L21 F x0_0 x0_1 x0_2 a1 a2 c21_3 n21) n33 u33_2 u33_5 = some r0 → ∀ (H : Heap) (locs : List Loc), va_P G.1 vwCl (wW_X4_countMistaken G h0 h1 h2 y0_4 x0_0 x0_1 x0_2 a1 a2) H → va_D A (wW_X4_countMistaken G h0 h1 h2 y0_4 x0_0 x0_1 x0_2 a1 a2) → va_S A s.heap H locs → ∀ ls : Array Slot, lv_has ls 6 [(1, .ref h0), (2, .int u33_2), (3, .int c21_3), (4, .int c33_4), (5, .int u33_5)] → W p l e ({ frames := 1, cells := 0, slots := 0, locals := 21 } : Room) s m (List.toArray [.ref g_t, .ref h0]) below meth c H locs 0 0 (MQ below (QiS G r0 A (wW_X4_countMistaken G h0 h1 h2 y0_4 x0_0 x0_1 x0_2 a1 a2)) (List.toArray [.ref g_t, .ref h0]) s 0 0 A) (F0 m 33 ls []) := by
        intro c33_4 n33
        induction n33 with
        | zero =>
          intro u33_2 u33_5 hf
          cases hf
        | succ n33 ih33 =>
          have kJ68 : ∀ (u68_5 : Int32) (s68_0 : Int32) (s68_1 : Int32), p_X4_countMistaken_J68 F x0_0 x0_1 x0_2 a1 a2 c21_3 c33_4 (p_X4_countMistaken_L21 F x0_0 x0_1 x0_2 a1 a2 c21_3 n21) (p_X4_countMistaken_L33 F x0_0 x0_1 x0_2 a1 a2 c21_3 c33_4 (p_X4_countMistaken_L21 F x0_0 x0_1 x0_2 a1 a2 c21_3 n21) n33) u68_5 s68_0 s68_1 = some r0 → ∀ (H : Heap) (locs : List Loc), va_P G.1 vwCl (wW_X4_countMistaken G h0 h1 h2 y0_4 x0_0 x0_1 x0_2 a1 a2) H → va_D A (wW_X4_countMistaken G h0 h1 h2 y0_4 x0_0 x0_1 x0_2 a1 a2) → va_S A s.heap H locs → ∀ ls : Array Slot, lv_has ls 6 [(1, .ref h0), (3, .int c21_3), (4, .int c33_4), (5, .int u68_5)] → W p l e ({ frames := 1, cells := 0, slots := 0, locals := 21 } : Room) s m (List.toArray [.ref g_t, .ref h0]) below meth c H locs 0 0 (MQ below (QiS G r0 A (wW_X4_countMistaken G h0 h1 h2 y0_4 x0_0 x0_1 x0_2 a1 a2)) (List.toArray [.ref g_t, .ref h0]) s 0 0 A) (F0 m 68 ls [.int s68_1, .int s68_0]) := by
            intro u68_5 s68_0 s68_1 hf H locs hP hD hS ls hl
            refine lv_iadd hx hb dX4_countMistaken_68 ?_
            refine lv_istore_n (lv' := [(2, .int (s68_0 + s68_1)), (1, .ref h0), (3, .int c21_3), (4, .int c33_4), (5, .int u68_5)]) hx hb dX4_countMistaken_69 rfl hl (by decide) rfl (fun ls hl => ?_)
            refine lv_iinc (v := u68_5 + (1 : Int32)) (lv' := [(5, .int (u68_5 + (1 : Int32))), (2, .int (s68_0 + s68_1)), (1, .ref h0), (3, .int c21_3), (4, .int c33_4)]) hx hb dX4_countMistaken_70 hl (k := 4) rfl (by rfl) (by decide) rfl (fun ls hl => ?_)
            refine lv_goto (tgt := 33) hx hb dX4_countMistaken_73 (by decide) ?_
            exact ih33 _ _ hf _ _ hP hD hS _ (lv_sub hl [2, 1, 3, 4, 0] rfl)
          intro u33_2 u33_5 hf H locs hP hD hS ls hl
          have hf : p_X4_countMistaken_L33b F x0_0 x0_1 x0_2 a1 a2 c21_3 c33_4 (p_X4_countMistaken_L21 F x0_0 x0_1 x0_2 a1 a2 c21_3 n21) (p_X4_countMistaken_L33 F x0_0 x0_1 x0_2 a1 a2 c21_3 c33_4 (p_X4_countMistaken_L21 F x0_0 x0_1 x0_2 a1 a2 c21_3 n21) n33) u33_2 u33_5 = some r0 := hf
          refine lv_iload hx hb dX4_countMistaken_33 (lv_at hl 4 rfl) ?_
          refine lv_iload_n hx hb dX4_countMistaken_35 rfl (lv_at hl 2 rfl) ?_
          refine lv_icmp_ge (tgt := 76) hx hb dX4_countMistaken_36 (by decide) (fun c1 => ?_) (fun c1 => ?_)
          · have hf := of_pos hf c1
            refine lv_iinc (v := c33_4 + (1 : Int32)) (lv' := [(4, .int (c33_4 + (1 : Int32))), (1, .ref h0), (2, .int u33_2), (3, .int c21_3), (5, .int u33_5)]) hx hb dX4_countMistaken_76 hl (k := 3) rfl (by rfl) (by decide) rfl (fun ls hl => ?_)
            refine lv_goto (tgt := 21) hx hb dX4_countMistaken_79 (by decide) ?_
            exact ih21 _ _ hf _ _ hP hD hS _ (lv_sub hl [1, 2, 3, 0] rfl)
          · have hf := of_neg hf c1
            refine lv_iload_n hx hb dX4_countMistaken_39 rfl (lv_at hl 1 rfl) ?_
            refine lv_aload_n hx hb dX4_countMistaken_40 rfl (lv_at hl 0 rfl) ?_
            refine lv_aload_n hx hb dX4_countMistaken_41 rfl (lv_at hl 0 rfl) ?_
            refine va_get (ci := 1) (v := .ref h1) (C := RX1) (T := TX1) (N := 6) hx hb ht0 iX1 hown hK hP 0 rfl rfl 3 (by decide) (ht0 _ wd_230) (fun _ h9 => h9) rfl dX4_countMistaken_42 ?_
            refine lv_iload hx hb dX4_countMistaken_45 (lv_at hl 3 rfl) ?_
            obtain ⟨g2, hf⟩ := of_grd hf
            refine va_iald hx hb hK hP 1 0 rfl rfl g2 dX4_countMistaken_47 ?_
            refine lv_aload_n hx hb dX4_countMistaken_48 rfl (lv_at hl 0 rfl) ?_
            refine va_get (ci := 1) (v := .ref h1) (C := RX1) (T := TX1) (N := 6) hx hb ht0 iX1 hown hK hP 0 rfl rfl 3 (by decide) (ht0 _ wd_230) (fun _ h9 => h9) rfl dX4_countMistaken_49 ?_
            refine lv_iload hx hb dX4_countMistaken_52 (lv_at hl 4 rfl) ?_
            obtain ⟨g3, hf⟩ := of_grd hf
            refine va_iald hx hb hK hP 1 0 rfl rfl g3 dX4_countMistaken_54 ?_
            refine lv_ixor hx hb dX4_countMistaken_55 ?_
            obtain ⟨r_56_3, hc_r_56_3, hf⟩ := of_bnd hf
            refine cl_Vi (w2 := (wW_X4_countMistaken G h0 h1 h2 y0_4 x0_0 x0_1 x0_2 a1 a2)) (As := [.int ((a1 c33_4.toNatClampNeg) ^^^ (a1 u33_5.toNatClampNeg))]) (rest := [.int u33_2]) ⟨hx, hb, hml, hown, ht0⟩ (c_X1_pairWith l G h0 h2 h1 y0_4 _ x0_0 x0_1 x0_2 a2 F ((a1 c33_4.toNatClampNeg) ^^^ (a1 u33_5.toNatClampNeg)) _ hc_r_56_3) yk_X1_pairWith wd_1100 ⟨rfl, rfl, by decide, by decide⟩ ⟨Nat.le_refl _, Nat.le_refl _⟩ hX hK hP hD hS hA [0, 2] [1] [1, 0, 2] (va_recv hK hP (ci := 1) (q0 := 0) rfl rfl) rfl rfl (by decide) rfl rfl rfl rfl rfl hl.1 rfl (Nat.le_of_ble_eq_true rfl) dX4_countMistaken_56 (fun H locs hP hD hS => ?_)
            refine lv_iconst (v := (-1 : Int32)) hx hb dX4_countMistaken_59 (by decide) ?_
            refine lv_icmp_eq (tgt := 67) hx hb dX4_countMistaken_60 (by decide) (fun c5 => ?_) (fun c5 => ?_)
            · have hf := of_pos hf c5
              refine lv_iconst (v := (0 : Int32)) hx hb dX4_countMistaken_67 (by decide) ?_
              exact kJ68 _ _ _ hf _ _ hP hD hS _ (lv_sub hl [0, 2, 3, 4] rfl)
            · have hf := of_neg hf c5
              refine lv_iconst (v := (1 : Int32)) hx hb dX4_countMistaken_63 (by decide) ?_
              refine lv_goto (tgt := 68) hx hb dX4_countMistaken_64 (by decide) ?_
              exact kJ68 _ _ _ hf _ _ hP hD hS _ (lv_sub hl [0, 2, 3, 4] rfl)
      intro u21_2 u21_4 hf H locs hP hD hS ls hl
      have hf : p_X4_countMistaken_L21b F x0_0 x0_1 x0_2 a1 a2 c21_3 (p_X4_countMistaken_L21 F x0_0 x0_1 x0_2 a1 a2 c21_3 n21) u21_2 u21_4 = some r0 := hf
      refine lv_iload hx hb dX4_countMistaken_21 (lv_at hl 3 rfl) ?_
      refine lv_iload_n hx hb dX4_countMistaken_23 rfl (lv_at hl 2 rfl) ?_
      refine lv_icmp_ge (tgt := 82) hx hb dX4_countMistaken_24 (by decide) (fun c6 => ?_) (fun c6 => ?_)
      · have hf := of_pos hf c6
        refine lv_iload_n hx hb dX4_countMistaken_82 rfl (lv_at hl 1 rfl) ?_
        cases hf
        exact ret_i hx hb hr hlk hK hP hD hS dX4_countMistaken_83
      · have hf := of_neg hf c6
        refine lv_iload hx hb dX4_countMistaken_27 (lv_at hl 3 rfl) ?_
        refine lv_iconst (v := (2 : Int32)) hx hb dX4_countMistaken_29 (by decide) ?_
        refine lv_iadd hx hb dX4_countMistaken_30 ?_
        refine lv_istore (lv' := [(5, .int (u21_4 + (2 : Int32))), (1, .ref h0), (2, .int u21_2), (3, .int c21_3), (4, .int u21_4)]) hx hb dX4_countMistaken_31 hl (by decide) rfl (fun ls hl => ?_)
        exact kL33 _ _ _ _ hf _ _ hP hD hS _ (lv_sub hl [1, 2, 3, 4, 0] rfl)
  have kJ17 : ∀ (u17_2 : Int32) (s17_0 : Int32), p_X4_countMistaken_J17 F x0_0 x0_1 x0_2 a1 a2 u17_2 s17_0 = some r0 → ∀ (H : Heap) (locs : List Loc), va_P G.1 vwCl (wW_X4_countMistaken G h0 h1 h2 y0_4 x0_0 x0_1 x0_2 a1 a2) H → va_D A (wW_X4_countMistaken G h0 h1 h2 y0_4 x0_0 x0_1 x0_2 a1 a2) → va_S A s.heap H locs → ∀ ls : Array Slot, lv_has ls 6 [(1, .ref h0), (2, .int u17_2)] → W p l e ({ frames := 1, cells := 0, slots := 0, locals := 21 } : Room) s m (List.toArray [.ref g_t, .ref h0]) below meth c H locs 0 0 (MQ below (QiS G r0 A (wW_X4_countMistaken G h0 h1 h2 y0_4 x0_0 x0_1 x0_2 a1 a2)) (List.toArray [.ref g_t, .ref h0]) s 0 0 A) (F0 m 17 ls [.int s17_0]) := by
    intro u17_2 s17_0 hf H locs hP hD hS ls hl
    refine lv_istore_n (lv' := [(3, .int s17_0), (1, .ref h0), (2, .int u17_2)]) hx hb dX4_countMistaken_17 rfl hl (by decide) rfl (fun ls hl => ?_)
    refine lv_iconst (v := (0 : Int32)) hx hb dX4_countMistaken_18 (by decide) ?_
    refine lv_istore (lv' := [(4, .int (0 : Int32)), (3, .int s17_0), (1, .ref h0), (2, .int u17_2)]) hx hb dX4_countMistaken_19 hl (by decide) rfl (fun ls hl => ?_)
    exact kL21 _ _ _ _ hf _ _ hP hD hS _ (lv_sub hl [2, 3, 1, 0] rfl)
  refine lv_iconst (v := (0 : Int32)) hx hb dX4_countMistaken_0 (by decide) ?_
  refine lv_istore_n (lv' := [(2, .int (0 : Int32)), (0, .ref g_t), (1, .ref h0)]) hx hb dX4_countMistaken_1 rfl hl (by decide) rfl (fun ls hl => ?_)
  refine lv_aload_n hx hb dX4_countMistaken_2 rfl (lv_at hl 2 rfl) ?_
  refine va_get (ci := 1) (v := .int x0_2) (C := RX1) (T := TX1) (N := 6) hx hb ht0 iX1 hown hK hP 0 rfl rfl 2 (by decide) (ht0 _ wd_222) (fun _ h9 => h9) rfl dX4_countMistaken_3 ?_
  refine lv_if_eq (tgt := 16) hx hb dX4_countMistaken_6 (by decide) (fun c7 => ?_) (fun c7 => ?_)
  · have hf := of_pos hf c7
    refine lv_iconst (v := (0 : Int32)) hx hb dX4_countMistaken_16 (by decide) ?_
    exact kJ17 _ _ hf _ _ hP hD hS _ (lv_sub hl [2, 0] rfl)
  · have hf := of_neg hf c7
    refine lv_aload_n hx hb dX4_countMistaken_9 rfl (lv_at hl 2 rfl) ?_
    obtain ⟨r_10_7, hc_r_10_7, hf⟩ := of_bnd hf
    refine cl_Vi (w2 := (wW_X4_countMistaken G h0 h1 h2 y0_4 x0_0 x0_1 x0_2 a1 a2)) (As := []) (rest := []) ⟨hx, hb, hml, hown, ht0⟩ (c_X1_places l G h0 h1 y0_4 h2 _ x0_0 x0_1 x0_2 F _ hc_r_10_7) yk_X1_places wd_1000 ⟨rfl, rfl, by decide, by decide⟩ ⟨Nat.le_refl _, Nat.le_refl _⟩ hX hK hP hD hS hA [0] [1, 2] [2, 0, 1] (va_recv hK hP (ci := 1) (q0 := 0) rfl rfl) rfl rfl (by decide) rfl rfl rfl rfl rfl hl.1 rfl (Nat.le_of_ble_eq_true rfl) dX4_countMistaken_10 (fun H locs hP hD hS => ?_)
    refine lv_goto (tgt := 17) hx hb dX4_countMistaken_13 (by decide) ?_
    exact kJ17 _ _ hf _ _ hP hD hS _ (lv_sub hl [2, 0] rfl)
theorem yk_X4_countMistaken : ykV yX4_countMistaken RX4 cX4_countMistaken 6 (some .int) 1 := ⟨wd_1097, wd_1098, wd_136, wd_1099, rfl, by decide +kernel, by decide +kernel, by decide +kernel⟩
theorem dX4_countLoneXors_0 : decode cX4_countLoneXors 0 = .ok (.aload_n 0, 1) := by decide +kernel
theorem dX4_countLoneXors_1 : decode cX4_countLoneXors 1 = .ok (.getfield 15, 3) := by decide +kernel
theorem dX4_countLoneXors_4 : decode cX4_countLoneXors 4 = .ok (.iconst 0, 1) := by decide +kernel
theorem dX4_countLoneXors_5 : decode cX4_countLoneXors 5 = .ok (.invokestatic 64, 3) := by decide +kernel
theorem dX4_countLoneXors_8 : decode cX4_countLoneXors 8 = .ok (.iconst 1, 1) := by decide +kernel
theorem dX4_countLoneXors_9 : decode cX4_countLoneXors 9 = .ok (.istore_n 2, 1) := by decide +kernel
theorem dX4_countLoneXors_10 : decode cX4_countLoneXors 10 = .ok (.iload_n 2, 1) := by decide +kernel
theorem dX4_countLoneXors_11 : decode cX4_countLoneXors 11 = .ok (.aload_n 1, 1) := by decide +kernel
theorem dX4_countLoneXors_12 : decode cX4_countLoneXors 12 = .ok (.invokevirtual 49, 3) := by decide +kernel
theorem dX4_countLoneXors_15 : decode cX4_countLoneXors 15 = .ok (.if_icmp .ge 33, 3) := by decide +kernel
theorem dX4_countLoneXors_18 : decode cX4_countLoneXors 18 = .ok (.aload_n 0, 1) := by decide +kernel
theorem dX4_countLoneXors_19 : decode cX4_countLoneXors 19 = .ok (.getfield 15, 3) := by decide +kernel
theorem dX4_countLoneXors_22 : decode cX4_countLoneXors 22 = .ok (.aload_n 1, 1) := by decide +kernel
theorem dX4_countLoneXors_23 : decode cX4_countLoneXors 23 = .ok (.getfield 42, 3) := by decide +kernel
theorem dX4_countLoneXors_26 : decode cX4_countLoneXors 26 = .ok (.iload_n 2, 1) := by decide +kernel
theorem dX4_countLoneXors_27 : decode cX4_countLoneXors 27 = .ok (.iconst 1, 1) := by decide +kernel
theorem dX4_countLoneXors_28 : decode cX4_countLoneXors 28 = .ok (.isub, 1) := by decide +kernel
theorem dX4_countLoneXors_29 : decode cX4_countLoneXors 29 = .ok (.iaload, 1) := by decide +kernel
theorem dX4_countLoneXors_30 : decode cX4_countLoneXors 30 = .ok (.aload_n 1, 1) := by decide +kernel
theorem dX4_countLoneXors_31 : decode cX4_countLoneXors 31 = .ok (.getfield 42, 3) := by decide +kernel
theorem dX4_countLoneXors_34 : decode cX4_countLoneXors 34 = .ok (.iload_n 2, 1) := by decide +kernel
theorem dX4_countLoneXors_35 : decode cX4_countLoneXors 35 = .ok (.iaload, 1) := by decide +kernel
theorem dX4_countLoneXors_36 : decode cX4_countLoneXors 36 = .ok (.ixor, 1) := by decide +kernel
theorem dX4_countLoneXors_37 : decode cX4_countLoneXors 37 = .ok (.dup2, 1) := by decide +kernel
theorem dX4_countLoneXors_38 : decode cX4_countLoneXors 38 = .ok (.iaload, 1) := by decide +kernel
theorem dX4_countLoneXors_39 : decode cX4_countLoneXors 39 = .ok (.iconst 1, 1) := by decide +kernel
theorem dX4_countLoneXors_40 : decode cX4_countLoneXors 40 = .ok (.iadd, 1) := by decide +kernel
theorem dX4_countLoneXors_41 : decode cX4_countLoneXors 41 = .ok (.iastore, 1) := by decide +kernel
theorem dX4_countLoneXors_42 : decode cX4_countLoneXors 42 = .ok (.iinc 2 1, 3) := by decide +kernel
theorem dX4_countLoneXors_45 : decode cX4_countLoneXors 45 = .ok (.goto (-35), 3) := by decide +kernel
theorem dX4_countLoneXors_48 : decode cX4_countLoneXors 48 = .ok (.iconst 0, 1) := by decide +kernel
theorem dX4_countLoneXors_49 : decode cX4_countLoneXors 49 = .ok (.istore_n 2, 1) := by decide +kernel
theorem dX4_countLoneXors_50 : decode cX4_countLoneXors 50 = .ok (.iconst 0, 1) := by decide +kernel
theorem dX4_countLoneXors_51 : decode cX4_countLoneXors 51 = .ok (.istore_n 3, 1) := by decide +kernel
theorem dX4_countLoneXors_52 : decode cX4_countLoneXors 52 = .ok (.iload_n 3, 1) := by decide +kernel
theorem dX4_countLoneXors_53 : decode cX4_countLoneXors 53 = .ok (.sipush 256, 3) := by decide +kernel
theorem dX4_countLoneXors_56 : decode cX4_countLoneXors 56 = .ok (.if_icmp .ge 27, 3) := by decide +kernel
theorem dX4_countLoneXors_59 : decode cX4_countLoneXors 59 = .ok (.iload_n 2, 1) := by decide +kernel
theorem dX4_countLoneXors_60 : decode cX4_countLoneXors 60 = .ok (.aload_n 0, 1) := by decide +kernel
theorem dX4_countLoneXors_61 : decode cX4_countLoneXors 61 = .ok (.getfield 15, 3) := by decide +kernel
theorem dX4_countLoneXors_64 : decode cX4_countLoneXors 64 = .ok (.iload_n 3, 1) := by decide +kernel
theorem dX4_countLoneXors_65 : decode cX4_countLoneXors 65 = .ok (.iaload, 1) := by decide +kernel
theorem dX4_countLoneXors_66 : decode cX4_countLoneXors 66 = .ok (.iconst 1, 1) := by decide +kernel
theorem dX4_countLoneXors_67 : decode cX4_countLoneXors 67 = .ok (.if_icmp .ne 7, 3) := by decide +kernel
theorem dX4_countLoneXors_70 : decode cX4_countLoneXors 70 = .ok (.iconst 1, 1) := by decide +kernel
theorem dX4_countLoneXors_71 : decode cX4_countLoneXors 71 = .ok (.goto 4, 3) := by decide +kernel
theorem dX4_countLoneXors_74 : decode cX4_countLoneXors 74 = .ok (.iconst 0, 1) := by decide +kernel
theorem dX4_countLoneXors_75 : decode cX4_countLoneXors 75 = .ok (.iadd, 1) := by decide +kernel
theorem dX4_countLoneXors_76 : decode cX4_countLoneXors 76 = .ok (.istore_n 2, 1) := by decide +kernel
theorem dX4_countLoneXors_77 : decode cX4_countLoneXors 77 = .ok (.iinc 3 1, 3) := by decide +kernel
theorem dX4_countLoneXors_80 : decode cX4_countLoneXors 80 = .ok (.goto (-28), 3) := by decide +kernel
theorem dX4_countLoneXors_83 : decode cX4_countLoneXors 83 = .ok (.iload_n 2, 1) := by decide +kernel
theorem dX4_countLoneXors_84 : decode cX4_countLoneXors 84 = .ok (.ireturn, 1) := by decide +kernel
def wW_X4_countLoneXors (G : GG) (h0 h1 h2 h3 y0_0 y0_2 y0_3 y2_4 y2_5 : Nat) (x0_4 : Int32) (x0_5 : Int32) (x0_6 : Int32) (a1 : Nat → Int32) (x2_0 : Int32) (x2_1 : Int32) (x2_2 : Int32) (a3 : Nat → Int32) : va_W := [(h0, .inr (4, [.ref y0_0, .ref h1, .ref y0_2, .ref y0_3, .int x0_4, .int x0_5, .int x0_6])), (h1, .inl (G.2.1, 256, .inl a1)), (h2, .inr (1, [.int x2_0, .int x2_1, .int x2_2, .ref h3, .ref y2_4, .ref y2_5])), (h3, .inl (G.2.1, 32, .inl a3))]
set_option maxHeartbeats 4000000 in
set_option maxRecDepth 100000 in
theorem c_X4_countLoneXors (l : Launch) (G : GG) (h0 h1 h2 h3 y0_0 y0_2 y0_3 y2_4 y2_5 : Nat) (sz : Nat) (x0_4 : Int32) (x0_5 : Int32) (x0_6 : Int32) (a1 : Nat → Int32) (x2_0 : Int32) (x2_1 : Int32) (x2_2 : Int32) (a3 : Nat → Int32) (F : Nat)   (r0 : Int32) (e_a1 : Nat → Int32) (hf : p_X4_countLoneXors F a1 x2_0 x2_1 a3  = some (r0, e_a1)) : Met l yX4_countLoneXors (.code yX4_countLoneXors cX4_countLoneXors 4 (some .int) :: gtbl) ({ frames := 1, cells := 0, slots := 0, locals := 23 } : Room) (PcS G [.ref h0, .ref h2] (wW_X4_countLoneXors G h0 h1 h2 h3 y0_0 y0_2 y0_3 y2_4 y2_5 x0_4 x0_5 x0_6 a1 x2_0 x2_1 x2_2 a3) sz) (QiS G r0 (va_A (wW_X4_countLoneXors G h0 h1 h2 h3 y0_0 y0_2 y0_3 y2_4 y2_5 x0_4 x0_5 x0_6 a1 x2_0 x2_1 x2_2 a3) sz) (wW_X4_countLoneXors G h0 h1 h2 h3 y0_0 y0_2 y0_3 y2_4 y2_5 x0_4 x0_5 x0_6 e_a1 x2_0 x2_1 x2_2 a3)) 0 0 (va_A (wW_X4_countLoneXors G h0 h1 h2 h3 y0_0 y0_2 y0_3 y2_4 y2_5 x0_4 x0_5 x0_6 a1 x2_0 x2_1 x2_2 a3) sz) := by
  refine met_start (by decide) (Nat.le_of_ble_eq_true rfl) ?_
  intro p e s m below meth c hC hr hlk hnm hK hP hD hA hS hX ls hl
  obtain ⟨hx, hb, hml, hown, ht0⟩ := hC
  have hown : s.vm.findClass RX4 = some m.cls := hown
  generalize va_A (wW_X4_countLoneXors G h0 h1 h2 h3 y0_0 y0_2 y0_3 y2_4 y2_5 x0_4 x0_5 x0_6 a1 x2_0 x2_1 x2_2 a3) sz = A at hD hA hS hX ⊢
  have hl : lv_has ls 4 [(0, .ref h0), (1, .ref h2)] := hl
  have hf : p_X4_countLoneXors F a1 x2_0 x2_1 a3  = some (r0, e_a1) := hf
  have kL52 : ∀ (n52 : Nat) (u52_2 : Int32) (u52_3 : Int32) (a1_52 : Nat → Int32), p_X4_countLoneXors_L52 F x2_0 x2_1 a3 n52 u52_2 u52_3 a1_52 = some (r0, e_a1) → ∀ (H : Heap) (locs : List Loc), va_P G.1 vwCl (wW_X4_countLoneXors G h0 h1 h2 h3 y0_0 y0_2 y0_3 y2_4 y2_5 x0_4 x0_5 x0_6 a1_52 x2_0 x2_1 x2_2 a3) H → va_D A (wW_X4_countLoneXors G h0 h1 h2 h3 y0_0 y0_2 y0_3 y2_4 y2_5 x0_4 x0_5 x0_6 a1_52 x2_0 x2_1 x2_2 a3) → va_S A s.heap H locs → ∀ ls : Array Slot, lv_has ls 4 [(0, .ref h0), (2, .int u52_2), (3, .int u52_3)] → W p l e ({ frames := 1, cells := 0, slots := 0, locals := 23 } : Room) s m (List.toArray [.ref h0, .ref h2]) below meth c H locs 0 0 (MQ below (QiS G r0 A (wW_X4_countLoneXors G h0 h1 h2 h3 y0_0 y0_2 y0_3 y2_4 y2_5 x0_4 x0_5 x0_6 e_a1 x2_0 x2_1 x2_2 a3)) (List.toArray [.ref h0, .ref h2]) s 0 0 A) (F0 m 52 ls []) := by
    intro n52
    induction n52 with
    | zero =>
      intro u52_2 u52_3 a1_52 hf
      cases hf
    | succ n52 ih52 =>
      have kJ75 : ∀ (u75_3 : Int32) (s75_0 : Int32) (s75_1 : Int32) (a1_75 : Nat → Int32), p_X4_countLoneXors_J75 F x2_0 x2_1 a3 (p_X4_countLoneXors_L52 F x2_0 x2_1 a3 n52) u75_3 s75_0 s75_1 a1_75 = some (r0, e_a1) → ∀ (H : Heap) (locs : List Loc), va_P G.1 vwCl (wW_X4_countLoneXors G h0 h1 h2 h3 y0_0 y0_2 y0_3 y2_4 y2_5 x0_4 x0_5 x0_6 a1_75 x2_0 x2_1 x2_2 a3) H → va_D A (wW_X4_countLoneXors G h0 h1 h2 h3 y0_0 y0_2 y0_3 y2_4 y2_5 x0_4 x0_5 x0_6 a1_75 x2_0 x2_1 x2_2 a3) → va_S A s.heap H locs → ∀ ls : Array Slot, lv_has ls 4 [(0, .ref h0), (3, .int u75_3)] → W p l e ({ frames := 1, cells := 0, slots := 0, locals := 23 } : Room) s m (List.toArray [.ref h0, .ref h2]) below meth c H locs 0 0 (MQ below (QiS G r0 A (wW_X4_countLoneXors G h0 h1 h2 h3 y0_0 y0_2 y0_3 y2_4 y2_5 x0_4 x0_5 x0_6 e_a1 x2_0 x2_1 x2_2 a3)) (List.toArray [.ref h0, .ref h2]) s 0 0 A) (F0 m 75 ls [.int s75_1, .int s75_0]) := by
        intro u75_3 s75_0 s75_1 a1_75 hf H locs hP hD hS ls hl
        refine lv_iadd hx hb dX4_countLoneXors_75 ?_
        refine lv_istore_n (lv' := [(2, .int (s75_0 + s75_1)), (0, .ref h0), (3, .int u75_3)]) hx hb dX4_countLoneXors_76 rfl hl (by decide) rfl (fun ls hl => ?_)
        refine lv_iinc (v := u75_3 + (1 : Int32)) (lv' := [(3, .int (u75_3 + (1 : Int32))), (2, .int (s75_0 + s75_1)), (0, .ref h0)]) hx hb dX4_countLoneXors_77 hl (k := 2) rfl (by rfl) (by decide) rfl (fun ls hl => ?_)
        refine lv_goto (tgt := 52) hx hb dX4_countLoneXors_80 (by decide) ?_
        exact ih52 _ _ _ hf _ _ hP hD hS _ (lv_sub hl [2, 1, 0] rfl)
      intro u52_2 u52_3 a1_52 hf H locs hP hD hS ls hl
      have hf : p_X4_countLoneXors_L52b F x2_0 x2_1 a3 (p_X4_countLoneXors_L52 F x2_0 x2_1 a3 n52) u52_2 u52_3 a1_52 = some (r0, e_a1) := hf
      refine lv_iload_n hx hb dX4_countLoneXors_52 rfl (lv_at hl 2 rfl) ?_
      refine lv_sipush (v := (256 : Int32)) hx hb dX4_countLoneXors_53 (by decide) ?_
      refine lv_icmp_ge (tgt := 83) hx hb dX4_countLoneXors_56 (by decide) (fun c1 => ?_) (fun c1 => ?_)
      · have hf := of_pos hf c1
        refine lv_iload_n hx hb dX4_countLoneXors_83 rfl (lv_at hl 1 rfl) ?_
        cases hf
        exact ret_i hx hb hr hlk hK hP hD hS dX4_countLoneXors_84
      · have hf := of_neg hf c1
        refine lv_iload_n hx hb dX4_countLoneXors_59 rfl (lv_at hl 1 rfl) ?_
        refine lv_aload_n hx hb dX4_countLoneXors_60 rfl (lv_at hl 0 rfl) ?_
        refine va_get (ci := 4) (v := .ref h1) (C := RX4) (T := TX4) (N := 7) hx hb ht0 iX4 hown hK hP 0 rfl rfl 1 (by decide) (ht0 _ wd_396) (fun _ h9 => h9) rfl dX4_countLoneXors_61 ?_
        refine lv_iload_n hx hb dX4_countLoneXors_64 rfl (lv_at hl 2 rfl) ?_
        obtain ⟨g2, hf⟩ := of_grd hf
        refine va_iald hx hb hK hP 1 0 rfl rfl g2 dX4_countLoneXors_65 ?_
        refine lv_iconst (v := (1 : Int32)) hx hb dX4_countLoneXors_66 (by decide) ?_
        refine lv_icmp_ne (tgt := 74) hx hb dX4_countLoneXors_67 (by decide) (fun c3 => ?_) (fun c3 => ?_)
        · have hf := of_neg hf c3
          refine lv_iconst (v := (0 : Int32)) hx hb dX4_countLoneXors_74 (by decide) ?_
          exact kJ75 _ _ _ _ hf _ _ hP hD hS _ (lv_sub hl [0, 2] rfl)
        · have hf := of_pos hf c3
          refine lv_iconst (v := (1 : Int32)) hx hb dX4_countLoneXors_70 (by decide) ?_
          refine lv_goto (tgt := 75) hx hb dX4_countLoneXors_71 (by decide) ?_
          exact kJ75 _ _ _ _ hf _ _ hP hD hS _ (lv_sub hl [0, 2] rfl)
  have kL10 : ∀ (n10 : Nat) (u10_2 : Int32) (a1_10 : Nat → Int32), p_X4_countLoneXors_L10 F x2_0 x2_1 a3 n10 u10_2 a1_10 = some (r0, e_a1) → ∀ (H : Heap) (locs : List Loc), va_P G.1 vwCl (wW_X4_countLoneXors G h0 h1 h2 h3 y0_0 y0_2 y0_3 y2_4 y2_5 x0_4 x0_5 x0_6 a1_10 x2_0 x2_1 x2_2 a3) H → va_D A (wW_X4_countLoneXors G h0 h1 h2 h3 y0_0 y0_2 y0_3 y2_4 y2_5 x0_4 x0_5 x0_6 a1_10 x2_0 x2_1 x2_2 a3) → va_S A s.heap H locs → ∀ ls : Array Slot, lv_has ls 4 [(0, .ref h0), (1, .ref h2), (2, .int u10_2)] → W p l e ({ frames := 1, cells := 0, slots := 0, locals := 23 } : Room) s m (List.toArray [.ref h0, .ref h2]) below meth c H locs 0 0 (MQ below (QiS G r0 A (wW_X4_countLoneXors G h0 h1 h2 h3 y0_0 y0_2 y0_3 y2_4 y2_5 x0_4 x0_5 x0_6 e_a1 x2_0 x2_1 x2_2 a3)) (List.toArray [.ref h0, .ref h2]) s 0 0 A) (F0 m 10 ls []) := by
    intro n10
    induction n10 with
    | zero =>
      intro u10_2 a1_10 hf
      cases hf
    | succ n10 ih10 =>
      intro u10_2 a1_10 hf H locs hP hD hS ls hl
      have hf : p_X4_countLoneXors_L10b F x2_0 x2_1 a3 (p_X4_countLoneXors_L10 F x2_0 x2_1 a3 n10) u10_2 a1_10 = some (r0, e_a1) := hf
      refine lv_iload_n hx hb dX4_countLoneXors_10 rfl (lv_at hl 2 rfl) ?_
      refine lv_aload_n hx hb dX4_countLoneXors_11 rfl (lv_at hl 1 rfl) ?_
      obtain ⟨r_12_3, hc_r_12_3, hf⟩ := of_bnd hf
      refine cl_Vi (w2 := (wW_X4_countLoneXors G h0 h1 h2 h3 y0_0 y0_2 y0_3 y2_4 y2_5 x0_4 x0_5 x0_6 a1_10 x2_0 x2_1 x2_2 a3)) (As := []) (rest := [.int u10_2]) ⟨hx, hb, hml, hown, ht0⟩ (c_X1_places l G h2 h3 y2_4 y2_5 _ x2_0 x2_1 x2_2 F _ hc_r_12_3) yk_X1_places wd_1000 ⟨rfl, rfl, by decide, by decide⟩ ⟨Nat.le_refl _, Nat.le_refl _⟩ hX hK hP hD hS hA [2] [0, 1, 3] [0, 1, 3, 2] (va_recv hK hP (ci := 1) (q0 := 2) rfl rfl) rfl rfl (by decide) rfl rfl rfl rfl rfl hl.1 rfl (Nat.le_of_ble_eq_true rfl) dX4_countLoneXors_12 (fun H locs hP hD hS => ?_)
      refine lv_icmp_ge (tgt := 48) hx hb dX4_countLoneXors_15 (by decide) (fun c5 => ?_) (fun c5 => ?_)
      · have hf := of_pos hf c5
        refine lv_iconst (v := (0 : Int32)) hx hb dX4_countLoneXors_48 (by decide) ?_
        refine lv_istore_n (lv' := [(2, .int (0 : Int32)), (0, .ref h0), (1, .ref h2)]) hx hb dX4_countLoneXors_49 rfl hl (by decide) rfl (fun ls hl => ?_)
        refine lv_iconst (v := (0 : Int32)) hx hb dX4_countLoneXors_50 (by decide) ?_
        refine lv_istore_n (lv' := [(3, .int (0 : Int32)), (2, .int (0 : Int32)), (0, .ref h0), (1, .ref h2)]) hx hb dX4_countLoneXors_51 rfl hl (by decide) rfl (fun ls hl => ?_)
        exact kL52 _ _ _ _ hf _ _ hP hD hS _ (lv_sub hl [2, 1, 0] rfl)
      · have hf := of_neg hf c5
        refine lv_aload_n hx hb dX4_countLoneXors_18 rfl (lv_at hl 0 rfl) ?_
        refine va_get (ci := 4) (v := .ref h1) (C := RX4) (T := TX4) (N := 7) hx hb ht0 iX4 hown hK hP 0 rfl rfl 1 (by decide) (ht0 _ wd_396) (fun _ h9 => h9) rfl dX4_countLoneXors_19 ?_
        refine lv_aload_n hx hb dX4_countLoneXors_22 rfl (lv_at hl 1 rfl) ?_
        refine va_get (ci := 1) (v := .ref h3) (C := RX1) (T := TX1) (N := 6) hx hb ht0 iX1 hown hK hP 2 rfl rfl 3 (by decide) (ht0 _ wd_230) (fun _ h9 => h9) rfl dX4_countLoneXors_23 ?_
        refine lv_iload_n hx hb dX4_countLoneXors_26 rfl (lv_at hl 2 rfl) ?_
        refine lv_iconst (v := (1 : Int32)) hx hb dX4_countLoneXors_27 (by decide) ?_
        refine lv_isub hx hb dX4_countLoneXors_28 ?_
        obtain ⟨g6, hf⟩ := of_grd hf
        refine va_iald hx hb hK hP 3 0 rfl rfl g6 dX4_countLoneXors_29 ?_
        refine lv_aload_n hx hb dX4_countLoneXors_30 rfl (lv_at hl 1 rfl) ?_
        refine va_get (ci := 1) (v := .ref h3) (C := RX1) (T := TX1) (N := 6) hx hb ht0 iX1 hown hK hP 2 rfl rfl 3 (by decide) (ht0 _ wd_230) (fun _ h9 => h9) rfl dX4_countLoneXors_31 ?_
        refine lv_iload_n hx hb dX4_countLoneXors_34 rfl (lv_at hl 2 rfl) ?_
        obtain ⟨g7, hf⟩ := of_grd hf
        refine va_iald hx hb hK hP 3 0 rfl rfl g7 dX4_countLoneXors_35 ?_
        refine lv_ixor hx hb dX4_countLoneXors_36 ?_
        refine lv_dup2_11 hx hb dX4_countLoneXors_37 rfl rfl ?_
        obtain ⟨g8, hf⟩ := of_grd hf
        refine va_iald hx hb hK hP 1 0 rfl rfl g8 dX4_countLoneXors_38 ?_
        refine lv_iconst (v := (1 : Int32)) hx hb dX4_countLoneXors_39 (by decide) ?_
        refine lv_iadd hx hb dX4_countLoneXors_40 ?_
        obtain ⟨g9, hf⟩ := of_grd hf
        refine va_iast hx hb hK hP hD hS 1 0 rfl rfl g9 dX4_countLoneXors_41 (fun H locs hP hD hS => ?_)
        have hP : va_P G.1 vwCl (wW_X4_countLoneXors G h0 h1 h2 h3 y0_0 y0_2 y0_3 y2_4 y2_5 x0_4 x0_5 x0_6 (upd a1_10 ((a3 (u10_2 - (1 : Int32)).toNatClampNeg) ^^^ (a3 u10_2.toNatClampNeg)).toNatClampNeg ((a1_10 ((a3 (u10_2 - (1 : Int32)).toNatClampNeg) ^^^ (a3 u10_2.toNatClampNeg)).toNatClampNeg) + (1 : Int32))) x2_0 x2_1 x2_2 a3) H := hP
        have hD : va_D A (wW_X4_countLoneXors G h0 h1 h2 h3 y0_0 y0_2 y0_3 y2_4 y2_5 x0_4 x0_5 x0_6 (upd a1_10 ((a3 (u10_2 - (1 : Int32)).toNatClampNeg) ^^^ (a3 u10_2.toNatClampNeg)).toNatClampNeg ((a1_10 ((a3 (u10_2 - (1 : Int32)).toNatClampNeg) ^^^ (a3 u10_2.toNatClampNeg)).toNatClampNeg) + (1 : Int32))) x2_0 x2_1 x2_2 a3) := hD
        refine lv_iinc (v := u10_2 + (1 : Int32)) (lv' := [(2, .int (u10_2 + (1 : Int32))), (0, .ref h0), (1, .ref h2)]) hx hb dX4_countLoneXors_42 hl (k := 2) rfl (by rfl) (by decide) rfl (fun ls hl => ?_)
        refine lv_goto (tgt := 10) hx hb dX4_countLoneXors_45 (by decide) ?_
        exact ih10 _ _ hf _ _ hP hD hS _ (lv_sub hl [1, 2, 0] rfl)
  refine lv_aload_n hx hb dX4_countLoneXors_0 rfl (lv_at hl 0 rfl) ?_
  refine va_get (ci := 4) (v := .ref h1) (C := RX4) (T := TX4) (N := 7) hx hb ht0 iX4 hown hK hP 0 rfl rfl 1 (by decide) (ht0 _ wd_396) (fun _ h9 => h9) rfl dX4_countLoneXors_1 ?_
  refine lv_iconst (v := (0 : Int32)) hx hb dX4_countLoneXors_4 (by decide) ?_
  obtain ⟨r_5_9_a0, hc_r_5_9, hf⟩ := of_bnd hf
  refine cl_Sv (w2 := (wW_X4_countLoneXors G h0 h1 h2 h3 y0_0 y0_2 y0_3 y2_4 y2_5 x0_4 x0_5 x0_6 r_5_9_a0 x2_0 x2_1 x2_2 a3)) (As := [.ref h1, .int (0 : Int32)]) (rest := []) ⟨hx, hb, hml, hown, ht0⟩ (c_J7_fill_53178 l G 256 h1 _ a1 F (0 : Int32) _ hc_r_5_9) yk_J7_fill_53178 wd_999 ⟨rfl, rfl, by decide, by decide⟩ ⟨Nat.le_refl _, Nat.le_refl _⟩ hX hK hP hD hS hA [1] [0, 2, 3] [0, 3, 1, 2] rfl rfl (by decide) rfl rfl rfl rfl rfl hl.1 rfl (Nat.le_of_ble_eq_true rfl) dX4_countLoneXors_5 (fun H locs hP hD hS => ?_)
  refine lv_iconst (v := (1 : Int32)) hx hb dX4_countLoneXors_8 (by decide) ?_
  refine lv_istore_n (lv' := [(2, .int (1 : Int32)), (0, .ref h0), (1, .ref h2)]) hx hb dX4_countLoneXors_9 rfl hl (by decide) rfl (fun ls hl => ?_)
  exact kL10 _ _ _ hf _ _ hP hD hS _ (lv_sub hl [1, 2, 0] rfl)
theorem yk_X4_countLoneXors : ykV yX4_countLoneXors RX4 cX4_countLoneXors 4 (some .int) 1 := ⟨wd_1102, wd_1103, wd_136, wd_1104, rfl, by decide +kernel, by decide +kernel, by decide +kernel⟩
theorem dX4_countXors_0 : decode cX4_countXors 0 = .ok (.aload_n 0, 1) := by decide +kernel
theorem dX4_countXors_1 : decode cX4_countXors 1 = .ok (.getfield 15, 3) := by decide +kernel
theorem dX4_countXors_4 : decode cX4_countXors 4 = .ok (.iconst 0, 1) := by decide +kernel
theorem dX4_countXors_5 : decode cX4_countXors 5 = .ok (.invokestatic 64, 3) := by decide +kernel
theorem dX4_countXors_8 : decode cX4_countXors 8 = .ok (.aload_n 0, 1) := by decide +kernel
theorem dX4_countXors_9 : decode cX4_countXors 9 = .ok (.getfield 9, 3) := by decide +kernel
theorem dX4_countXors_12 : decode cX4_countXors 12 = .ok (.iconst 0, 1) := by decide +kernel
theorem dX4_countXors_13 : decode cX4_countXors 13 = .ok (.invokestatic 64, 3) := by decide +kernel
theorem dX4_countXors_16 : decode cX4_countXors 16 = .ok (.aload_n 1, 1) := by decide +kernel
theorem dX4_countXors_17 : decode cX4_countXors 17 = .ok (.invokevirtual 49, 3) := by decide +kernel
theorem dX4_countXors_20 : decode cX4_countXors 20 = .ok (.istore_n 2, 1) := by decide +kernel
theorem dX4_countXors_21 : decode cX4_countXors 21 = .ok (.iconst 0, 1) := by decide +kernel
theorem dX4_countXors_22 : decode cX4_countXors 22 = .ok (.istore_n 3, 1) := by decide +kernel
theorem dX4_countXors_23 : decode cX4_countXors 23 = .ok (.iload_n 3, 1) := by decide +kernel
theorem dX4_countXors_24 : decode cX4_countXors 24 = .ok (.iload_n 2, 1) := by decide +kernel
theorem dX4_countXors_25 : decode cX4_countXors 25 = .ok (.if_icmp .ge 90, 3) := by decide +kernel
theorem dX4_countXors_28 : decode cX4_countXors 28 = .ok (.iload_n 3, 1) := by decide +kernel
theorem dX4_countXors_29 : decode cX4_countXors 29 = .ok (.iconst 1, 1) := by decide +kernel
theorem dX4_countXors_30 : decode cX4_countXors 30 = .ok (.iadd, 1) := by decide +kernel
theorem dX4_countXors_31 : decode cX4_countXors 31 = .ok (.istore 4, 2) := by decide +kernel
theorem dX4_countXors_33 : decode cX4_countXors 33 = .ok (.iload 4, 2) := by decide +kernel
theorem dX4_countXors_35 : decode cX4_countXors 35 = .ok (.iload_n 2, 1) := by decide +kernel
theorem dX4_countXors_36 : decode cX4_countXors 36 = .ok (.if_icmp .ge 73, 3) := by decide +kernel
theorem dX4_countXors_39 : decode cX4_countXors 39 = .ok (.aload_n 1, 1) := by decide +kernel
theorem dX4_countXors_40 : decode cX4_countXors 40 = .ok (.getfield 42, 3) := by decide +kernel
theorem dX4_countXors_43 : decode cX4_countXors 43 = .ok (.iload_n 3, 1) := by decide +kernel
theorem dX4_countXors_44 : decode cX4_countXors 44 = .ok (.iaload, 1) := by decide +kernel
theorem dX4_countXors_45 : decode cX4_countXors 45 = .ok (.aload_n 1, 1) := by decide +kernel
theorem dX4_countXors_46 : decode cX4_countXors 46 = .ok (.getfield 42, 3) := by decide +kernel
theorem dX4_countXors_49 : decode cX4_countXors 49 = .ok (.iload 4, 2) := by decide +kernel
theorem dX4_countXors_51 : decode cX4_countXors 51 = .ok (.iaload, 1) := by decide +kernel
theorem dX4_countXors_52 : decode cX4_countXors 52 = .ok (.ixor, 1) := by decide +kernel
theorem dX4_countXors_53 : decode cX4_countXors 53 = .ok (.istore 5, 2) := by decide +kernel
theorem dX4_countXors_55 : decode cX4_countXors 55 = .ok (.aload_n 0, 1) := by decide +kernel
theorem dX4_countXors_56 : decode cX4_countXors 56 = .ok (.getfield 15, 3) := by decide +kernel
theorem dX4_countXors_59 : decode cX4_countXors 59 = .ok (.iload 5, 2) := by decide +kernel
theorem dX4_countXors_61 : decode cX4_countXors 61 = .ok (.dup2, 1) := by decide +kernel
theorem dX4_countXors_62 : decode cX4_countXors 62 = .ok (.iaload, 1) := by decide +kernel
theorem dX4_countXors_63 : decode cX4_countXors 63 = .ok (.iconst 1, 1) := by decide +kernel
theorem dX4_countXors_64 : decode cX4_countXors 64 = .ok (.iadd, 1) := by decide +kernel
theorem dX4_countXors_65 : decode cX4_countXors 65 = .ok (.iastore, 1) := by decide +kernel
theorem dX4_countXors_66 : decode cX4_countXors 66 = .ok (.iload 4, 2) := by decide +kernel
theorem dX4_countXors_68 : decode cX4_countXors 68 = .ok (.iconst 1, 1) := by decide +kernel
theorem dX4_countXors_69 : decode cX4_countXors 69 = .ok (.iadd, 1) := by decide +kernel
theorem dX4_countXors_70 : decode cX4_countXors 70 = .ok (.istore 6, 2) := by decide +kernel
theorem dX4_countXors_72 : decode cX4_countXors 72 = .ok (.iload 6, 2) := by decide +kernel
theorem dX4_countXors_74 : decode cX4_countXors 74 = .ok (.iload_n 2, 1) := by decide +kernel
theorem dX4_countXors_75 : decode cX4_countXors 75 = .ok (.if_icmp .ge 28, 3) := by decide +kernel
theorem dX4_countXors_78 : decode cX4_countXors 78 = .ok (.aload_n 0, 1) := by decide +kernel
theorem dX4_countXors_79 : decode cX4_countXors 79 = .ok (.getfield 9, 3) := by decide +kernel
theorem dX4_countXors_82 : decode cX4_countXors 82 = .ok (.iload 5, 2) := by decide +kernel
theorem dX4_countXors_84 : decode cX4_countXors 84 = .ok (.aload_n 1, 1) := by decide +kernel
theorem dX4_countXors_85 : decode cX4_countXors 85 = .ok (.getfield 42, 3) := by decide +kernel
theorem dX4_countXors_88 : decode cX4_countXors 88 = .ok (.iload 6, 2) := by decide +kernel
theorem dX4_countXors_90 : decode cX4_countXors 90 = .ok (.iaload, 1) := by decide +kernel
theorem dX4_countXors_91 : decode cX4_countXors 91 = .ok (.ixor, 1) := by decide +kernel
theorem dX4_countXors_92 : decode cX4_countXors 92 = .ok (.dup2, 1) := by decide +kernel
theorem dX4_countXors_93 : decode cX4_countXors 93 = .ok (.iaload, 1) := by decide +kernel
theorem dX4_countXors_94 : decode cX4_countXors 94 = .ok (.iconst 1, 1) := by decide +kernel
theorem dX4_countXors_95 : decode cX4_countXors 95 = .ok (.iadd, 1) := by decide +kernel
theorem dX4_countXors_96 : decode cX4_countXors 96 = .ok (.iastore, 1) := by decide +kernel
theorem dX4_countXors_97 : decode cX4_countXors 97 = .ok (.iinc 6 1, 3) := by decide +kernel
theorem dX4_countXors_100 : decode cX4_countXors 100 = .ok (.goto (-28), 3) := by decide +kernel
theorem dX4_countXors_103 : decode cX4_countXors 103 = .ok (.iinc 4 1, 3) := by decide +kernel
theorem dX4_countXors_106 : decode cX4_countXors 106 = .ok (.goto (-73), 3) := by decide +kernel
theorem dX4_countXors_109 : decode cX4_countXors 109 = .ok (.iinc 3 1, 3) := by decide +kernel
theorem dX4_countXors_112 : decode cX4_countXors 112 = .ok (.goto (-89), 3) := by decide +kernel
theorem dX4_countXors_115 : decode cX4_countXors 115 = .ok (.return_, 1) := by decide +kernel
def wW_X4_countXors (G : GG) (h0 h1 h2 h3 h4 y0_2 y0_3 y3_4 y3_5 : Nat) (x0_4 : Int32) (x0_5 : Int32) (x0_6 : Int32) (a1 : Nat → Int32) (a2 : Nat → Int32) (x3_0 : Int32) (x3_1 : Int32) (x3_2 : Int32) (a4 : Nat → Int32) : va_W := [(h0, .inr (4, [.ref h1, .ref h2, .ref y0_2, .ref y0_3, .int x0_4, .int x0_5, .int x0_6])), (h1, .inl (G.2.1, 256, .inl a1)), (h2, .inl (G.2.1, 256, .inl a2)), (h3, .inr (1, [.int x3_0, .int x3_1, .int x3_2, .ref h4, .ref y3_4, .ref y3_5])), (h4, .inl (G.2.1, 32, .inl a4))]
set_option maxHeartbeats 4000000 in
set_option maxRecDepth 100000 in
theorem c_X4_countXors (l : Launch) (G : GG) (h0 h1 h2 h3 h4 y0_2 y0_3 y3_4 y3_5 : Nat) (sz : Nat) (x0_4 : Int32) (x0_5 : Int32) (x0_6 : Int32) (a1 : Nat → Int32) (a2 : Nat → Int32) (x3_0 : Int32) (x3_1 : Int32) (x3_2 : Int32) (a4 : Nat → Int32) (F : Nat)   (e_a1 : Nat → Int32) (e_a2 : Nat → Int32) (hf : p_X4_countXors F a1 a2 x3_0 x3_1 a4  = some (e_a1, e_a2)) : Met l yX4_countXors (.code yX4_countXors cX4_countXors 7 none :: gtbl) ({ frames := 1, cells := 0, slots := 0, locals := 23 } : Room) (PcS G [.ref h0, .ref h3] (wW_X4_countXors G h0 h1 h2 h3 h4 y0_2 y0_3 y3_4 y3_5 x0_4 x0_5 x0_6 a1 a2 x3_0 x3_1 x3_2 a4) sz) (QvS G (va_A (wW_X4_countXors G h0 h1 h2 h3 h4 y0_2 y0_3 y3_4 y3_5 x0_4 x0_5 x0_6 a1 a2 x3_0 x3_1 x3_2 a4) sz) (wW_X4_countXors G h0 h1 h2 h3 h4 y0_2 y0_3 y3_4 y3_5 x0_4 x0_5 x0_6 e_a1 e_a2 x3_0 x3_1 x3_2 a4)) 0 0 (va_A (wW_X4_countXors G h0 h1 h2 h3 h4 y0_2 y0_3 y3_4 y3_5 x0_4 x0_5 x0_6 a1 a2 x3_0 x3_1 x3_2 a4) sz) := by
  refine met_start (by decide) (Nat.le_of_ble_eq_true rfl) ?_
  intro p e s m below meth c hC hr hlk hnm hK hP hD hA hS hX ls hl
  obtain ⟨hx, hb, hml, hown, ht0⟩ := hC
  have hown : s.vm.findClass RX4 = some m.cls := hown
  generalize va_A (wW_X4_countXors G h0 h1 h2 h3 h4 y0_2 y0_3 y3_4 y3_5 x0_4 x0_5 x0_6 a1 a2 x3_0 x3_1 x3_2 a4) sz = A at hD hA hS hX ⊢
  have hl : lv_has ls 7 [(0, .ref h0), (1, .ref h3)] := hl
  have hf : p_X4_countXors F a1 a2 x3_0 x3_1 a4  = some (e_a1, e_a2) := hf
  have kL23 : ∀ (c23_2 : Int32) (n23 : Nat) (u23_3 : Int32) (a1_23 : Nat → Int32) (a2_23 : Nat → Int32), p_X4_countXors_L23 F x3_0 x3_1 a4 c23_2 n23 u23_3 a1_23 a2_23 = some (e_a1, e_a2) → ∀ (H : Heap) (locs : List Loc), va_P G.1 vwCl (wW_X4_countXors G h0 h1 h2 h3 h4 y0_2 y0_3 y3_4 y3_5 x0_4 x0_5 x0_6 a1_23 a2_23 x3_0 x3_1 x3_2 a4) H → va_D A (wW_X4_countXors G h0 h1 h2 h3 h4 y0_2 y0_3 y3_4 y3_5 x0_4 x0_5 x0_6 a1_23 a2_23 x3_0 x3_1 x3_2 a4) → va_S A s.heap H locs → ∀ ls : Array Slot, lv_has ls 7 [(0, .ref h0), (1, .ref h3), (2, .int c23_2), (3, .int u23_3)] → W p l e ({ frames := 1, cells := 0, slots := 0, locals := 23 } : Room) s m (List.toArray [.ref h0, .ref h3]) below meth c H locs 0 0 (MQ below (QvS G A (wW_X4_countXors G h0 h1 h2 h3 h4 y0_2 y0_3 y3_4 y3_5 x0_4 x0_5 x0_6 e_a1 e_a2 x3_0 x3_1 x3_2 a4)) (List.toArray [.ref h0, .ref h3]) s 0 0 A) (F0 m 23 ls []) := by
    intro c23_2 n23
    induction n23 with
    | zero =>
      intro u23_3 a1_23 a2_23 hf
      cases hf
    | succ n23 ih23 =>
      have kL33 : ∀ (c33_3 : Int32) (n33 : Nat) (u33_4 : Int32) (a1_33 : Nat → Int32) (a2_33 : Nat → Int32), p_X4_countXors_L33 F x3_0 x3_1 a4 c23_2 c33_3 (p_X4_countXors_L23 F x3_0 x3_1 a4 c23_2 n23) n33 u33_4 a1_33 a2_33 = some (e_a1, e_a2) → ∀ (H : Heap) (locs : List Loc), va_P G.1 vwCl (wW_X4_countXors G h0 h1 h2 h3 h4 y0_2 y0_3 y3_4 y3_5 x0_4 x0_5 x0_6 a1_33 a2_33 x3_0 x3_1 x3_2 a4) H → va_D A (wW_X4_countXors G h0 h1 h2 h3 h4 y0_2 y0_3 y3_4 y3_5 x0_4 x0_5 x0_6 a1_33 a2_33 x3_0 x3_1 x3_2 a4) → va_S A s.heap H locs → ∀ ls : Array Slot, lv_has ls 7 [(0, .ref h0), (1, .ref h3), (2, .int c23_2), (3, .int c33_3), (4, .int u33_4)] → W p l e ({ frames := 1, cells := 0, slots := 0, locals := 23 } : Room) s m (List.toArray [.ref h0, .ref h3]) below meth c H locs 0 0 (MQ below (QvS G A (wW_X4_countXors G h0 h1 h2 h3 h4 y0_2 y0_3 y3_4 y3_5 x0_4 x0_5 x0_6 e_a1 e_a2 x3_0 x3_1 x3_2 a4)) (List.toArray [.ref h0, .ref h3]) s 0 0 A) (F0 m 33 ls []) := by
        intro c33_3 n33
        induction n33 with
        | zero =>
          intro u33_4 a1_33 a2_33 hf
          cases hf
        | succ n33 ih33 =>
          have kL72 : ∀ (c72_4 : Int32) (c72_5 : Int32) (n72 : Nat) (u72_6 : Int32) (a1_72 : Nat → Int32) (a2_72 : Nat → Int32), p_X4_countXors_L72 F x3_0 x3_1 a4 c23_2 c33_3 c72_4 c72_5 (p_X4_countXors_L23 F x3_0 x3_1 a4 c23_2 n23) (p_X4_countXors_L33 F x3_0 x3_1 a4 c23_2 c33_3 (p_X4_countXors_L23 F x3_0 x3_1 a4 c23_2 n23) n33) n72 u72_6 a1_72 a2_72 = some (e_a1, e_a2) → ∀ (H : Heap) (locs : List Loc), va_P G.1 vwCl (wW_X4_countXors G h0 h1 h2 h3 h4 y0_2 y0_3 y3_4 y3_5 x0_4 x0_5 x0_6 a1_72 a2_72 x3_0 x3_1 x3_2 a4) H → va_D A (wW_X4_countXors G h0 h1 h2 h3 h4 y0_2 y0_3 y3_4 y3_5 x0_4 x0_5 x0_6 a1_72 a2_72 x3_0 x3_1 x3_2 a4) → va_S A s.heap H locs → ∀ ls : Array Slot, lv_has ls 7 [(0, .ref h0), (1, .ref h3), (2, .int c23_2), (3, .int c33_3), (4, .int c72_4), (5, .int c72_5), (6, .int u72_6)] → W p l e ({ frames := 1, cells := 0, slots := 0, locals := 23 } : Room) s m (List.toArray [.ref h0, .ref h3]) below meth c H locs 0 0 (MQ below (QvS G A (wW_X4_countXors G h0 h1 h2 h3 h4 y0_2 y0_3 y3_4 y3_5 x0_4 x0_5 x0_6 e_a1 e_a2 x3_0 x3_1 x3_2 a4)) (List.toArray [.ref h0, .ref h3]) s 0 0 A) (F0 m 72 ls []) := by
            intro c72_4 c72_5 n72
            induction n72 with
            | zero =>
              intro u72_6 a1_72 a2_72 hf
              cases hf
            | succ n72 ih72 =>
              intro u72_6 a1_72 a2_72 hf H locs hP hD hS ls hl
              have hf : p_X4_countXors_L72b F x3_0 x3_1 a4 c23_2 c33_3 c72_4 c72_5 (p_X4_countXors_L23 F x3_0 x3_1 a4 c23_2 n23) (p_X4_countXors_L33 F x3_0 x3_1 a4 c23_2 c33_3 (p_X4_countXors_L23 F x3_0 x3_1 a4 c23_2 n23) n33) (p_X4_countXors_L72 F x3_0 x3_1 a4 c23_2 c33_3 c72_4 c72_5 (p_X4_countXors_L23 F x3_0 x3_1 a4 c23_2 n23) (p_X4_countXors_L33 F x3_0 x3_1 a4 c23_2 c33_3 (p_X4_countXors_L23 F x3_0 x3_1 a4 c23_2 n23) n33) n72) u72_6 a1_72 a2_72 = some (e_a1, e_a2) := hf
              refine lv_iload hx hb dX4_countXors_72 (lv_at hl 6 rfl) ?_
              refine lv_iload_n hx hb dX4_countXors_74 rfl (lv_at hl 2 rfl) ?_
              refine lv_icmp_ge (tgt := 103) hx hb dX4_countXors_75 (by decide) (fun c1 => ?_) (fun c1 => ?_)
              · have hf := of_pos hf c1
                refine lv_iinc (v := c72_4 + (1 : Int32)) (lv' := [(4, .int (c72_4 + (1 : Int32))), (0, .ref h0), (1, .ref h3), (2, .int c23_2), (3, .int c33_3), (5, .int c72_5), (6, .int u72_6)]) hx hb dX4_countXors_103 hl (k := 4) rfl (by rfl) (by decide) rfl (fun ls hl => ?_)
                refine lv_goto (tgt := 33) hx hb dX4_countXors_106 (by decide) ?_
                exact ih33 _ _ _ hf _ _ hP hD hS _ (lv_sub hl [1, 2, 3, 4, 0] rfl)
              · have hf := of_neg hf c1
                refine lv_aload_n hx hb dX4_countXors_78 rfl (lv_at hl 0 rfl) ?_
                refine va_get (ci := 4) (v := .ref h1) (C := RX4) (T := TX4) (N := 7) hx hb ht0 iX4 hown hK hP 0 rfl rfl 0 (by decide) (ht0 _ wd_395) (fun _ h9 => h9) rfl dX4_countXors_79 ?_
                refine lv_iload hx hb dX4_countXors_82 (lv_at hl 5 rfl) ?_
                refine lv_aload_n hx hb dX4_countXors_84 rfl (lv_at hl 1 rfl) ?_
                refine va_get (ci := 1) (v := .ref h4) (C := RX1) (T := TX1) (N := 6) hx hb ht0 iX1 hown hK hP 3 rfl rfl 3 (by decide) (ht0 _ wd_230) (fun _ h9 => h9) rfl dX4_countXors_85 ?_
                refine lv_iload hx hb dX4_countXors_88 (lv_at hl 6 rfl) ?_
                obtain ⟨g2, hf⟩ := of_grd hf
                refine va_iald hx hb hK hP 4 0 rfl rfl g2 dX4_countXors_90 ?_
                refine lv_ixor hx hb dX4_countXors_91 ?_
                refine lv_dup2_11 hx hb dX4_countXors_92 rfl rfl ?_
                obtain ⟨g3, hf⟩ := of_grd hf
                refine va_iald hx hb hK hP 1 0 rfl rfl g3 dX4_countXors_93 ?_
                refine lv_iconst (v := (1 : Int32)) hx hb dX4_countXors_94 (by decide) ?_
                refine lv_iadd hx hb dX4_countXors_95 ?_
                obtain ⟨g4, hf⟩ := of_grd hf
                refine va_iast hx hb hK hP hD hS 1 0 rfl rfl g4 dX4_countXors_96 (fun H locs hP hD hS => ?_)
                have hP : va_P G.1 vwCl (wW_X4_countXors G h0 h1 h2 h3 h4 y0_2 y0_3 y3_4 y3_5 x0_4 x0_5 x0_6 (upd a1_72 (c72_5 ^^^ (a4 u72_6.toNatClampNeg)).toNatClampNeg ((a1_72 (c72_5 ^^^ (a4 u72_6.toNatClampNeg)).toNatClampNeg) + (1 : Int32))) a2_72 x3_0 x3_1 x3_2 a4) H := hP
                have hD : va_D A (wW_X4_countXors G h0 h1 h2 h3 h4 y0_2 y0_3 y3_4 y3_5 x0_4 x0_5 x0_6 (upd a1_72 (c72_5 ^^^ (a4 u72_6.toNatClampNeg)).toNatClampNeg ((a1_72 (c72_5 ^^^ (a4 u72_6.toNatClampNeg)).toNatClampNeg) + (1 : Int32))) a2_72 x3_0 x3_1 x3_2 a4) := hD
                refine lv_iinc (v := u72_6 + (1 : Int32)) (lv' := [(6, .int (u72_6 + (1 : Int32))), (0, .ref h0), (1, .ref h3), (2, .int c23_2), (3, .int c33_3), (4, .int c72_4), (5, .int c72_5)]) hx hb dX4_countXors_97 hl (k := 6) rfl (by rfl) (by decide) rfl (fun ls hl => ?_)
                refine lv_goto (tgt := 72) hx hb dX4_countXors_100 (by decide) ?_
                exact ih72 _ _ _ hf _ _ hP hD hS _ (lv_sub hl [1, 2, 3, 4, 5, 6, 0] rfl)
          intro u33_4 a1_33 a2_33 hf H locs hP hD hS ls hl
          have hf : p_X4_countXors_L33b F x3_0 x3_1 a4 c23_2 c33_3 (p_X4_countXors_L23 F x3_0 x3_1 a4 c23_2 n23) (p_X4_countXors_L33 F x3_0 x3_1 a4 c23_2 c33_3 (p_X4_countXors_L23 F x3_0 x3_1 a4 c23_2 n23) n33) u33_4 a1_33 a2_33 = some (e_a1, e_a2) := hf
          refine lv_iload hx hb dX4_countXors_33 (lv_at hl 4 rfl) ?_
          refine lv_iload_n hx hb dX4_countXors_35 rfl (lv_at hl 2 rfl) ?_
          refine lv_icmp_ge (tgt := 109) hx hb dX4_countXors_36 (by decide) (fun c5 => ?_) (fun c5 => ?_)
          · have hf := of_pos hf c5
            refine lv_iinc (v := c33_3 + (1 : Int32)) (lv' := [(3, .int (c33_3 + (1 : Int32))), (0, .ref h0), (1, .ref h3), (2, .int c23_2), (4, .int u33_4)]) hx hb dX4_countXors_109 hl (k := 3) rfl (by rfl) (by decide) rfl (fun ls hl => ?_)
            refine lv_goto (tgt := 23) hx hb dX4_countXors_112 (by decide) ?_
            exact ih23 _ _ _ hf _ _ hP hD hS _ (lv_sub hl [1, 2, 3, 0] rfl)
          · have hf := of_neg hf c5
            refine lv_aload_n hx hb dX4_countXors_39 rfl (lv_at hl 1 rfl) ?_
            refine va_get (ci := 1) (v := .ref h4) (C := RX1) (T := TX1) (N := 6) hx hb ht0 iX1 hown hK hP 3 rfl rfl 3 (by decide) (ht0 _ wd_230) (fun _ h9 => h9) rfl dX4_countXors_40 ?_
            refine lv_iload_n hx hb dX4_countXors_43 rfl (lv_at hl 3 rfl) ?_
            obtain ⟨g6, hf⟩ := of_grd hf
            refine va_iald hx hb hK hP 4 0 rfl rfl g6 dX4_countXors_44 ?_
            refine lv_aload_n hx hb dX4_countXors_45 rfl (lv_at hl 1 rfl) ?_
            refine va_get (ci := 1) (v := .ref h4) (C := RX1) (T := TX1) (N := 6) hx hb ht0 iX1 hown hK hP 3 rfl rfl 3 (by decide) (ht0 _ wd_230) (fun _ h9 => h9) rfl dX4_countXors_46 ?_
            refine lv_iload hx hb dX4_countXors_49 (lv_at hl 4 rfl) ?_
            obtain ⟨g7, hf⟩ := of_grd hf
            refine va_iald hx hb hK hP 4 0 rfl rfl g7 dX4_countXors_51 ?_
            refine lv_ixor hx hb dX4_countXors_52 ?_
            refine lv_topi (fun z8 ez8 => ?_)
            have hf := of_jlet hf ez8
            refine lv_istore (lv' := [(5, .int z8), (0, .ref h0), (1, .ref h3), (2, .int c23_2), (3, .int c33_3), (4, .int u33_4)]) hx hb dX4_countXors_53 hl (by decide) rfl (fun ls hl => ?_)
            refine lv_aload_n hx hb dX4_countXors_55 rfl (lv_at hl 1 rfl) ?_
            refine va_get (ci := 4) (v := .ref h2) (C := RX4) (T := TX4) (N := 7) hx hb ht0 iX4 hown hK hP 0 rfl rfl 1 (by decide) (ht0 _ wd_396) (fun _ h9 => h9) rfl dX4_countXors_56 ?_
            refine lv_iload hx hb dX4_countXors_59 (lv_at hl 0 rfl) ?_
            refine lv_dup2_11 hx hb dX4_countXors_61 rfl rfl ?_
            obtain ⟨g9, hf⟩ := of_grd hf
            refine va_iald hx hb hK hP 2 0 rfl rfl g9 dX4_countXors_62 ?_
            refine lv_iconst (v := (1 : Int32)) hx hb dX4_countXors_63 (by decide) ?_
            refine lv_iadd hx hb dX4_countXors_64 ?_
            obtain ⟨g10, hf⟩ := of_grd hf
            refine va_iast hx hb hK hP hD hS 2 0 rfl rfl g10 dX4_countXors_65 (fun H locs hP hD hS => ?_)
            have hP : va_P G.1 vwCl (wW_X4_countXors G h0 h1 h2 h3 h4 y0_2 y0_3 y3_4 y3_5 x0_4 x0_5 x0_6 a1_33 (upd a2_33 z8.toNatClampNeg ((a2_33 z8.toNatClampNeg) + (1 : Int32))) x3_0 x3_1 x3_2 a4) H := hP
            have hD : va_D A (wW_X4_countXors G h0 h1 h2 h3 h4 y0_2 y0_3 y3_4 y3_5 x0_4 x0_5 x0_6 a1_33 (upd a2_33 z8.toNatClampNeg ((a2_33 z8.toNatClampNeg) + (1 : Int32))) x3_0 x3_1 x3_2 a4) := hD
            refine lv_iload hx hb dX4_countXors_66 (lv_at hl 5 rfl) ?_
            refine lv_iconst (v := (1 : Int32)) hx hb dX4_countXors_68 (by decide) ?_
            refine lv_iadd hx hb dX4_countXors_69 ?_
            refine lv_istore (lv' := [(6, .int (u33_4 + (1 : Int32))), (5, .int z8), (0, .ref h0), (1, .ref h3), (2, .int c23_2), (3, .int c33_3), (4, .int u33_4)]) hx hb dX4_countXors_70 hl (by decide) rfl (fun ls hl => ?_)
            exact kL72 _ _ _ _ _ _ hf _ _ hP hD hS _ (lv_sub hl [2, 3, 4, 5, 6, 1, 0] rfl)
      intro u23_3 a1_23 a2_23 hf H locs hP hD hS ls hl
      have hf : p_X4_countXors_L23b F x3_0 x3_1 a4 c23_2 (p_X4_countXors_L23 F x3_0 x3_1 a4 c23_2 n23) u23_3 a1_23 a2_23 = some (e_a1, e_a2) := hf
      refine lv_iload_n hx hb dX4_countXors_23 rfl (lv_at hl 3 rfl) ?_
      refine lv_iload_n hx hb dX4_countXors_24 rfl (lv_at hl 2 rfl) ?_
      refine lv_icmp_ge (tgt := 115) hx hb dX4_countXors_25 (by decide) (fun c11 => ?_) (fun c11 => ?_)
      · have hf := of_pos hf c11
        cases hf
        exact ret_v hx hb hr hlk hK hP hD hS dX4_countXors_115
      · have hf := of_neg hf c11
        refine lv_iload_n hx hb dX4_countXors_28 rfl (lv_at hl 3 rfl) ?_
        refine lv_iconst (v := (1 : Int32)) hx hb dX4_countXors_29 (by decide) ?_
        refine lv_iadd hx hb dX4_countXors_30 ?_
        refine lv_istore (lv' := [(4, .int (u23_3 + (1 : Int32))), (0, .ref h0), (1, .ref h3), (2, .int c23_2), (3, .int u23_3)]) hx hb dX4_countXors_31 hl (by decide) rfl (fun ls hl => ?_)
        exact kL33 _ _ _ _ _ hf _ _ hP hD hS _ (lv_sub hl [1, 2, 3, 4, 0] rfl)
  refine lv_aload_n hx hb dX4_countXors_0 rfl (lv_at hl 0 rfl) ?_
  refine va_get (ci := 4) (v := .ref h2) (C := RX4) (T := TX4) (N := 7) hx hb ht0 iX4 hown hK hP 0 rfl rfl 1 (by decide) (ht0 _ wd_396) (fun _ h9 => h9) rfl dX4_countXors_1 ?_
  refine lv_iconst (v := (0 : Int32)) hx hb dX4_countXors_4 (by decide) ?_
  obtain ⟨r_5_11_a0, hc_r_5_11, hf⟩ := of_bnd hf
  refine cl_Sv (w2 := (wW_X4_countXors G h0 h1 h2 h3 h4 y0_2 y0_3 y3_4 y3_5 x0_4 x0_5 x0_6 a1 r_5_11_a0 x3_0 x3_1 x3_2 a4)) (As := [.ref h2, .int (0 : Int32)]) (rest := []) ⟨hx, hb, hml, hown, ht0⟩ (c_J7_fill_53178 l G 256 h2 _ a2 F (0 : Int32) _ hc_r_5_11) yk_J7_fill_53178 wd_999 ⟨rfl, rfl, by decide, by decide⟩ ⟨Nat.le_refl _, Nat.le_refl _⟩ hX hK hP hD hS hA [2] [0, 1, 3, 4] [0, 1, 4, 2, 3] rfl rfl (by decide) rfl rfl rfl rfl rfl hl.1 rfl (Nat.le_of_ble_eq_true rfl) dX4_countXors_5 (fun H locs hP hD hS => ?_)
  refine lv_aload_n hx hb dX4_countXors_8 rfl (lv_at hl 0 rfl) ?_
  refine va_get (ci := 4) (v := .ref h1) (C := RX4) (T := TX4) (N := 7) hx hb ht0 iX4 hown hK hP 0 rfl rfl 0 (by decide) (ht0 _ wd_395) (fun _ h9 => h9) rfl dX4_countXors_9 ?_
  refine lv_iconst (v := (0 : Int32)) hx hb dX4_countXors_12 (by decide) ?_
  obtain ⟨r_13_12_a0, hc_r_13_12, hf⟩ := of_bnd hf
  refine cl_Sv (w2 := (wW_X4_countXors G h0 h1 h2 h3 h4 y0_2 y0_3 y3_4 y3_5 x0_4 x0_5 x0_6 r_13_12_a0 r_5_11_a0 x3_0 x3_1 x3_2 a4)) (As := [.ref h1, .int (0 : Int32)]) (rest := []) ⟨hx, hb, hml, hown, ht0⟩ (c_J7_fill_53178 l G 256 h1 _ a1 F (0 : Int32) _ hc_r_13_12) yk_J7_fill_53178 wd_999 ⟨rfl, rfl, by decide, by decide⟩ ⟨Nat.le_refl _, Nat.le_refl _⟩ hX hK hP hD hS hA [1] [0, 2, 3, 4] [0, 4, 1, 2, 3] rfl rfl (by decide) rfl rfl rfl rfl rfl hl.1 rfl (Nat.le_of_ble_eq_true rfl) dX4_countXors_13 (fun H locs hP hD hS => ?_)
  refine lv_aload_n hx hb dX4_countXors_16 rfl (lv_at hl 1 rfl) ?_
  obtain ⟨r_17_13, hc_r_17_13, hf⟩ := of_bnd hf
  refine cl_Vi (w2 := (wW_X4_countXors G h0 h1 h2 h3 h4 y0_2 y0_3 y3_4 y3_5 x0_4 x0_5 x0_6 r_13_12_a0 r_5_11_a0 x3_0 x3_1 x3_2 a4)) (As := []) (rest := []) ⟨hx, hb, hml, hown, ht0⟩ (c_X1_places l G h3 h4 y3_4 y3_5 _ x3_0 x3_1 x3_2 F _ hc_r_17_13) yk_X1_places wd_1000 ⟨rfl, rfl, by decide, by decide⟩ ⟨Nat.le_refl _, Nat.le_refl _⟩ hX hK hP hD hS hA [3] [0, 1, 2, 4] [0, 1, 2, 4, 3] (va_recv hK hP (ci := 1) (q0 := 3) rfl rfl) rfl rfl (by decide) rfl rfl rfl rfl rfl hl.1 rfl (Nat.le_of_ble_eq_true rfl) dX4_countXors_17 (fun H locs hP hD hS => ?_)
  refine lv_istore_n (lv' := [(2, .int r_17_13), (0, .ref h0), (1, .ref h3)]) hx hb dX4_countXors_20 rfl hl (by decide) rfl (fun ls hl => ?_)
  refine lv_iconst (v := (0 : Int32)) hx hb dX4_countXors_21 (by decide) ?_
  refine lv_istore_n (lv' := [(3, .int (0 : Int32)), (2, .int r_17_13), (0, .ref h0), (1, .ref h3)]) hx hb dX4_countXors_22 rfl hl (by decide) rfl (fun ls hl => ?_)
  exact kL23 _ _ _ _ _ hf _ _ hP hD hS _ (lv_sub hl [2, 3, 1, 0] rfl)
theorem yk_X4_countXors : ykV yX4_countXors RX4 cX4_countXors 7 none 1 := ⟨wd_997, wd_32, wd_136, wd_998, rfl, by decide +kernel, by decide +kernel, by decide +kernel⟩
theorem dX4_threesBeside_0 : decode cX4_threesBeside 0 = .ok (.aload_n 0, 1) := by decide +kernel
theorem dX4_threesBeside_1 : decode cX4_threesBeside 1 = .ok (.getfield 9, 3) := by decide +kernel
theorem dX4_threesBeside_4 : decode cX4_threesBeside 4 = .ok (.iload_n 3, 1) := by decide +kernel
theorem dX4_threesBeside_5 : decode cX4_threesBeside 5 = .ok (.iaload, 1) := by decide +kernel
theorem dX4_threesBeside_6 : decode cX4_threesBeside 6 = .ok (.aload_n 0, 1) := by decide +kernel
theorem dX4_threesBeside_7 : decode cX4_threesBeside 7 = .ok (.getfield 15, 3) := by decide +kernel
theorem dX4_threesBeside_10 : decode cX4_threesBeside 10 = .ok (.iload_n 3, 1) := by decide +kernel
theorem dX4_threesBeside_11 : decode cX4_threesBeside 11 = .ok (.aload_n 1, 1) := by decide +kernel
theorem dX4_threesBeside_12 : decode cX4_threesBeside 12 = .ok (.getfield 42, 3) := by decide +kernel
theorem dX4_threesBeside_15 : decode cX4_threesBeside 15 = .ok (.iload_n 2, 1) := by decide +kernel
theorem dX4_threesBeside_16 : decode cX4_threesBeside 16 = .ok (.iaload, 1) := by decide +kernel
theorem dX4_threesBeside_17 : decode cX4_threesBeside 17 = .ok (.ixor, 1) := by decide +kernel
theorem dX4_threesBeside_18 : decode cX4_threesBeside 18 = .ok (.iaload, 1) := by decide +kernel
theorem dX4_threesBeside_19 : decode cX4_threesBeside 19 = .ok (.isub, 1) := by decide +kernel
theorem dX4_threesBeside_20 : decode cX4_threesBeside 20 = .ok (.ireturn, 1) := by decide +kernel
def wW_X4_threesBeside (G : GG) (h0 h1 h2 h3 h4 y0_2 y0_3 y3_4 y3_5 : Nat) (x0_4 : Int32) (x0_5 : Int32) (x0_6 : Int32) (a1 : Nat → Int32) (a2 : Nat → Int32) (x3_0 : Int32) (x3_1 : Int32) (x3_2 : Int32) (a4 : Nat → Int32) : va_W := [(h0, .inr (4, [.ref h1, .ref h2, .ref y0_2, .ref y0_3, .int x0_4, .int x0_5, .int x0_6])), (h1, .inl (G.2.1, 256, .inl a1)), (h2, .inl (G.2.1, 256, .inl a2)), (h3, .inr (1, [.int x3_0, .int x3_1, .int x3_2, .ref h4, .ref y3_4, .ref y3_5])), (h4, .inl (G.2.1, 32, .inl a4))]
set_option maxHeartbeats 4000000 in
set_option maxRecDepth 100000 in
theorem c_X4_threesBeside (l : Launch) (G : GG) (h0 h1 h2 h3 h4 y0_2 y0_3 y3_4 y3_5 : Nat) (sz : Nat) (x0_4 : Int32) (x0_5 : Int32) (x0_6 : Int32) (a1 : Nat → Int32) (a2 : Nat → Int32) (x3_0 : Int32) (x3_1 : Int32) (x3_2 : Int32) (a4 : Nat → Int32) (F : Nat) (b2 : Int32) (b3 : Int32)  (r0 : Int32) (hf : p_X4_threesBeside F a1 a2 a4 b2 b3 = some r0) : Met l yX4_threesBeside (.code yX4_threesBeside cX4_threesBeside 4 (some .int) :: gtbl) ({ frames := 0, cells := 0, slots := 0, locals := 0 } : Room) (PcS G [.ref h0, .ref h3, .int b2, .int b3] (wW_X4_threesBeside G h0 h1 h2 h3 h4 y0_2 y0_3 y3_4 y3_5 x0_4 x0_5 x0_6 a1 a2 x3_0 x3_1 x3_2 a4) sz) (QiS G r0 (va_A (wW_X4_threesBeside G h0 h1 h2 h3 h4 y0_2 y0_3 y3_4 y3_5 x0_4 x0_5 x0_6 a1 a2 x3_0 x3_1 x3_2 a4) sz) (wW_X4_threesBeside G h0 h1 h2 h3 h4 y0_2 y0_3 y3_4 y3_5 x0_4 x0_5 x0_6 a1 a2 x3_0 x3_1 x3_2 a4)) 0 0 (va_A (wW_X4_threesBeside G h0 h1 h2 h3 h4 y0_2 y0_3 y3_4 y3_5 x0_4 x0_5 x0_6 a1 a2 x3_0 x3_1 x3_2 a4) sz) := by
  refine met_start (by decide) (Nat.le_of_ble_eq_true rfl) ?_
  intro p e s m below meth c hC hr hlk hnm hK hP hD hA hS hX ls hl
  obtain ⟨hx, hb, hml, hown, ht0⟩ := hC
  have hown : s.vm.findClass RX4 = some m.cls := hown
  generalize va_A (wW_X4_threesBeside G h0 h1 h2 h3 h4 y0_2 y0_3 y3_4 y3_5 x0_4 x0_5 x0_6 a1 a2 x3_0 x3_1 x3_2 a4) sz = A at hD hA hS hX ⊢
  have hl : lv_has ls 4 [(0, .ref h0), (1, .ref h3), (2, .int b2), (3, .int b3)] := hl
  have hf : p_X4_threesBeside F a1 a2 a4 b2 b3 = some r0 := hf
  refine lv_aload_n hx hb dX4_threesBeside_0 rfl (lv_at hl 0 rfl) ?_
  refine va_get (ci := 4) (v := .ref h1) (C := RX4) (T := TX4) (N := 7) hx hb ht0 iX4 hown hK hP 0 rfl rfl 0 (by decide) (ht0 _ wd_395) (fun _ h9 => h9) rfl dX4_threesBeside_1 ?_
  refine lv_iload_n hx hb dX4_threesBeside_4 rfl (lv_at hl 3 rfl) ?_
  obtain ⟨g1, hf⟩ := of_grd hf
  refine va_iald hx hb hK hP 1 0 rfl rfl g1 dX4_threesBeside_5 ?_
  refine lv_aload_n hx hb dX4_threesBeside_6 rfl (lv_at hl 0 rfl) ?_
  refine va_get (ci := 4) (v := .ref h2) (C := RX4) (T := TX4) (N := 7) hx hb ht0 iX4 hown hK hP 0 rfl rfl 1 (by decide) (ht0 _ wd_396) (fun _ h9 => h9) rfl dX4_threesBeside_7 ?_
  refine lv_iload_n hx hb dX4_threesBeside_10 rfl (lv_at hl 3 rfl) ?_
  refine lv_aload_n hx hb dX4_threesBeside_11 rfl (lv_at hl 1 rfl) ?_
  refine va_get (ci := 1) (v := .ref h4) (C := RX1) (T := TX1) (N := 6) hx hb ht0 iX1 hown hK hP 3 rfl rfl 3 (by decide) (ht0 _ wd_230) (fun _ h9 => h9) rfl dX4_threesBeside_12 ?_
  refine lv_iload_n hx hb dX4_threesBeside_15 rfl (lv_at hl 2 rfl) ?_
  obtain ⟨g2, hf⟩ := of_grd hf
  refine va_iald hx hb hK hP 4 0 rfl rfl g2 dX4_threesBeside_16 ?_
  refine lv_ixor hx hb dX4_threesBeside_17 ?_
  obtain ⟨g3, hf⟩ := of_grd hf
  refine va_iald hx hb hK hP 2 0 rfl rfl g3 dX4_threesBeside_18 ?_
  refine lv_isub hx hb dX4_threesBeside_19 ?_
  cases hf
  exact ret_i hx hb hr hlk hK hP hD hS dX4_threesBeside_20
theorem yk_X4_threesBeside : ykV yX4_threesBeside RX4 cX4_threesBeside 4 (some .int) 3 := ⟨wd_1012, wd_33, wd_136, wd_1013, rfl, by decide +kernel, by decide +kernel, by decide +kernel⟩
theorem dX4_seekChange_0 : decode cX4_seekChange 0 = .ok (.aload_n 0, 1) := by decide +kernel
theorem dX4_seekChange_1 : decode cX4_seekChange 1 = .ok (.iconst (-1), 1) := by decide +kernel
theorem dX4_seekChange_2 : decode cX4_seekChange 2 = .ok (.iconst (-1), 1) := by decide +kernel
theorem dX4_seekChange_3 : decode cX4_seekChange 3 = .ok (.iconst (-1), 1) := by decide +kernel
theorem dX4_seekChange_4 : decode cX4_seekChange 4 = .ok (.invokevirtual 70, 3) := by decide +kernel
theorem dX4_seekChange_7 : decode cX4_seekChange 7 = .ok (.aload_n 0, 1) := by decide +kernel
theorem dX4_seekChange_8 : decode cX4_seekChange 8 = .ok (.aload_n 1, 1) := by decide +kernel
theorem dX4_seekChange_9 : decode cX4_seekChange 9 = .ok (.invokevirtual 74, 3) := by decide +kernel
theorem dX4_seekChange_12 : decode cX4_seekChange 12 = .ok (.aload_n 0, 1) := by decide +kernel
theorem dX4_seekChange_13 : decode cX4_seekChange 13 = .ok (.aload_n 1, 1) := by decide +kernel
theorem dX4_seekChange_14 : decode cX4_seekChange 14 = .ok (.invokevirtual 78, 3) := by decide +kernel
theorem dX4_seekChange_17 : decode cX4_seekChange 17 = .ok (.istore_n 2, 1) := by decide +kernel
theorem dX4_seekChange_18 : decode cX4_seekChange 18 = .ok (.iload_n 2, 1) := by decide +kernel
theorem dX4_seekChange_19 : decode cX4_seekChange 19 = .ok (.istore_n 3, 1) := by decide +kernel
theorem dX4_seekChange_20 : decode cX4_seekChange 20 = .ok (.iconst 0, 1) := by decide +kernel
theorem dX4_seekChange_21 : decode cX4_seekChange 21 = .ok (.istore 4, 2) := by decide +kernel
theorem dX4_seekChange_23 : decode cX4_seekChange 23 = .ok (.iload 4, 2) := by decide +kernel
theorem dX4_seekChange_25 : decode cX4_seekChange 25 = .ok (.aload_n 1, 1) := by decide +kernel
theorem dX4_seekChange_26 : decode cX4_seekChange 26 = .ok (.getfield 82, 3) := by decide +kernel
theorem dX4_seekChange_29 : decode cX4_seekChange 29 = .ok (.if_icmp .ge 104, 3) := by decide +kernel
theorem dX4_seekChange_32 : decode cX4_seekChange 32 = .ok (.iload_n 2, 1) := by decide +kernel
theorem dX4_seekChange_33 : decode cX4_seekChange 33 = .ok (.aload_n 0, 1) := by decide +kernel
theorem dX4_seekChange_34 : decode cX4_seekChange 34 = .ok (.aload_n 1, 1) := by decide +kernel
theorem dX4_seekChange_35 : decode cX4_seekChange 35 = .ok (.iload 4, 2) := by decide +kernel
theorem dX4_seekChange_37 : decode cX4_seekChange 37 = .ok (.aload_n 1, 1) := by decide +kernel
theorem dX4_seekChange_38 : decode cX4_seekChange 38 = .ok (.getfield 42, 3) := by decide +kernel
theorem dX4_seekChange_41 : decode cX4_seekChange 41 = .ok (.iload 4, 2) := by decide +kernel
theorem dX4_seekChange_43 : decode cX4_seekChange 43 = .ok (.iaload, 1) := by decide +kernel
theorem dX4_seekChange_44 : decode cX4_seekChange 44 = .ok (.invokevirtual 85, 3) := by decide +kernel
theorem dX4_seekChange_47 : decode cX4_seekChange 47 = .ok (.isub, 1) := by decide +kernel
theorem dX4_seekChange_48 : decode cX4_seekChange 48 = .ok (.istore 5, 2) := by decide +kernel
theorem dX4_seekChange_50 : decode cX4_seekChange 50 = .ok (.iconst 0, 1) := by decide +kernel
theorem dX4_seekChange_51 : decode cX4_seekChange 51 = .ok (.istore 6, 2) := by decide +kernel
theorem dX4_seekChange_53 : decode cX4_seekChange 53 = .ok (.iload 6, 2) := by decide +kernel
theorem dX4_seekChange_55 : decode cX4_seekChange 55 = .ok (.iconst 1, 1) := by decide +kernel
theorem dX4_seekChange_56 : decode cX4_seekChange 56 = .ok (.aload_n 1, 1) := by decide +kernel
theorem dX4_seekChange_57 : decode cX4_seekChange 57 = .ok (.getfield 89, 3) := by decide +kernel
theorem dX4_seekChange_60 : decode cX4_seekChange 60 = .ok (.ishl, 1) := by decide +kernel
theorem dX4_seekChange_61 : decode cX4_seekChange 61 = .ok (.if_icmp .ge 66, 3) := by decide +kernel
theorem dX4_seekChange_64 : decode cX4_seekChange 64 = .ok (.aload_n 1, 1) := by decide +kernel
theorem dX4_seekChange_65 : decode cX4_seekChange 65 = .ok (.iload 6, 2) := by decide +kernel
theorem dX4_seekChange_67 : decode cX4_seekChange 67 = .ok (.invokevirtual 92, 3) := by decide +kernel
theorem dX4_seekChange_70 : decode cX4_seekChange 70 = .ok (.ifCond .eq 51, 3) := by decide +kernel
theorem dX4_seekChange_73 : decode cX4_seekChange 73 = .ok (.aload_n 1, 1) := by decide +kernel
theorem dX4_seekChange_74 : decode cX4_seekChange 74 = .ok (.iload 6, 2) := by decide +kernel
theorem dX4_seekChange_76 : decode cX4_seekChange 76 = .ok (.invokevirtual 45, 3) := by decide +kernel
theorem dX4_seekChange_79 : decode cX4_seekChange 79 = .ok (.iconst (-1), 1) := by decide +kernel
theorem dX4_seekChange_80 : decode cX4_seekChange 80 = .ok (.if_icmp .eq 6, 3) := by decide +kernel
theorem dX4_seekChange_83 : decode cX4_seekChange 83 = .ok (.goto 38, 3) := by decide +kernel
theorem dX4_seekChange_86 : decode cX4_seekChange 86 = .ok (.iload 5, 2) := by decide +kernel
theorem dX4_seekChange_88 : decode cX4_seekChange 88 = .ok (.aload_n 0, 1) := by decide +kernel
theorem dX4_seekChange_89 : decode cX4_seekChange 89 = .ok (.aload_n 1, 1) := by decide +kernel
theorem dX4_seekChange_90 : decode cX4_seekChange 90 = .ok (.iload 4, 2) := by decide +kernel
theorem dX4_seekChange_92 : decode cX4_seekChange 92 = .ok (.iload 6, 2) := by decide +kernel
theorem dX4_seekChange_94 : decode cX4_seekChange 94 = .ok (.invokevirtual 85, 3) := by decide +kernel
theorem dX4_seekChange_97 : decode cX4_seekChange 97 = .ok (.iadd, 1) := by decide +kernel
theorem dX4_seekChange_98 : decode cX4_seekChange 98 = .ok (.istore 7, 2) := by decide +kernel
theorem dX4_seekChange_100 : decode cX4_seekChange 100 = .ok (.iload 7, 2) := by decide +kernel
theorem dX4_seekChange_102 : decode cX4_seekChange 102 = .ok (.iload_n 3, 1) := by decide +kernel
theorem dX4_seekChange_103 : decode cX4_seekChange 103 = .ok (.if_icmp .ge 18, 3) := by decide +kernel
theorem dX4_seekChange_106 : decode cX4_seekChange 106 = .ok (.iload 7, 2) := by decide +kernel
theorem dX4_seekChange_108 : decode cX4_seekChange 108 = .ok (.istore_n 3, 1) := by decide +kernel
theorem dX4_seekChange_109 : decode cX4_seekChange 109 = .ok (.aload_n 0, 1) := by decide +kernel
theorem dX4_seekChange_110 : decode cX4_seekChange 110 = .ok (.iload 4, 2) := by decide +kernel
theorem dX4_seekChange_112 : decode cX4_seekChange 112 = .ok (.iload 6, 2) := by decide +kernel
theorem dX4_seekChange_114 : decode cX4_seekChange 114 = .ok (.iload 7, 2) := by decide +kernel
theorem dX4_seekChange_116 : decode cX4_seekChange 116 = .ok (.iconst 4, 1) := by decide +kernel
theorem dX4_seekChange_117 : decode cX4_seekChange 117 = .ok (.imul, 1) := by decide +kernel
theorem dX4_seekChange_118 : decode cX4_seekChange 118 = .ok (.invokevirtual 70, 3) := by decide +kernel
theorem dX4_seekChange_121 : decode cX4_seekChange 121 = .ok (.iinc 6 1, 3) := by decide +kernel
theorem dX4_seekChange_124 : decode cX4_seekChange 124 = .ok (.goto (-71), 3) := by decide +kernel
theorem dX4_seekChange_127 : decode cX4_seekChange 127 = .ok (.iinc 4 1, 3) := by decide +kernel
theorem dX4_seekChange_130 : decode cX4_seekChange 130 = .ok (.goto (-107), 3) := by decide +kernel
theorem dX4_seekChange_133 : decode cX4_seekChange 133 = .ok (.return_, 1) := by decide +kernel
def wW_X4_seekChange (G : GG) (h0 h1 h2 h3 h4 h5 y0_2 y0_3 y3_5 : Nat) (x0_4 : Int32) (x0_5 : Int32) (x0_6 : Int32) (a1 : Nat → Int32) (a2 : Nat → Int32) (x3_0 : Int32) (x3_1 : Int32) (x3_2 : Int32) (a4 : Nat → Int32) (a5 : Nat → Int32) : va_W := [(h0, .inr (4, [.ref h1, .ref h2, .ref y0_2, .ref y0_3, .int x0_4, .int x0_5, .int x0_6])), (h1, .inl (G.2.1, 256, .inl a1)), (h2, .inl (G.2.1, 256, .inl a2)), (h3, .inr (1, [.int x3_0, .int x3_1, .int x3_2, .ref h4, .ref h5, .ref y3_5])), (h4, .inl (G.2.1, 32, .inl a4)), (h5, .inl (G.2.1, 256, .inl a5))]
set_option maxHeartbeats 4000000 in
set_option maxRecDepth 100000 in
theorem c_X4_seekChange (l : Launch) (G : GG) (h0 h1 h2 h3 h4 h5 y0_2 y0_3 y3_5 : Nat) (sz : Nat) (x0_4 : Int32) (x0_5 : Int32) (x0_6 : Int32) (a1 : Nat → Int32) (a2 : Nat → Int32) (x3_0 : Int32) (x3_1 : Int32) (x3_2 : Int32) (a4 : Nat → Int32) (a5 : Nat → Int32) (F : Nat)   (e_x0_4 : Int32) (e_x0_5 : Int32) (e_x0_6 : Int32) (e_a1 : Nat → Int32) (e_a2 : Nat → Int32) (hf : p_X4_seekChange F x0_4 x0_5 x0_6 a1 a2 x3_0 x3_1 a4 a5  = some (e_x0_4, e_x0_5, e_x0_6, e_a1, e_a2)) : Met l yX4_seekChange (.code yX4_seekChange cX4_seekChange 8 none :: gtbl) ({ frames := 3, cells := 0, slots := 0, locals := 69 } : Room) (PcS G [.ref h0, .ref h3] (wW_X4_seekChange G h0 h1 h2 h3 h4 h5 y0_2 y0_3 y3_5 x0_4 x0_5 x0_6 a1 a2 x3_0 x3_1 x3_2 a4 a5) sz) (QvS G (va_A (wW_X4_seekChange G h0 h1 h2 h3 h4 h5 y0_2 y0_3 y3_5 x0_4 x0_5 x0_6 a1 a2 x3_0 x3_1 x3_2 a4 a5) sz) (wW_X4_seekChange G h0 h1 h2 h3 h4 h5 y0_2 y0_3 y3_5 e_x0_4 e_x0_5 e_x0_6 e_a1 e_a2 x3_0 x3_1 x3_2 a4 a5)) 0 0 (va_A (wW_X4_seekChange G h0 h1 h2 h3 h4 h5 y0_2 y0_3 y3_5 x0_4 x0_5 x0_6 a1 a2 x3_0 x3_1 x3_2 a4 a5) sz) := by
  refine met_start (by decide) (Nat.le_of_ble_eq_true rfl) ?_
  intro p e s m below meth c hC hr hlk hnm hK hP hD hA hS hX ls hl
  obtain ⟨hx, hb, hml, hown, ht0⟩ := hC
  have hown : s.vm.findClass RX4 = some m.cls := hown
  generalize va_A (wW_X4_seekChange G h0 h1 h2 h3 h4 h5 y0_2 y0_3 y3_5 x0_4 x0_5 x0_6 a1 a2 x3_0 x3_1 x3_2 a4 a5) sz = A at hD hA hS hX ⊢
  have hl : lv_has ls 8 [(0, .ref h0), (1, .ref h3)] := hl
  have hf : p_X4_seekChange F x0_4 x0_5 x0_6 a1 a2 x3_0 x3_1 a4 a5  = some (e_x0_4, e_x0_5, e_x0_6, e_a1, e_a2) := hf
  have kL23 : ∀ (c23_2 : Int32) (n23 : Nat) (u23_3 : Int32) (u23_4 : Int32) (x0_4_23 : Int32) (x0_5_23 : Int32) (x0_6_23 : Int32) (a1_23 : Nat → Int32) (a2_23 : Nat → Int32), p_X4_seekChange_L23 F x3_0 x3_1 a4 a5 c23_2 n23 u23_3 u23_4 x0_4_23 x0_5_23 x0_6_23 a1_23 a2_23 = some (e_x0_4, e_x0_5, e_x0_6, e_a1, e_a2) → ∀ (H : Heap) (locs : List Loc), va_P G.1 vwCl (wW_X4_seekChange G h0 h1 h2 h3 h4 h5 y0_2 y0_3 y3_5 x0_4_23 x0_5_23 x0_6_23 a1_23 a2_23 x3_0 x3_1 x3_2 a4 a5) H → va_D A (wW_X4_seekChange G h0 h1 h2 h3 h4 h5 y0_2 y0_3 y3_5 x0_4_23 x0_5_23 x0_6_23 a1_23 a2_23 x3_0 x3_1 x3_2 a4 a5) → va_S A s.heap H locs → ∀ ls : Array Slot, lv_has ls 8 [(0, .ref h0), (1, .ref h3), (2, .int c23_2), (3, .int u23_3), (4, .int u23_4)] → W p l e ({ frames := 3, cells := 0, slots := 0, locals := 69 } : Room) s m (List.toArray [.ref h0, .ref h3]) below meth c H locs 0 0 (MQ below (QvS G A (wW_X4_seekChange G h0 h1 h2 h3 h4 h5 y0_2 y0_3 y3_5 e_x0_4 e_x0_5 e_x0_6 e_a1 e_a2 x3_0 x3_1 x3_2 a4 a5)) (List.toArray [.ref h0, .ref h3]) s 0 0 A) (F0 m 23 ls []) := by
    intro c23_2 n23
    induction n23 with
    | zero =>
      intro u23_3 u23_4 x0_4_23 x0_5_23 x0_6_23 a1_23 a2_23 hf
      cases hf
    | succ n23 ih23 =>
      have kL53 : ∀ (c53_4 : Int32) (c53_5 : Int32) (n53 : Nat) (u53_3 : Int32) (u53_6 : Int32) (x0_4_53 : Int32) (x0_5_53 : Int32) (x0_6_53 : Int32) (a1_53 : Nat → Int32) (a2_53 : Nat → Int32), p_X4_seekChange_L53 F x3_0 x3_1 a4 a5 c23_2 c53_4 c53_5 (p_X4_seekChange_L23 F x3_0 x3_1 a4 a5 c23_2 n23) n53 u53_3 u53_6 x0_4_53 x0_5_53 x0_6_53 a1_53 a2_53 = some (e_x0_4, e_x0_5, e_x0_6, e_a1, e_a2) → ∀ (H : Heap) (locs : List Loc), va_P G.1 vwCl (wW_X4_seekChange G h0 h1 h2 h3 h4 h5 y0_2 y0_3 y3_5 x0_4_53 x0_5_53 x0_6_53 a1_53 a2_53 x3_0 x3_1 x3_2 a4 a5) H → va_D A (wW_X4_seekChange G h0 h1 h2 h3 h4 h5 y0_2 y0_3 y3_5 x0_4_53 x0_5_53 x0_6_53 a1_53 a2_53 x3_0 x3_1 x3_2 a4 a5) → va_S A s.heap H locs → ∀ ls : Array Slot, lv_has ls 8 [(0, .ref h0), (1, .ref h3), (2, .int c23_2), (3, .int u53_3), (4, .int c53_4), (5, .int c53_5), (6, .int u53_6)] → W p l e ({ frames := 3, cells := 0, slots := 0, locals := 69 } : Room) s m (List.toArray [.ref h0, .ref h3]) below meth c H locs 0 0 (MQ below (QvS G A (wW_X4_seekChange G h0 h1 h2 h3 h4 h5 y0_2 y0_3 y3_5 e_x0_4 e_x0_5 e_x0_6 e_a1 e_a2 x3_0 x3_1 x3_2 a4 a5)) (List.toArray [.ref h0, .ref h3]) s 0 0 A) (F0 m 53 ls []) := by
        intro c53_4 c53_5 n53
        induction n53 with
        | zero =>
          intro u53_3 u53_6 x0_4_53 x0_5_53 x0_6_53 a1_53 a2_53 hf
          cases hf
        | succ n53 ih53 =>
          have kJ121 : ∀ (u121_3 : Int32) (u121_6 : Int32) (x0_4_121 : Int32) (x0_5_121 : Int32) (x0_6_121 : Int32) (a1_121 : Nat → Int32) (a2_121 : Nat → Int32), p_X4_seekChange_J121 F x3_0 x3_1 a4 a5 c23_2 c53_4 c53_5 (p_X4_seekChange_L23 F x3_0 x3_1 a4 a5 c23_2 n23) (p_X4_seekChange_L53 F x3_0 x3_1 a4 a5 c23_2 c53_4 c53_5 (p_X4_seekChange_L23 F x3_0 x3_1 a4 a5 c23_2 n23) n53) u121_3 u121_6 x0_4_121 x0_5_121 x0_6_121 a1_121 a2_121 = some (e_x0_4, e_x0_5, e_x0_6, e_a1, e_a2) → ∀ (H : Heap) (locs : List Loc), va_P G.1 vwCl (wW_X4_seekChange G h0 h1 h2 h3 h4 h5 y0_2 y0_3 y3_5 x0_4_121 x0_5_121 x0_6_121 a1_121 a2_121 x3_0 x3_1 x3_2 a4 a5) H → va_D A (wW_X4_seekChange G h0 h1 h2 h3 h4 h5 y0_2 y0_3 y3_5 x0_4_121 x0_5_121 x0_6_121 a1_121 a2_121 x3_0 x3_1 x3_2 a4 a5) → va_S A s.heap H locs → ∀ ls : Array Slot, lv_has ls 8 [(0, .ref h0), (1, .ref h3), (2, .int c23_2), (3, .int u121_3), (4, .int c53_4), (5, .int c53_5), (6, .int u121_6)] → W p l e ({ frames := 3, cells := 0, slots := 0, locals := 69 } : Room) s m (List.toArray [.ref h0, .ref h3]) below meth c H locs 0 0 (MQ below (QvS G A (wW_X4_seekChange G h0 h1 h2 h3 h4 h5 y0_2 y0_3 y3_5 e_x0_4 e_x0_5 e_x0_6 e_a1 e_a2 x3_0 x3_1 x3_2 a4 a5)) (List.toArray [.ref h0, .ref h3]) s 0 0 A) (F0 m 121 ls []) := by
            intro u121_3 u121_6 x0_4_121 x0_5_121 x0_6_121 a1_121 a2_121 hf H locs hP hD hS ls hl
            refine lv_iinc (v := u121_6 + (1 : Int32)) (lv' := [(6, .int (u121_6 + (1 : Int32))), (0, .ref h0), (1, .ref h3), (2, .int c23_2), (3, .int u121_3), (4, .int c53_4), (5, .int c53_5)]) hx hb dX4_seekChange_121 hl (k := 6) rfl (by rfl) (by decide) rfl (fun ls hl => ?_)
            refine lv_goto (tgt := 53) hx hb dX4_seekChange_124 (by decide) ?_
            exact ih53 _ _ _ _ _ _ _ hf _ _ hP hD hS _ (lv_sub hl [1, 2, 3, 4, 5, 6, 0] rfl)
          intro u53_3 u53_6 x0_4_53 x0_5_53 x0_6_53 a1_53 a2_53 hf H locs hP hD hS ls hl
          have hf : p_X4_seekChange_L53b F x3_0 x3_1 a4 a5 c23_2 c53_4 c53_5 (p_X4_seekChange_L23 F x3_0 x3_1 a4 a5 c23_2 n23) (p_X4_seekChange_L53 F x3_0 x3_1 a4 a5 c23_2 c53_4 c53_5 (p_X4_seekChange_L23 F x3_0 x3_1 a4 a5 c23_2 n23) n53) u53_3 u53_6 x0_4_53 x0_5_53 x0_6_53 a1_53 a2_53 = some (e_x0_4, e_x0_5, e_x0_6, e_a1, e_a2) := hf
          refine lv_iload hx hb dX4_seekChange_53 (lv_at hl 6 rfl) ?_
          refine lv_iconst (v := (1 : Int32)) hx hb dX4_seekChange_55 (by decide) ?_
          refine lv_aload_n hx hb dX4_seekChange_56 rfl (lv_at hl 1 rfl) ?_
          refine va_get (ci := 1) (v := .int x3_1) (C := RX1) (T := TX1) (N := 6) hx hb ht0 iX1 hown hK hP 3 rfl rfl 1 (by decide) (ht0 _ wd_218) (fun _ h9 => h9) rfl dX4_seekChange_57 ?_
          refine lv_ishl hx hb dX4_seekChange_60 ?_
          refine lv_icmp_ge (tgt := 127) hx hb dX4_seekChange_61 (by decide) (fun c1 => ?_) (fun c1 => ?_)
          · have hf := of_pos hf c1
            refine lv_iinc (v := c53_4 + (1 : Int32)) (lv' := [(4, .int (c53_4 + (1 : Int32))), (0, .ref h0), (1, .ref h3), (2, .int c23_2), (3, .int u53_3), (5, .int c53_5), (6, .int u53_6)]) hx hb dX4_seekChange_127 hl (k := 4) rfl (by rfl) (by decide) rfl (fun ls hl => ?_)
            refine lv_goto (tgt := 23) hx hb dX4_seekChange_130 (by decide) ?_
            exact ih23 _ _ _ _ _ _ _ hf _ _ hP hD hS _ (lv_sub hl [1, 2, 3, 4, 0] rfl)
          · have hf := of_neg hf c1
            refine lv_aload_n hx hb dX4_seekChange_64 rfl (lv_at hl 1 rfl) ?_
            refine lv_iload hx hb dX4_seekChange_65 (lv_at hl 6 rfl) ?_
            obtain ⟨r_67_1, hc_r_67_1, hf⟩ := of_bnd hf
            refine cl_Vi (w2 := (wW_X4_seekChange G h0 h1 h2 h3 h4 h5 y0_2 y0_3 y3_5 x0_4_53 x0_5_53 x0_6_53 a1_53 a2_53 x3_0 x3_1 x3_2 a4 a5)) (As := [.int u53_6]) (rest := []) ⟨hx, hb, hml, hown, ht0⟩ (c_X1_isDataColumn l G h3 h4 h5 y3_5 _ x3_0 x3_1 x3_2 F u53_6 _ hc_r_67_1) yk_X1_isDataColumn wd_1014 ⟨rfl, rfl, by decide, by decide⟩ ⟨Nat.le_refl _, Nat.le_refl _⟩ hX hK hP hD hS hA [3] [0, 1, 2, 4, 5] [0, 1, 2, 5, 3, 4] (va_recv hK hP (ci := 1) (q0 := 3) rfl rfl) rfl rfl (by decide) rfl rfl rfl rfl rfl hl.1 rfl (Nat.le_of_ble_eq_true rfl) dX4_seekChange_67 (fun H locs hP hD hS => ?_)
            refine lv_if_eq (tgt := 121) hx hb dX4_seekChange_70 (by decide) (fun c3 => ?_) (fun c3 => ?_)
            · have hf := of_pos hf c3
              exact kJ121 _ _ _ _ _ _ _ hf _ _ hP hD hS _ (lv_sub hl [0, 1, 2, 3, 4, 5, 6] rfl)
            · have hf := of_neg hf c3
              refine lv_aload_n hx hb dX4_seekChange_73 rfl (lv_at hl 1 rfl) ?_
              refine lv_iload hx hb dX4_seekChange_74 (lv_at hl 6 rfl) ?_
              obtain ⟨r_76_3, hc_r_76_3, hf⟩ := of_bnd hf
              refine cl_Vi (w2 := (wW_X4_seekChange G h0 h1 h2 h3 h4 h5 y0_2 y0_3 y3_5 x0_4_53 x0_5_53 x0_6_53 a1_53 a2_53 x3_0 x3_1 x3_2 a4 a5)) (As := [.int u53_6]) (rest := []) ⟨hx, hb, hml, hown, ht0⟩ (c_X1_placeWith l G h3 h5 h4 y3_5 _ x3_0 x3_1 x3_2 a5 F u53_6 _ hc_r_76_3) yk_X1_placeWith wd_1009 ⟨rfl, rfl, by decide, by decide⟩ ⟨Nat.le_refl _, Nat.le_refl _⟩ hX hK hP hD hS hA [3, 5] [0, 1, 2, 4] [0, 1, 2, 4, 3, 5] (va_recv hK hP (ci := 1) (q0 := 3) rfl rfl) rfl rfl (by decide) rfl rfl rfl rfl rfl hl.1 rfl (Nat.le_of_ble_eq_true rfl) dX4_seekChange_76 (fun H locs hP hD hS => ?_)
              refine lv_iconst (v := (-1 : Int32)) hx hb dX4_seekChange_79 (by decide) ?_
              refine lv_icmp_eq (tgt := 86) hx hb dX4_seekChange_80 (by decide) (fun c5 => ?_) (fun c5 => ?_)
              · have hf := of_pos hf c5
                refine lv_iload hx hb dX4_seekChange_86 (lv_at hl 5 rfl) ?_
                refine lv_aload_n hx hb dX4_seekChange_88 rfl (lv_at hl 0 rfl) ?_
                refine lv_aload_n hx hb dX4_seekChange_89 rfl (lv_at hl 1 rfl) ?_
                refine lv_iload hx hb dX4_seekChange_90 (lv_at hl 4 rfl) ?_
                refine lv_iload hx hb dX4_seekChange_92 (lv_at hl 6 rfl) ?_
                obtain ⟨r_94_5, hc_r_94_5, hf⟩ := of_bnd hf
                refine cl_Vi (w2 := (wW_X4_seekChange G h0 h1 h2 h3 h4 h5 y0_2 y0_3 y3_5 x0_4_53 x0_5_53 x0_6_53 a1_53 a2_53 x3_0 x3_1 x3_2 a4 a5)) (As := [.ref h3, .int c53_4, .int u53_6]) (rest := [.int c53_5]) ⟨hx, hb, hml, hown, ht0⟩ (c_X4_threesBeside l G h0 h1 h2 h3 h4 y0_2 y0_3 h5 y3_5 _ x0_4_53 x0_5_53 x0_6_53 a1_53 a2_53 x3_0 x3_1 x3_2 a4 F c53_4 u53_6 _ hc_r_94_5) yk_X4_threesBeside wd_1010 ⟨rfl, rfl, by decide, by decide⟩ ⟨Nat.le_refl _, Nat.le_refl _⟩ hX hK hP hD hS hA [0, 1, 2, 3, 4] [5] [1, 2, 3, 4, 5, 0] (va_recv hK hP (ci := 4) (q0 := 0) rfl rfl) rfl rfl (by decide) rfl rfl rfl rfl rfl hl.1 rfl (Nat.le_of_ble_eq_true rfl) dX4_seekChange_94 (fun H locs hP hD hS => ?_)
                refine lv_iadd hx hb dX4_seekChange_97 ?_
                refine lv_istore (lv' := [(7, .int (c53_5 + r_94_5)), (0, .ref h0), (1, .ref h3), (2, .int c23_2), (3, .int u53_3), (4, .int c53_4), (5, .int c53_5), (6, .int u53_6)]) hx hb dX4_seekChange_98 hl (by decide) rfl (fun ls hl => ?_)
                refine lv_iload hx hb dX4_seekChange_100 (lv_at hl 0 rfl) ?_
                refine lv_iload_n hx hb dX4_seekChange_102 rfl (lv_at hl 4 rfl) ?_
                refine lv_icmp_ge (tgt := 121) hx hb dX4_seekChange_103 (by decide) (fun c7 => ?_) (fun c7 => ?_)
                · have hf := of_pos hf c7
                  exact kJ121 _ _ _ _ _ _ _ hf _ _ hP hD hS _ (lv_sub hl [1, 2, 3, 4, 5, 6, 7] rfl)
                · have hf := of_neg hf c7
                  refine lv_iload hx hb dX4_seekChange_106 (lv_at hl 0 rfl) ?_
                  refine lv_istore_n (lv' := [(3, .int (c53_5 + r_94_5)), (7, .int (c53_5 + r_94_5)), (0, .ref h0), (1, .ref h3), (2, .int c23_2), (4, .int c53_4), (5, .int c53_5), (6, .int u53_6)]) hx hb dX4_seekChange_108 rfl hl (by decide) rfl (fun ls hl => ?_)
                  refine lv_aload_n hx hb dX4_seekChange_109 rfl (lv_at hl 2 rfl) ?_
                  refine lv_iload hx hb dX4_seekChange_110 (lv_at hl 5 rfl) ?_
                  refine lv_iload hx hb dX4_seekChange_112 (lv_at hl 7 rfl) ?_
                  refine lv_iload hx hb dX4_seekChange_114 (lv_at hl 1 rfl) ?_
                  refine lv_iconst (v := (4 : Int32)) hx hb dX4_seekChange_116 (by decide) ?_
                  refine lv_imul hx hb dX4_seekChange_117 ?_
                  obtain ⟨⟨r_118_7_x0_4, r_118_7_x0_5, r_118_7_x0_6⟩, hc_r_118_7, hf⟩ := of_bnd hf
                  refine cl_Vv (w2 := (wW_X4_seekChange G h0 h1 h2 h3 h4 h5 y0_2 y0_3 y3_5 r_118_7_x0_4 r_118_7_x0_5 r_118_7_x0_6 a1_53 a2_53 x3_0 x3_1 x3_2 a4 a5)) (As := [.int c53_4, .int u53_6, .int ((c53_5 + r_94_5) * (4 : Int32))]) (rest := []) ⟨hx, hb, hml, hown, ht0⟩ (c_X4_settleBest l G h0 h1 h2 y0_2 y0_3 _ x0_4_53 x0_5_53 x0_6_53 F c53_4 u53_6 ((c53_5 + r_94_5) * (4 : Int32)) _ _ _ hc_r_118_7) yk_X4_settleBest wd_991 ⟨rfl, rfl, by decide, by decide⟩ ⟨Nat.le_refl _, Nat.le_refl _⟩ hX hK hP hD hS hA [0] [1, 2, 3, 4, 5] [5, 0, 1, 2, 3, 4] (va_recv hK hP (ci := 4) (q0 := 0) rfl rfl) rfl rfl (by decide) rfl rfl rfl rfl rfl hl.1 rfl (Nat.le_of_ble_eq_true rfl) dX4_seekChange_118 (fun H locs hP hD hS => ?_)
                  exact kJ121 _ _ _ _ _ _ _ hf _ _ hP hD hS _ (lv_sub hl [2, 3, 4, 0, 5, 6, 7] rfl)
              · have hf := of_neg hf c5
                refine lv_goto (tgt := 121) hx hb dX4_seekChange_83 (by decide) ?_
                exact kJ121 _ _ _ _ _ _ _ hf _ _ hP hD hS _ (lv_sub hl [0, 1, 2, 3, 4, 5, 6] rfl)
      intro u23_3 u23_4 x0_4_23 x0_5_23 x0_6_23 a1_23 a2_23 hf H locs hP hD hS ls hl
      have hf : p_X4_seekChange_L23b F x3_0 x3_1 a4 a5 c23_2 (p_X4_seekChange_L23 F x3_0 x3_1 a4 a5 c23_2 n23) u23_3 u23_4 x0_4_23 x0_5_23 x0_6_23 a1_23 a2_23 = some (e_x0_4, e_x0_5, e_x0_6, e_a1, e_a2) := hf
      refine lv_iload hx hb dX4_seekChange_23 (lv_at hl 4 rfl) ?_
      refine lv_aload_n hx hb dX4_seekChange_25 rfl (lv_at hl 1 rfl) ?_
      refine va_get (ci := 1) (v := .int x3_0) (C := RX1) (T := TX1) (N := 6) hx hb ht0 iX1 hown hK hP 3 rfl rfl 0 (by decide) (ht0 _ wd_212) (fun _ h9 => h9) rfl dX4_seekChange_26 ?_
      refine lv_icmp_ge (tgt := 133) hx hb dX4_seekChange_29 (by decide) (fun c9 => ?_) (fun c9 => ?_)
      · have hf := of_pos hf c9
        cases hf
        exact ret_v hx hb hr hlk hK hP hD hS dX4_seekChange_133
      · have hf := of_neg hf c9
        refine lv_iload_n hx hb dX4_seekChange_32 rfl (lv_at hl 2 rfl) ?_
        refine lv_aload_n hx hb dX4_seekChange_33 rfl (lv_at hl 0 rfl) ?_
        refine lv_aload_n hx hb dX4_seekChange_34 rfl (lv_at hl 1 rfl) ?_
        refine lv_iload hx hb dX4_seekChange_35 (lv_at hl 4 rfl) ?_
        refine lv_aload_n hx hb dX4_seekChange_37 rfl (lv_at hl 1 rfl) ?_
        refine va_get (ci := 1) (v := .ref h4) (C := RX1) (T := TX1) (N := 6) hx hb ht0 iX1 hown hK hP 3 rfl rfl 3 (by decide) (ht0 _ wd_230) (fun _ h9 => h9) rfl dX4_seekChange_38 ?_
        refine lv_iload hx hb dX4_seekChange_41 (lv_at hl 4 rfl) ?_
        obtain ⟨g10, hf⟩ := of_grd hf
        refine va_iald hx hb hK hP 4 0 rfl rfl g10 dX4_seekChange_43 ?_
        obtain ⟨r_44_10, hc_r_44_10, hf⟩ := of_bnd hf
        refine cl_Vi (w2 := (wW_X4_seekChange G h0 h1 h2 h3 h4 h5 y0_2 y0_3 y3_5 x0_4_23 x0_5_23 x0_6_23 a1_23 a2_23 x3_0 x3_1 x3_2 a4 a5)) (As := [.ref h3, .int u23_4, .int (a4 u23_4.toNatClampNeg)]) (rest := [.int c23_2]) ⟨hx, hb, hml, hown, ht0⟩ (c_X4_threesBeside l G h0 h1 h2 h3 h4 y0_2 y0_3 h5 y3_5 _ x0_4_23 x0_5_23 x0_6_23 a1_23 a2_23 x3_0 x3_1 x3_2 a4 F u23_4 (a4 u23_4.toNatClampNeg) _ hc_r_44_10) yk_X4_threesBeside wd_1010 ⟨rfl, rfl, by decide, by decide⟩ ⟨Nat.le_refl _, Nat.le_refl _⟩ hX hK hP hD hS hA [0, 1, 2, 3, 4] [5] [1, 2, 3, 4, 5, 0] (va_recv hK hP (ci := 4) (q0 := 0) rfl rfl) rfl rfl (by decide) rfl rfl rfl rfl rfl hl.1 rfl (Nat.le_of_ble_eq_true rfl) dX4_seekChange_44 (fun H locs hP hD hS => ?_)
        refine lv_isub hx hb dX4_seekChange_47 ?_
        refine lv_istore (lv' := [(5, .int (c23_2 - r_44_10)), (0, .ref h0), (1, .ref h3), (2, .int c23_2), (3, .int u23_3), (4, .int u23_4)]) hx hb dX4_seekChange_48 hl (by decide) rfl (fun ls hl => ?_)
        refine lv_iconst (v := (0 : Int32)) hx hb dX4_seekChange_50 (by decide) ?_
        refine lv_istore (lv' := [(6, .int (0 : Int32)), (5, .int (c23_2 - r_44_10)), (0, .ref h0), (1, .ref h3), (2, .int c23_2), (3, .int u23_3), (4, .int u23_4)]) hx hb dX4_seekChange_51 hl (by decide) rfl (fun ls hl => ?_)
        exact kL53 _ _ _ _ _ _ _ _ _ _ hf _ _ hP hD hS _ (lv_sub hl [2, 3, 4, 5, 6, 1, 0] rfl)
  refine lv_aload_n hx hb dX4_seekChange_0 rfl (lv_at hl 0 rfl) ?_
  refine lv_iconst (v := (-1 : Int32)) hx hb dX4_seekChange_1 (by decide) ?_
  refine lv_iconst (v := (-1 : Int32)) hx hb dX4_seekChange_2 (by decide) ?_
  refine lv_iconst (v := (-1 : Int32)) hx hb dX4_seekChange_3 (by decide) ?_
  obtain ⟨⟨r_4_11_x0_4, r_4_11_x0_5, r_4_11_x0_6⟩, hc_r_4_11, hf⟩ := of_bnd hf
  refine cl_Vv (w2 := (wW_X4_seekChange G h0 h1 h2 h3 h4 h5 y0_2 y0_3 y3_5 r_4_11_x0_4 r_4_11_x0_5 r_4_11_x0_6 a1 a2 x3_0 x3_1 x3_2 a4 a5)) (As := [.int (-1 : Int32), .int (-1 : Int32), .int (-1 : Int32)]) (rest := []) ⟨hx, hb, hml, hown, ht0⟩ (c_X4_settleBest l G h0 h1 h2 y0_2 y0_3 _ x0_4 x0_5 x0_6 F (-1 : Int32) (-1 : Int32) (-1 : Int32) _ _ _ hc_r_4_11) yk_X4_settleBest wd_991 ⟨rfl, rfl, by decide, by decide⟩ ⟨Nat.le_refl _, Nat.le_refl _⟩ hX hK hP hD hS hA [0] [1, 2, 3, 4, 5] [5, 0, 1, 2, 3, 4] (va_recv hK hP (ci := 4) (q0 := 0) rfl rfl) rfl rfl (by decide) rfl rfl rfl rfl rfl hl.1 rfl (Nat.le_of_ble_eq_true rfl) dX4_seekChange_4 (fun H locs hP hD hS => ?_)
  refine lv_aload_n hx hb dX4_seekChange_7 rfl (lv_at hl 0 rfl) ?_
  refine lv_aload_n hx hb dX4_seekChange_8 rfl (lv_at hl 1 rfl) ?_
  obtain ⟨⟨r_9_12_a1, r_9_12_a2⟩, hc_r_9_12, hf⟩ := of_bnd hf
  refine cl_Vv (w2 := (wW_X4_seekChange G h0 h1 h2 h3 h4 h5 y0_2 y0_3 y3_5 r_4_11_x0_4 r_4_11_x0_5 r_4_11_x0_6 r_9_12_a1 r_9_12_a2 x3_0 x3_1 x3_2 a4 a5)) (As := [.ref h3]) (rest := []) ⟨hx, hb, hml, hown, ht0⟩ (c_X4_countXors l G h0 h1 h2 h3 h4 y0_2 y0_3 h5 y3_5 _ r_4_11_x0_4 r_4_11_x0_5 r_4_11_x0_6 a1 a2 x3_0 x3_1 x3_2 a4 F _ _ hc_r_9_12) yk_X4_countXors wd_995 ⟨rfl, rfl, by decide, by decide⟩ ⟨Nat.le_refl _, Nat.le_refl _⟩ hX hK hP hD hS hA [0, 1, 2, 3, 4] [5] [1, 2, 3, 4, 5, 0] (va_recv hK hP (ci := 4) (q0 := 0) rfl rfl) rfl rfl (by decide) rfl rfl rfl rfl rfl hl.1 rfl (Nat.le_of_ble_eq_true rfl) dX4_seekChange_9 (fun H locs hP hD hS => ?_)
  refine lv_aload_n hx hb dX4_seekChange_12 rfl (lv_at hl 0 rfl) ?_
  refine lv_aload_n hx hb dX4_seekChange_13 rfl (lv_at hl 1 rfl) ?_
  obtain ⟨r_14_13, hc_r_14_13, hf⟩ := of_bnd hf
  refine cl_Vi (w2 := (wW_X4_seekChange G h0 h1 h2 h3 h4 h5 y0_2 y0_3 y3_5 r_4_11_x0_4 r_4_11_x0_5 r_4_11_x0_6 r_9_12_a1 r_9_12_a2 x3_0 x3_1 x3_2 a4 a5)) (As := [.ref h3]) (rest := []) ⟨hx, hb, hml, hown, ht0⟩ (c_X4_countUnseen l G h0 h3 h4 h5 h1 h2 y0_2 y0_3 y3_5 _ r_4_11_x0_4 r_4_11_x0_5 r_4_11_x0_6 x3_0 x3_1 x3_2 a4 a5 F _ hc_r_14_13) yk_X4_countUnseen wd_1001 ⟨rfl, rfl, by decide, by decide⟩ ⟨Nat.le_refl _, Nat.le_refl _⟩ hX hK hP hD hS hA [0, 3, 4, 5] [1, 2] [2, 0, 1, 3, 4, 5] (va_recv hK hP (ci := 4) (q0 := 0) rfl rfl) rfl rfl (by decide) rfl rfl rfl rfl rfl hl.1 rfl (Nat.le_of_ble_eq_true rfl) dX4_seekChange_14 (fun H locs hP hD hS => ?_)
  refine lv_istore_n (lv' := [(2, .int r_14_13), (0, .ref h0), (1, .ref h3)]) hx hb dX4_seekChange_17 rfl hl (by decide) rfl (fun ls hl => ?_)
  refine lv_iload_n hx hb dX4_seekChange_18 rfl (lv_at hl 0 rfl) ?_
  refine lv_istore_n (lv' := [(3, .int r_14_13), (2, .int r_14_13), (0, .ref h0), (1, .ref h3)]) hx hb dX4_seekChange_19 rfl hl (by decide) rfl (fun ls hl => ?_)
  refine lv_iconst (v := (0 : Int32)) hx hb dX4_seekChange_20 (by decide) ?_
  refine lv_istore (lv' := [(4, .int (0 : Int32)), (3, .int r_14_13), (2, .int r_14_13), (0, .ref h0), (1, .ref h3)]) hx hb dX4_seekChange_21 hl (by decide) rfl (fun ls hl => ?_)
  exact kL23 _ _ _ _ _ _ _ _ _ hf _ _ hP hD hS _ (lv_sub hl [3, 4, 2, 1, 0] rfl)
theorem yk_X4_seekChange : ykV yX4_seekChange RX4 cX4_seekChange 8 none 1 := ⟨wd_988, wd_989, wd_136, wd_990, rfl, by decide +kernel, by decide +kernel, by decide +kernel⟩
theorem dX4_xorOfSet_0 : decode cX4_xorOfSet 0 = .ok (.iconst 0, 1) := by decide +kernel
theorem dX4_xorOfSet_1 : decode cX4_xorOfSet 1 = .ok (.istore_n 3, 1) := by decide +kernel
theorem dX4_xorOfSet_2 : decode cX4_xorOfSet 2 = .ok (.iconst 0, 1) := by decide +kernel
theorem dX4_xorOfSet_3 : decode cX4_xorOfSet 3 = .ok (.istore 4, 2) := by decide +kernel
theorem dX4_xorOfSet_5 : decode cX4_xorOfSet 5 = .ok (.iload 4, 2) := by decide +kernel
theorem dX4_xorOfSet_7 : decode cX4_xorOfSet 7 = .ok (.iconst 4, 1) := by decide +kernel
theorem dX4_xorOfSet_8 : decode cX4_xorOfSet 8 = .ok (.if_icmp .ge 31, 3) := by decide +kernel
theorem dX4_xorOfSet_11 : decode cX4_xorOfSet 11 = .ok (.iload_n 2, 1) := by decide +kernel
theorem dX4_xorOfSet_12 : decode cX4_xorOfSet 12 = .ok (.iload 4, 2) := by decide +kernel
theorem dX4_xorOfSet_14 : decode cX4_xorOfSet 14 = .ok (.iushr, 1) := by decide +kernel
theorem dX4_xorOfSet_15 : decode cX4_xorOfSet 15 = .ok (.iconst 1, 1) := by decide +kernel
theorem dX4_xorOfSet_16 : decode cX4_xorOfSet 16 = .ok (.iand, 1) := by decide +kernel
theorem dX4_xorOfSet_17 : decode cX4_xorOfSet 17 = .ok (.iconst 1, 1) := by decide +kernel
theorem dX4_xorOfSet_18 : decode cX4_xorOfSet 18 = .ok (.if_icmp .ne 15, 3) := by decide +kernel
theorem dX4_xorOfSet_21 : decode cX4_xorOfSet 21 = .ok (.iload_n 3, 1) := by decide +kernel
theorem dX4_xorOfSet_22 : decode cX4_xorOfSet 22 = .ok (.aload_n 0, 1) := by decide +kernel
theorem dX4_xorOfSet_23 : decode cX4_xorOfSet 23 = .ok (.getfield 42, 3) := by decide +kernel
theorem dX4_xorOfSet_26 : decode cX4_xorOfSet 26 = .ok (.iload_n 1, 1) := by decide +kernel
theorem dX4_xorOfSet_27 : decode cX4_xorOfSet 27 = .ok (.iload 4, 2) := by decide +kernel
theorem dX4_xorOfSet_29 : decode cX4_xorOfSet 29 = .ok (.iadd, 1) := by decide +kernel
theorem dX4_xorOfSet_30 : decode cX4_xorOfSet 30 = .ok (.iaload, 1) := by decide +kernel
theorem dX4_xorOfSet_31 : decode cX4_xorOfSet 31 = .ok (.ixor, 1) := by decide +kernel
theorem dX4_xorOfSet_32 : decode cX4_xorOfSet 32 = .ok (.istore_n 3, 1) := by decide +kernel
theorem dX4_xorOfSet_33 : decode cX4_xorOfSet 33 = .ok (.iinc 4 1, 3) := by decide +kernel
theorem dX4_xorOfSet_36 : decode cX4_xorOfSet 36 = .ok (.goto (-31), 3) := by decide +kernel
theorem dX4_xorOfSet_39 : decode cX4_xorOfSet 39 = .ok (.iload_n 3, 1) := by decide +kernel
theorem dX4_xorOfSet_40 : decode cX4_xorOfSet 40 = .ok (.ireturn, 1) := by decide +kernel
def wW_X4_xorOfSet (G : GG) (h0 h1 y0_4 y0_5 : Nat) (x0_0 : Int32) (x0_1 : Int32) (x0_2 : Int32) (a1 : Nat → Int32) : va_W := [(h0, .inr (1, [.int x0_0, .int x0_1, .int x0_2, .ref h1, .ref y0_4, .ref y0_5])), (h1, .inl (G.2.1, 32, .inl a1))]
set_option maxHeartbeats 4000000 in
set_option maxRecDepth 100000 in
theorem c_X4_xorOfSet (l : Launch) (G : GG) (h0 h1 y0_4 y0_5 : Nat) (sz : Nat) (x0_0 : Int32) (x0_1 : Int32) (x0_2 : Int32) (a1 : Nat → Int32) (F : Nat) (b1 : Int32) (b2 : Int32)  (r0 : Int32) (hf : p_X4_xorOfSet F a1 b1 b2 = some r0) : Met l yX4_xorOfSet (.code yX4_xorOfSet cX4_xorOfSet 5 (some .int) :: gtbl) ({ frames := 0, cells := 0, slots := 0, locals := 0 } : Room) (PcS G [.ref h0, .int b1, .int b2] (wW_X4_xorOfSet G h0 h1 y0_4 y0_5 x0_0 x0_1 x0_2 a1) sz) (QiS G r0 (va_A (wW_X4_xorOfSet G h0 h1 y0_4 y0_5 x0_0 x0_1 x0_2 a1) sz) (wW_X4_xorOfSet G h0 h1 y0_4 y0_5 x0_0 x0_1 x0_2 a1)) 0 0 (va_A (wW_X4_xorOfSet G h0 h1 y0_4 y0_5 x0_0 x0_1 x0_2 a1) sz) := by
  refine met_start (by decide) (Nat.le_of_ble_eq_true rfl) ?_
  intro p e s m below meth c hC hr hlk hnm hK hP hD hA hS hX ls hl
  obtain ⟨hx, hb, hml, hown, ht0⟩ := hC
  have hown : s.vm.findClass RX4 = some m.cls := hown
  generalize va_A (wW_X4_xorOfSet G h0 h1 y0_4 y0_5 x0_0 x0_1 x0_2 a1) sz = A at hD hA hS hX ⊢
  have hl : lv_has ls 5 [(0, .ref h0), (1, .int b1), (2, .int b2)] := hl
  have hf : p_X4_xorOfSet F a1 b1 b2 = some r0 := hf
  have kL5 : ∀ (c5_1 : Int32) (c5_2 : Int32) (n5 : Nat) (u5_3 : Int32) (u5_4 : Int32), p_X4_xorOfSet_L5 F a1 c5_1 c5_2 n5 u5_3 u5_4 = some r0 → ∀ (H : Heap) (locs : List Loc), va_P G.1 vwCl (wW_X4_xorOfSet G h0 h1 y0_4 y0_5 x0_0 x0_1 x0_2 a1) H → va_D A (wW_X4_xorOfSet G h0 h1 y0_4 y0_5 x0_0 x0_1 x0_2 a1) → va_S A s.heap H locs → ∀ ls : Array Slot, lv_has ls 5 [(0, .ref h0), (1, .int c5_1), (2, .int c5_2), (3, .int u5_3), (4, .int u5_4)] → W p l e ({ frames := 0, cells := 0, slots := 0, locals := 0 } : Room) s m (List.toArray [.ref h0, .int b1, .int b2]) below meth c H locs 0 0 (MQ below (QiS G r0 A (wW_X4_xorOfSet G h0 h1 y0_4 y0_5 x0_0 x0_1 x0_2 a1)) (List.toArray [.ref h0, .int b1, .int b2]) s 0 0 A) (F0 m 5 ls []) := by
    intro c5_1 c5_2 n5
    induction n5 with
    | zero =>
      intro u5_3 u5_4 hf
      cases hf
    | succ n5 ih5 =>
      have kJ33 : ∀ (u33_3 : Int32) (u33_4 : Int32), p_X4_xorOfSet_J33 F a1 c5_1 c5_2 (p_X4_xorOfSet_L5 F a1 c5_1 c5_2 n5) u33_3 u33_4 = some r0 → ∀ (H : Heap) (locs : List Loc), va_P G.1 vwCl (wW_X4_xorOfSet G h0 h1 y0_4 y0_5 x0_0 x0_1 x0_2 a1) H → va_D A (wW_X4_xorOfSet G h0 h1 y0_4 y0_5 x0_0 x0_1 x0_2 a1) → va_S A s.heap H locs → ∀ ls : Array Slot, lv_has ls 5 [(0, .ref h0), (1, .int c5_1), (2, .int c5_2), (3, .int u33_3), (4, .int u33_4)] → W p l e ({ frames := 0, cells := 0, slots := 0, locals := 0 } : Room) s m (List.toArray [.ref h0, .int b1, .int b2]) below meth c H locs 0 0 (MQ below (QiS G r0 A (wW_X4_xorOfSet G h0 h1 y0_4 y0_5 x0_0 x0_1 x0_2 a1)) (List.toArray [.ref h0, .int b1, .int b2]) s 0 0 A) (F0 m 33 ls []) := by
        intro u33_3 u33_4 hf H locs hP hD hS ls hl
        refine lv_iinc (v := u33_4 + (1 : Int32)) (lv' := [(4, .int (u33_4 + (1 : Int32))), (0, .ref h0), (1, .int c5_1), (2, .int c5_2), (3, .int u33_3)]) hx hb dX4_xorOfSet_33 hl (k := 4) rfl (by rfl) (by decide) rfl (fun ls hl => ?_)
        refine lv_goto (tgt := 5) hx hb dX4_xorOfSet_36 (by decide) ?_
        exact ih5 _ _ hf _ _ hP hD hS _ (lv_sub hl [1, 2, 3, 4, 0] rfl)
      intro u5_3 u5_4 hf H locs hP hD hS ls hl
      have hf : p_X4_xorOfSet_L5b F a1 c5_1 c5_2 (p_X4_xorOfSet_L5 F a1 c5_1 c5_2 n5) u5_3 u5_4 = some r0 := hf
      refine lv_iload hx hb dX4_xorOfSet_5 (lv_at hl 4 rfl) ?_
      refine lv_iconst (v := (4 : Int32)) hx hb dX4_xorOfSet_7 (by decide) ?_
      refine lv_icmp_ge (tgt := 39) hx hb dX4_xorOfSet_8 (by decide) (fun c1 => ?_) (fun c1 => ?_)
      · have hf := of_pos hf c1
        refine lv_iload_n hx hb dX4_xorOfSet_39 rfl (lv_at hl 3 rfl) ?_
        cases hf
        exact ret_i hx hb hr hlk hK hP hD hS dX4_xorOfSet_40
      · have hf := of_neg hf c1
        refine lv_iload_n hx hb dX4_xorOfSet_11 rfl (lv_at hl 2 rfl) ?_
        refine lv_iload hx hb dX4_xorOfSet_12 (lv_at hl 4 rfl) ?_
        refine lv_iushr (v := jushr c5_2 u5_4) hx hb dX4_xorOfSet_14 rfl ?_
        refine lv_iconst (v := (1 : Int32)) hx hb dX4_xorOfSet_15 (by decide) ?_
        refine lv_iand hx hb dX4_xorOfSet_16 ?_
        refine lv_iconst (v := (1 : Int32)) hx hb dX4_xorOfSet_17 (by decide) ?_
        refine lv_icmp_ne (tgt := 33) hx hb dX4_xorOfSet_18 (by decide) (fun c2 => ?_) (fun c2 => ?_)
        · have hf := of_neg hf c2
          exact kJ33 _ _ hf _ _ hP hD hS _ (lv_sub hl [0, 1, 2, 3, 4] rfl)
        · have hf := of_pos hf c2
          refine lv_iload_n hx hb dX4_xorOfSet_21 rfl (lv_at hl 3 rfl) ?_
          refine lv_aload_n hx hb dX4_xorOfSet_22 rfl (lv_at hl 0 rfl) ?_
          refine va_get (ci := 1) (v := .ref h1) (C := RX1) (T := TX1) (N := 6) hx hb ht0 iX1 hown hK hP 0 rfl rfl 3 (by decide) (ht0 _ wd_230) (fun _ h9 => h9) rfl dX4_xorOfSet_23 ?_
          refine lv_iload_n hx hb dX4_xorOfSet_26 rfl (lv_at hl 1 rfl) ?_
          refine lv_iload hx hb dX4_xorOfSet_27 (lv_at hl 4 rfl) ?_
          refine lv_iadd hx hb dX4_xorOfSet_29 ?_
          obtain ⟨g3, hf⟩ := of_grd hf
          refine va_iald hx hb hK hP 1 0 rfl rfl g3 dX4_xorOfSet_30 ?_
          refine lv_ixor hx hb dX4_xorOfSet_31 ?_
          refine lv_topi (fun z4 ez4 => ?_)
          have hf := of_jlet hf ez4
          refine lv_istore_n (lv' := [(3, .int z4), (0, .ref h0), (1, .int c5_1), (2, .int c5_2), (4, .int u5_4)]) hx hb dX4_xorOfSet_32 rfl hl (by decide) rfl (fun ls hl => ?_)
          exact kJ33 _ _ hf _ _ hP hD hS _ (lv_sub hl [1, 2, 3, 0, 4] rfl)
  refine lv_iconst (v := (0 : Int32)) hx hb dX4_xorOfSet_0 (by decide) ?_
  refine lv_istore_n (lv' := [(3, .int (0 : Int32)), (0, .ref h0), (1, .int b1), (2, .int b2)]) hx hb dX4_xorOfSet_1 rfl hl (by decide) rfl (fun ls hl => ?_)
  refine lv_iconst (v := (0 : Int32)) hx hb dX4_xorOfSet_2 (by decide) ?_
  refine lv_istore (lv' := [(4, .int (0 : Int32)), (3, .int (0 : Int32)), (0, .ref h0), (1, .int b1), (2, .int b2)]) hx hb dX4_xorOfSet_3 hl (by decide) rfl (fun ls hl => ?_)
  exact kL5 _ _ _ _ _ hf _ _ hP hD hS _ (lv_sub hl [2, 3, 4, 1, 0] rfl)
theorem yk_X4_xorOfSet : ykS yX4_xorOfSet cX4_xorOfSet 5 (some .int) 3 := ⟨wd_1185, wd_136, wd_1186, by decide +kernel, by decide +kernel, by decide +kernel⟩
theorem dX4_countSets_0 : decode cX4_countSets 0 = .ok (.iload_n 2, 1) := by decide +kernel
theorem dX4_countSets_1 : decode cX4_countSets 1 = .ok (.iconst 4, 1) := by decide +kernel
theorem dX4_countSets_2 : decode cX4_countSets 2 = .ok (.imul, 1) := by decide +kernel
theorem dX4_countSets_3 : decode cX4_countSets 3 = .ok (.istore 4, 2) := by decide +kernel
theorem dX4_countSets_5 : decode cX4_countSets 5 = .ok (.iconst 4, 1) := by decide +kernel
theorem dX4_countSets_6 : decode cX4_countSets 6 = .ok (.aload_n 1, 1) := by decide +kernel
theorem dX4_countSets_7 : decode cX4_countSets 7 = .ok (.invokevirtual 49, 3) := by decide +kernel
theorem dX4_countSets_10 : decode cX4_countSets 10 = .ok (.iload 4, 2) := by decide +kernel
theorem dX4_countSets_12 : decode cX4_countSets 12 = .ok (.isub, 1) := by decide +kernel
theorem dX4_countSets_13 : decode cX4_countSets 13 = .ok (.invokestatic 102, 3) := by decide +kernel
theorem dX4_countSets_16 : decode cX4_countSets 16 = .ok (.istore 5, 2) := by decide +kernel
theorem dX4_countSets_18 : decode cX4_countSets 18 = .ok (.iconst 0, 1) := by decide +kernel
theorem dX4_countSets_19 : decode cX4_countSets 19 = .ok (.istore 6, 2) := by decide +kernel
theorem dX4_countSets_21 : decode cX4_countSets 21 = .ok (.iconst 1, 1) := by decide +kernel
theorem dX4_countSets_22 : decode cX4_countSets 22 = .ok (.istore 7, 2) := by decide +kernel
theorem dX4_countSets_24 : decode cX4_countSets 24 = .ok (.iload 7, 2) := by decide +kernel
theorem dX4_countSets_26 : decode cX4_countSets 26 = .ok (.iconst 1, 1) := by decide +kernel
theorem dX4_countSets_27 : decode cX4_countSets 27 = .ok (.iload 5, 2) := by decide +kernel
theorem dX4_countSets_29 : decode cX4_countSets 29 = .ok (.ishl, 1) := by decide +kernel
theorem dX4_countSets_30 : decode cX4_countSets 30 = .ok (.if_icmp .ge 56, 3) := by decide +kernel
theorem dX4_countSets_33 : decode cX4_countSets 33 = .ok (.iload 7, 2) := by decide +kernel
theorem dX4_countSets_35 : decode cX4_countSets 35 = .ok (.iload 4, 2) := by decide +kernel
theorem dX4_countSets_37 : decode cX4_countSets 37 = .ok (.ishl, 1) := by decide +kernel
theorem dX4_countSets_38 : decode cX4_countSets 38 = .ok (.istore 8, 2) := by decide +kernel
theorem dX4_countSets_40 : decode cX4_countSets 40 = .ok (.aload_n 0, 1) := by decide +kernel
theorem dX4_countSets_41 : decode cX4_countSets 41 = .ok (.getfield 28, 3) := by decide +kernel
theorem dX4_countSets_44 : decode cX4_countSets 44 = .ok (.aload_n 1, 1) := by decide +kernel
theorem dX4_countSets_45 : decode cX4_countSets 45 = .ok (.aload_n 1, 1) := by decide +kernel
theorem dX4_countSets_46 : decode cX4_countSets 46 = .ok (.iload 4, 2) := by decide +kernel
theorem dX4_countSets_48 : decode cX4_countSets 48 = .ok (.iload 7, 2) := by decide +kernel
theorem dX4_countSets_50 : decode cX4_countSets 50 = .ok (.invokestatic 108, 3) := by decide +kernel
theorem dX4_countSets_53 : decode cX4_countSets 53 = .ok (.iconst 0, 1) := by decide +kernel
theorem dX4_countSets_54 : decode cX4_countSets 54 = .ok (.invokevirtual 111, 3) := by decide +kernel
theorem dX4_countSets_57 : decode cX4_countSets 57 = .ok (.iload 6, 2) := by decide +kernel
theorem dX4_countSets_59 : decode cX4_countSets 59 = .ok (.aload_n 0, 1) := by decide +kernel
theorem dX4_countSets_60 : decode cX4_countSets 60 = .ok (.getfield 28, 3) := by decide +kernel
theorem dX4_countSets_63 : decode cX4_countSets 63 = .ok (.iload 8, 2) := by decide +kernel
theorem dX4_countSets_65 : decode cX4_countSets 65 = .ok (.invokevirtual 114, 3) := by decide +kernel
theorem dX4_countSets_68 : decode cX4_countSets 68 = .ok (.iload_n 3, 1) := by decide +kernel
theorem dX4_countSets_69 : decode cX4_countSets 69 = .ok (.if_icmp .ne 7, 3) := by decide +kernel
theorem dX4_countSets_72 : decode cX4_countSets 72 = .ok (.iconst 1, 1) := by decide +kernel
theorem dX4_countSets_73 : decode cX4_countSets 73 = .ok (.goto 4, 3) := by decide +kernel
theorem dX4_countSets_76 : decode cX4_countSets 76 = .ok (.iconst 0, 1) := by decide +kernel
theorem dX4_countSets_77 : decode cX4_countSets 77 = .ok (.iadd, 1) := by decide +kernel
theorem dX4_countSets_78 : decode cX4_countSets 78 = .ok (.istore 6, 2) := by decide +kernel
theorem dX4_countSets_80 : decode cX4_countSets 80 = .ok (.iinc 7 1, 3) := by decide +kernel
theorem dX4_countSets_83 : decode cX4_countSets 83 = .ok (.goto (-59), 3) := by decide +kernel
theorem dX4_countSets_86 : decode cX4_countSets 86 = .ok (.iload 6, 2) := by decide +kernel
theorem dX4_countSets_88 : decode cX4_countSets 88 = .ok (.ireturn, 1) := by decide +kernel
def wW_X4_countSets (G : GG) (h0 h1 h2 h3 h4 h5 y0_0 y0_1 y0_2 : Nat) (x0_4 : Int32) (x0_5 : Int32) (x0_6 : Int32) (x1_0 : Int32) (x1_1 : Int32) (x1_2 : Int32) (x2_0 : Int32) (x2_1 : Int32) (x2_2 : Int32) (a3 : Nat → Int32) (a4 : Nat → Int32) (a5 : Nat → Int32) : va_W := [(h0, .inr (4, [.ref y0_0, .ref y0_1, .ref y0_2, .ref h1, .int x0_4, .int x0_5, .int x0_6])), (h1, .inr (2, [.int x1_0, .int x1_1, .int x1_2])), (h2, .inr (1, [.int x2_0, .int x2_1, .int x2_2, .ref h3, .ref h4, .ref h5])), (h3, .inl (G.2.1, 32, .inl a3)), (h4, .inl (G.2.1, 256, .inl a4)), (h5, .inl (G.2.1, 256, .inl a5))]
set_option maxHeartbeats 4000000 in
set_option maxRecDepth 100000 in
theorem c_X4_countSets (l : Launch) (G : GG) (h0 h1 h2 h3 h4 h5 y0_0 y0_1 y0_2 : Nat) (sz : Nat) (x0_4 : Int32) (x0_5 : Int32) (x0_6 : Int32) (x1_0 : Int32) (x1_1 : Int32) (x1_2 : Int32) (x2_0 : Int32) (x2_1 : Int32) (x2_2 : Int32) (a3 : Nat → Int32) (a4 : Nat → Int32) (a5 : Nat → Int32) (F : Nat) (b2 : Int32) (b3 : Int32)  (r0 : Int32) (e_x1_0 : Int32) (e_x1_1 : Int32) (e_x1_2 : Int32) (hf : p_X4_countSets F x1_0 x1_1 x1_2 x2_0 x2_1 x2_2 a3 a4 a5 b2 b3 = some (r0, e_x1_0, e_x1_1, e_x1_2)) : Met l yX4_countSets (.code yX4_countSets cX4_countSets 9 (some .int) :: gtbl) ({ frames := 3, cells := 0, slots := 0, locals := 76 } : Room) (PcS G [.ref h0, .ref h2, .int b2, .int b3] (wW_X4_countSets G h0 h1 h2 h3 h4 h5 y0_0 y0_1 y0_2 x0_4 x0_5 x0_6 x1_0 x1_1 x1_2 x2_0 x2_1 x2_2 a3 a4 a5) sz) (QiS G r0 (va_A (wW_X4_countSets G h0 h1 h2 h3 h4 h5 y0_0 y0_1 y0_2 x0_4 x0_5 x0_6 x1_0 x1_1 x1_2 x2_0 x2_1 x2_2 a3 a4 a5) sz) (wW_X4_countSets G h0 h1 h2 h3 h4 h5 y0_0 y0_1 y0_2 x0_4 x0_5 x0_6 e_x1_0 e_x1_1 e_x1_2 x2_0 x2_1 x2_2 a3 a4 a5)) 0 0 (va_A (wW_X4_countSets G h0 h1 h2 h3 h4 h5 y0_0 y0_1 y0_2 x0_4 x0_5 x0_6 x1_0 x1_1 x1_2 x2_0 x2_1 x2_2 a3 a4 a5) sz) := by
  refine met_start (by decide) (Nat.le_of_ble_eq_true rfl) ?_
  intro p e s m below meth c hC hr hlk hnm hK hP hD hA hS hX ls hl
  obtain ⟨hx, hb, hml, hown, ht0⟩ := hC
  have hown : s.vm.findClass RX4 = some m.cls := hown
  generalize va_A (wW_X4_countSets G h0 h1 h2 h3 h4 h5 y0_0 y0_1 y0_2 x0_4 x0_5 x0_6 x1_0 x1_1 x1_2 x2_0 x2_1 x2_2 a3 a4 a5) sz = A at hD hA hS hX ⊢
  have hl : lv_has ls 9 [(0, .ref h0), (1, .ref h2), (2, .int b2), (3, .int b3)] := hl
  have hf : p_X4_countSets F x1_0 x1_1 x1_2 x2_0 x2_1 x2_2 a3 a4 a5 b2 b3 = some (r0, e_x1_0, e_x1_1, e_x1_2) := hf
  have kL24 : ∀ (c24_3 : Int32) (c24_4 : Int32) (c24_5 : Int32) (n24 : Nat) (u24_6 : Int32) (u24_7 : Int32) (x1_0_24 : Int32) (x1_1_24 : Int32) (x1_2_24 : Int32), p_X4_countSets_L24 F x2_0 x2_1 x2_2 a3 a4 a5 c24_3 c24_4 c24_5 n24 u24_6 u24_7 x1_0_24 x1_1_24 x1_2_24 = some (r0, e_x1_0, e_x1_1, e_x1_2) → ∀ (H : Heap) (locs : List Loc), va_P G.1 vwCl (wW_X4_countSets G h0 h1 h2 h3 h4 h5 y0_0 y0_1 y0_2 x0_4 x0_5 x0_6 x1_0_24 x1_1_24 x1_2_24 x2_0 x2_1 x2_2 a3 a4 a5) H → va_D A (wW_X4_countSets G h0 h1 h2 h3 h4 h5 y0_0 y0_1 y0_2 x0_4 x0_5 x0_6 x1_0_24 x1_1_24 x1_2_24 x2_0 x2_1 x2_2 a3 a4 a5) → va_S A s.heap H locs → ∀ ls : Array Slot, lv_has ls 9 [(0, .ref h0), (1, .ref h2), (3, .int c24_3), (4, .int c24_4), (5, .int c24_5), (6, .int u24_6), (7, .int u24_7)] → W p l e ({ frames := 3, cells := 0, slots := 0, locals := 76 } : Room) s m (List.toArray [.ref h0, .ref h2, .int b2, .int b3]) below meth c H locs 0 0 (MQ below (QiS G r0 A (wW_X4_countSets G h0 h1 h2 h3 h4 h5 y0_0 y0_1 y0_2 x0_4 x0_5 x0_6 e_x1_0 e_x1_1 e_x1_2 x2_0 x2_1 x2_2 a3 a4 a5)) (List.toArray [.ref h0, .ref h2, .int b2, .int b3]) s 0 0 A) (F0 m 24 ls []) := by
    intro c24_3 c24_4 c24_5 n24
    induction n24 with
    | zero =>
      intro u24_6 u24_7 x1_0_24 x1_1_24 x1_2_24 hf
      cases hf
    | succ n24 ih24 =>
      have kJ77 : ∀ (u77_7 : Int32) (s77_0 : Int32) (s77_1 : Int32) (x1_0_77 : Int32) (x1_1_77 : Int32) (x1_2_77 : Int32), p_X4_countSets_J77 F x2_0 x2_1 x2_2 a3 a4 a5 c24_3 c24_4 c24_5 (p_X4_countSets_L24 F x2_0 x2_1 x2_2 a3 a4 a5 c24_3 c24_4 c24_5 n24) u77_7 s77_0 s77_1 x1_0_77 x1_1_77 x1_2_77 = some (r0, e_x1_0, e_x1_1, e_x1_2) → ∀ (H : Heap) (locs : List Loc), va_P G.1 vwCl (wW_X4_countSets G h0 h1 h2 h3 h4 h5 y0_0 y0_1 y0_2 x0_4 x0_5 x0_6 x1_0_77 x1_1_77 x1_2_77 x2_0 x2_1 x2_2 a3 a4 a5) H → va_D A (wW_X4_countSets G h0 h1 h2 h3 h4 h5 y0_0 y0_1 y0_2 x0_4 x0_5 x0_6 x1_0_77 x1_1_77 x1_2_77 x2_0 x2_1 x2_2 a3 a4 a5) → va_S A s.heap H locs → ∀ ls : Array Slot, lv_has ls 9 [(0, .ref h0), (1, .ref h2), (3, .int c24_3), (4, .int c24_4), (5, .int c24_5), (7, .int u77_7)] → W p l e ({ frames := 3, cells := 0, slots := 0, locals := 76 } : Room) s m (List.toArray [.ref h0, .ref h2, .int b2, .int b3]) below meth c H locs 0 0 (MQ below (QiS G r0 A (wW_X4_countSets G h0 h1 h2 h3 h4 h5 y0_0 y0_1 y0_2 x0_4 x0_5 x0_6 e_x1_0 e_x1_1 e_x1_2 x2_0 x2_1 x2_2 a3 a4 a5)) (List.toArray [.ref h0, .ref h2, .int b2, .int b3]) s 0 0 A) (F0 m 77 ls [.int s77_1, .int s77_0]) := by
        intro u77_7 s77_0 s77_1 x1_0_77 x1_1_77 x1_2_77 hf H locs hP hD hS ls hl
        refine lv_iadd hx hb dX4_countSets_77 ?_
        refine lv_istore (lv' := [(6, .int (s77_0 + s77_1)), (0, .ref h0), (1, .ref h2), (3, .int c24_3), (4, .int c24_4), (5, .int c24_5), (7, .int u77_7)]) hx hb dX4_countSets_78 hl (by decide) rfl (fun ls hl => ?_)
        refine lv_iinc (v := u77_7 + (1 : Int32)) (lv' := [(7, .int (u77_7 + (1 : Int32))), (6, .int (s77_0 + s77_1)), (0, .ref h0), (1, .ref h2), (3, .int c24_3), (4, .int c24_4), (5, .int c24_5)]) hx hb dX4_countSets_80 hl (k := 6) rfl (by rfl) (by decide) rfl (fun ls hl => ?_)
        refine lv_goto (tgt := 24) hx hb dX4_countSets_83 (by decide) ?_
        exact ih24 _ _ _ _ _ hf _ _ hP hD hS _ (lv_sub hl [2, 3, 4, 5, 6, 1, 0] rfl)
      intro u24_6 u24_7 x1_0_24 x1_1_24 x1_2_24 hf H locs hP hD hS ls hl
      have hf : p_X4_countSets_L24b F x2_0 x2_1 x2_2 a3 a4 a5 c24_3 c24_4 c24_5 (p_X4_countSets_L24 F x2_0 x2_1 x2_2 a3 a4 a5 c24_3 c24_4 c24_5 n24) u24_6 u24_7 x1_0_24 x1_1_24 x1_2_24 = some (r0, e_x1_0, e_x1_1, e_x1_2) := hf
      refine lv_iload hx hb dX4_countSets_24 (lv_at hl 6 rfl) ?_
      refine lv_iconst (v := (1 : Int32)) hx hb dX4_countSets_26 (by decide) ?_
      refine lv_iload hx hb dX4_countSets_27 (lv_at hl 4 rfl) ?_
      refine lv_ishl hx hb dX4_countSets_29 ?_
      refine lv_icmp_ge (tgt := 86) hx hb dX4_countSets_30 (by decide) (fun c1 => ?_) (fun c1 => ?_)
      · have hf := of_pos hf c1
        refine lv_iload hx hb dX4_countSets_86 (lv_at hl 5 rfl) ?_
        cases hf
        exact ret_i hx hb hr hlk hK hP hD hS dX4_countSets_88
      · have hf := of_neg hf c1
        refine lv_iload hx hb dX4_countSets_33 (lv_at hl 6 rfl) ?_
        refine lv_iload hx hb dX4_countSets_35 (lv_at hl 3 rfl) ?_
        refine lv_ishl hx hb dX4_countSets_37 ?_
        refine lv_istore (lv' := [(8, .int (u24_7 <<< (c24_4 &&& 31))), (0, .ref h0), (1, .ref h2), (3, .int c24_3), (4, .int c24_4), (5, .int c24_5), (6, .int u24_6), (7, .int u24_7)]) hx hb dX4_countSets_38 hl (by decide) rfl (fun ls hl => ?_)
        refine lv_aload_n hx hb dX4_countSets_40 rfl (lv_at hl 1 rfl) ?_
        refine va_get (ci := 4) (v := .ref h1) (C := RX4) (T := TX4) (N := 7) hx hb ht0 iX4 hown hK hP 0 rfl rfl 3 (by decide) (ht0 _ wd_398) (fun _ h9 => h9) rfl dX4_countSets_41 ?_
        refine lv_aload_n hx hb dX4_countSets_44 rfl (lv_at hl 2 rfl) ?_
        refine lv_aload_n hx hb dX4_countSets_45 rfl (lv_at hl 2 rfl) ?_
        refine lv_iload hx hb dX4_countSets_46 (lv_at hl 4 rfl) ?_
        refine lv_iload hx hb dX4_countSets_48 (lv_at hl 7 rfl) ?_
        obtain ⟨r_50_1, hc_r_50_1, hf⟩ := of_bnd hf
        refine cl_Si (w2 := (wW_X4_countSets G h0 h1 h2 h3 h4 h5 y0_0 y0_1 y0_2 x0_4 x0_5 x0_6 x1_0_24 x1_1_24 x1_2_24 x2_0 x2_1 x2_2 a3 a4 a5)) (As := [.ref h2, .int c24_4, .int u24_7]) (rest := [.ref h2, .ref h1]) ⟨hx, hb, hml, hown, ht0⟩ (c_X4_xorOfSet l G h2 h3 h4 h5 _ x2_0 x2_1 x2_2 a3 F c24_4 u24_7 _ hc_r_50_1) yk_X4_xorOfSet wd_1184 ⟨rfl, rfl, by decide, by decide⟩ ⟨Nat.le_refl _, Nat.le_refl _⟩ hX hK hP hD hS hA [2, 3] [0, 1, 4, 5] [0, 1, 4, 5, 2, 3] rfl rfl (by decide) rfl rfl rfl rfl rfl hl.1 rfl (Nat.le_of_ble_eq_true rfl) dX4_countSets_50 (fun H locs hP hD hS => ?_)
        refine lv_iconst (v := (0 : Int32)) hx hb dX4_countSets_53 (by decide) ?_
        obtain ⟨⟨r_54_2_x0_0, r_54_2_x0_1, r_54_2_x0_2⟩, hc_r_54_2, hf⟩ := of_bnd hf
        refine cl_Vv (w2 := (wW_X4_countSets G h0 h1 h2 h3 h4 h5 y0_0 y0_1 y0_2 x0_4 x0_5 x0_6 r_54_2_x0_0 r_54_2_x0_1 r_54_2_x0_2 x2_0 x2_1 x2_2 a3 a4 a5)) (As := [.ref h2, .int r_50_1, .int (0 : Int32)]) (rest := []) ⟨hx, hb, hml, hown, ht0⟩ (c_X2_read l G h1 h2 h3 h4 h5 _ x1_0_24 x1_1_24 x1_2_24 x2_0 x2_1 x2_2 a3 a4 a5 F r_50_1 (0 : Int32) _ _ _ hc_r_54_2) yk_X2_read wd_1187 ⟨rfl, rfl, by decide, by decide⟩ ⟨Nat.le_refl _, Nat.le_refl _⟩ hX hK hP hD hS hA [1, 2, 3, 4, 5] [0] [0, 1, 2, 3, 4, 5] (va_recv hK hP (ci := 2) (q0 := 1) rfl rfl) rfl rfl (by decide) rfl rfl rfl rfl rfl hl.1 rfl (Nat.le_of_ble_eq_true rfl) dX4_countSets_54 (fun H locs hP hD hS => ?_)
        refine lv_iload hx hb dX4_countSets_57 (lv_at hl 6 rfl) ?_
        refine lv_aload_n hx hb dX4_countSets_59 rfl (lv_at hl 1 rfl) ?_
        refine va_get (ci := 4) (v := .ref h1) (C := RX4) (T := TX4) (N := 7) hx hb ht0 iX4 hown hK hP 0 rfl rfl 3 (by decide) (ht0 _ wd_398) (fun _ h9 => h9) rfl dX4_countSets_60 ?_
        refine lv_iload hx hb dX4_countSets_63 (lv_at hl 0 rfl) ?_
        obtain ⟨r_65_3, hc_r_65_3, hf⟩ := of_bnd hf
        refine cl_Vi (w2 := (wW_X4_countSets G h0 h1 h2 h3 h4 h5 y0_0 y0_1 y0_2 x0_4 x0_5 x0_6 r_54_2_x0_0 r_54_2_x0_1 r_54_2_x0_2 x2_0 x2_1 x2_2 a3 a4 a5)) (As := [.int (u24_7 <<< (c24_4 &&& 31))]) (rest := [.int u24_6]) ⟨hx, hb, hml, hown, ht0⟩ (c_X2_judge l G h1 _ r_54_2_x0_0 r_54_2_x0_1 r_54_2_x0_2 F (u24_7 <<< (c24_4 &&& 31)) _ hc_r_65_3) yk_X2_judge wd_1188 ⟨rfl, rfl, by decide, by decide⟩ ⟨Nat.le_refl _, Nat.le_refl _⟩ hX hK hP hD hS hA [1] [0, 2, 3, 4, 5] [0, 5, 1, 2, 3, 4] (va_recv hK hP (ci := 2) (q0 := 1) rfl rfl) rfl rfl (by decide) rfl rfl rfl rfl rfl hl.1 rfl (Nat.le_of_ble_eq_true rfl) dX4_countSets_65 (fun H locs hP hD hS => ?_)
        refine lv_iload_n hx hb dX4_countSets_68 rfl (lv_at hl 3 rfl) ?_
        refine lv_icmp_ne (tgt := 76) hx hb dX4_countSets_69 (by decide) (fun c5 => ?_) (fun c5 => ?_)
        · have hf := of_neg hf c5
          refine lv_iconst (v := (0 : Int32)) hx hb dX4_countSets_76 (by decide) ?_
          exact kJ77 _ _ _ _ _ _ hf _ _ hP hD hS _ (lv_sub hl [1, 2, 3, 4, 5, 7] rfl)
        · have hf := of_pos hf c5
          refine lv_iconst (v := (1 : Int32)) hx hb dX4_countSets_72 (by decide) ?_
          refine lv_goto (tgt := 77) hx hb dX4_countSets_73 (by decide) ?_
          exact kJ77 _ _ _ _ _ _ hf _ _ hP hD hS _ (lv_sub hl [1, 2, 3, 4, 5, 7] rfl)
  refine lv_iload_n hx hb dX4_countSets_0 rfl (lv_at hl 2 rfl) ?_
  refine lv_iconst (v := (4 : Int32)) hx hb dX4_countSets_1 (by decide) ?_
  refine lv_imul hx hb dX4_countSets_2 ?_
  refine lv_istore (lv' := [(4, .int (b2 * (4 : Int32))), (0, .ref h0), (1, .ref h2), (2, .int b2), (3, .int b3)]) hx hb dX4_countSets_3 hl (by decide) rfl (fun ls hl => ?_)
  refine lv_iconst (v := (4 : Int32)) hx hb dX4_countSets_5 (by decide) ?_
  refine lv_aload_n hx hb dX4_countSets_6 rfl (lv_at hl 2 rfl) ?_
  obtain ⟨r_7_5, hc_r_7_5, hf⟩ := of_bnd hf
  refine cl_Vi (w2 := (wW_X4_countSets G h0 h1 h2 h3 h4 h5 y0_0 y0_1 y0_2 x0_4 x0_5 x0_6 x1_0 x1_1 x1_2 x2_0 x2_1 x2_2 a3 a4 a5)) (As := []) (rest := [.int (4 : Int32)]) ⟨hx, hb, hml, hown, ht0⟩ (c_X1_places l G h2 h3 h4 h5 _ x2_0 x2_1 x2_2 F _ hc_r_7_5) yk_X1_places wd_1000 ⟨rfl, rfl, by decide, by decide⟩ ⟨Nat.le_refl _, Nat.le_refl _⟩ hX hK hP hD hS hA [2] [0, 1, 3, 4, 5] [0, 1, 5, 2, 3, 4] (va_recv hK hP (ci := 1) (q0 := 2) rfl rfl) rfl rfl (by decide) rfl rfl rfl rfl rfl hl.1 rfl (Nat.le_of_ble_eq_true rfl) dX4_countSets_7 (fun H locs hP hD hS => ?_)
  refine lv_iload hx hb dX4_countSets_10 (lv_at hl 0 rfl) ?_
  refine lv_isub hx hb dX4_countSets_12 ?_
  refine va_mmin hx hb (by rw [hml]; exact hl.1.symm) hown (ht0 _ wd_1183) (ht0 _ wd_636) (ht0 _ wd_140) (ht0 _ wd_637) (by decide) (Nat.le_of_ble_eq_true rfl) (Nat.zero_le _) (Nat.zero_le _) dX4_countSets_13 ?_
  refine lv_topi (fun z7 ez7 => ?_)
  have hf := of_jlet hf ez7
  refine lv_istore (lv' := [(5, .int z7), (4, .int (b2 * (4 : Int32))), (0, .ref h0), (1, .ref h2), (2, .int b2), (3, .int b3)]) hx hb dX4_countSets_16 hl (by decide) rfl (fun ls hl => ?_)
  refine lv_iconst (v := (0 : Int32)) hx hb dX4_countSets_18 (by decide) ?_
  refine lv_istore (lv' := [(6, .int (0 : Int32)), (5, .int z7), (4, .int (b2 * (4 : Int32))), (0, .ref h0), (1, .ref h2), (2, .int b2), (3, .int b3)]) hx hb dX4_countSets_19 hl (by decide) rfl (fun ls hl => ?_)
  refine lv_iconst (v := (1 : Int32)) hx hb dX4_countSets_21 (by decide) ?_
  refine lv_istore (lv' := [(7, .int (1 : Int32)), (6, .int (0 : Int32)), (5, .int z7), (4, .int (b2 * (4 : Int32))), (0, .ref h0), (1, .ref h2), (2, .int b2), (3, .int b3)]) hx hb dX4_countSets_22 hl (by decide) rfl (fun ls hl => ?_)
  exact kL24 _ _ _ _ _ _ _ _ _ hf _ _ hP hD hS _ (lv_sub hl [4, 5, 7, 3, 2, 1, 0] rfl)
theorem yk_X4_countSets : ykV yX4_countSets RX4 cX4_countSets 9 (some .int) 3 := ⟨wd_1180, wd_1181, wd_136, wd_1182, rfl, by decide +kernel, by decide +kernel, by decide +kernel⟩
theorem dX4_countAllSets_0 : decode cX4_countAllSets 0 = .ok (.iconst 0, 1) := by decide +kernel
theorem dX4_countAllSets_1 : decode cX4_countAllSets 1 = .ok (.istore_n 3, 1) := by decide +kernel
theorem dX4_countAllSets_2 : decode cX4_countAllSets 2 = .ok (.iconst 0, 1) := by decide +kernel
theorem dX4_countAllSets_3 : decode cX4_countAllSets 3 = .ok (.istore 4, 2) := by decide +kernel
theorem dX4_countAllSets_5 : decode cX4_countAllSets 5 = .ok (.iload 4, 2) := by decide +kernel
theorem dX4_countAllSets_7 : decode cX4_countAllSets 7 = .ok (.aload_n 1, 1) := by decide +kernel
theorem dX4_countAllSets_8 : decode cX4_countAllSets 8 = .ok (.invokevirtual 96, 3) := by decide +kernel
theorem dX4_countAllSets_11 : decode cX4_countAllSets 11 = .ok (.if_icmp .ge 20, 3) := by decide +kernel
theorem dX4_countAllSets_14 : decode cX4_countAllSets 14 = .ok (.iload_n 3, 1) := by decide +kernel
theorem dX4_countAllSets_15 : decode cX4_countAllSets 15 = .ok (.aload_n 0, 1) := by decide +kernel
theorem dX4_countAllSets_16 : decode cX4_countAllSets 16 = .ok (.aload_n 1, 1) := by decide +kernel
theorem dX4_countAllSets_17 : decode cX4_countAllSets 17 = .ok (.iload 4, 2) := by decide +kernel
theorem dX4_countAllSets_19 : decode cX4_countAllSets 19 = .ok (.iload_n 2, 1) := by decide +kernel
theorem dX4_countAllSets_20 : decode cX4_countAllSets 20 = .ok (.invokevirtual 99, 3) := by decide +kernel
theorem dX4_countAllSets_23 : decode cX4_countAllSets 23 = .ok (.iadd, 1) := by decide +kernel
theorem dX4_countAllSets_24 : decode cX4_countAllSets 24 = .ok (.istore_n 3, 1) := by decide +kernel
theorem dX4_countAllSets_25 : decode cX4_countAllSets 25 = .ok (.iinc 4 1, 3) := by decide +kernel
theorem dX4_countAllSets_28 : decode cX4_countAllSets 28 = .ok (.goto (-23), 3) := by decide +kernel
theorem dX4_countAllSets_31 : decode cX4_countAllSets 31 = .ok (.iload_n 3, 1) := by decide +kernel
theorem dX4_countAllSets_32 : decode cX4_countAllSets 32 = .ok (.ireturn, 1) := by decide +kernel
def wW_X4_countAllSets (G : GG) (h0 h1 h2 h3 h4 h5 y0_0 y0_1 y0_2 : Nat) (x0_4 : Int32) (x0_5 : Int32) (x0_6 : Int32) (x1_0 : Int32) (x1_1 : Int32) (x1_2 : Int32) (x2_0 : Int32) (x2_1 : Int32) (x2_2 : Int32) (a3 : Nat → Int32) (a4 : Nat → Int32) (a5 : Nat → Int32) : va_W := [(h0, .inr (4, [.ref y0_0, .ref y0_1, .ref y0_2, .ref h1, .int x0_4, .int x0_5, .int x0_6])), (h1, .inr (2, [.int x1_0, .int x1_1, .int x1_2])), (h2, .inr (1, [.int x2_0, .int x2_1, .int x2_2, .ref h3, .ref h4, .ref h5])), (h3, .inl (G.2.1, 32, .inl a3)), (h4, .inl (G.2.1, 256, .inl a4)), (h5, .inl (G.2.1, 256, .inl a5))]
set_option maxHeartbeats 4000000 in
set_option maxRecDepth 100000 in
theorem c_X4_countAllSets (l : Launch) (G : GG) (h0 h1 h2 h3 h4 h5 y0_0 y0_1 y0_2 : Nat) (sz : Nat) (x0_4 : Int32) (x0_5 : Int32) (x0_6 : Int32) (x1_0 : Int32) (x1_1 : Int32) (x1_2 : Int32) (x2_0 : Int32) (x2_1 : Int32) (x2_2 : Int32) (a3 : Nat → Int32) (a4 : Nat → Int32) (a5 : Nat → Int32) (F : Nat) (b2 : Int32)  (r0 : Int32) (e_x1_0 : Int32) (e_x1_1 : Int32) (e_x1_2 : Int32) (hf : p_X4_countAllSets F x1_0 x1_1 x1_2 x2_0 x2_1 x2_2 a3 a4 a5 b2 = some (r0, e_x1_0, e_x1_1, e_x1_2)) : Met l yX4_countAllSets (.code yX4_countAllSets cX4_countAllSets 5 (some .int) :: gtbl) ({ frames := 4, cells := 0, slots := 0, locals := 104 } : Room) (PcS G [.ref h0, .ref h2, .int b2] (wW_X4_countAllSets G h0 h1 h2 h3 h4 h5 y0_0 y0_1 y0_2 x0_4 x0_5 x0_6 x1_0 x1_1 x1_2 x2_0 x2_1 x2_2 a3 a4 a5) sz) (QiS G r0 (va_A (wW_X4_countAllSets G h0 h1 h2 h3 h4 h5 y0_0 y0_1 y0_2 x0_4 x0_5 x0_6 x1_0 x1_1 x1_2 x2_0 x2_1 x2_2 a3 a4 a5) sz) (wW_X4_countAllSets G h0 h1 h2 h3 h4 h5 y0_0 y0_1 y0_2 x0_4 x0_5 x0_6 e_x1_0 e_x1_1 e_x1_2 x2_0 x2_1 x2_2 a3 a4 a5)) 0 0 (va_A (wW_X4_countAllSets G h0 h1 h2 h3 h4 h5 y0_0 y0_1 y0_2 x0_4 x0_5 x0_6 x1_0 x1_1 x1_2 x2_0 x2_1 x2_2 a3 a4 a5) sz) := by
  refine met_start (by decide) (Nat.le_of_ble_eq_true rfl) ?_
  intro p e s m below meth c hC hr hlk hnm hK hP hD hA hS hX ls hl
  obtain ⟨hx, hb, hml, hown, ht0⟩ := hC
  have hown : s.vm.findClass RX4 = some m.cls := hown
  generalize va_A (wW_X4_countAllSets G h0 h1 h2 h3 h4 h5 y0_0 y0_1 y0_2 x0_4 x0_5 x0_6 x1_0 x1_1 x1_2 x2_0 x2_1 x2_2 a3 a4 a5) sz = A at hD hA hS hX ⊢
  have hl : lv_has ls 5 [(0, .ref h0), (1, .ref h2), (2, .int b2)] := hl
  have hf : p_X4_countAllSets F x1_0 x1_1 x1_2 x2_0 x2_1 x2_2 a3 a4 a5 b2 = some (r0, e_x1_0, e_x1_1, e_x1_2) := hf
  have kL5 : ∀ (c5_2 : Int32) (n5 : Nat) (u5_3 : Int32) (u5_4 : Int32) (x1_0_5 : Int32) (x1_1_5 : Int32) (x1_2_5 : Int32), p_X4_countAllSets_L5 F x2_0 x2_1 x2_2 a3 a4 a5 c5_2 n5 u5_3 u5_4 x1_0_5 x1_1_5 x1_2_5 = some (r0, e_x1_0, e_x1_1, e_x1_2) → ∀ (H : Heap) (locs : List Loc), va_P G.1 vwCl (wW_X4_countAllSets G h0 h1 h2 h3 h4 h5 y0_0 y0_1 y0_2 x0_4 x0_5 x0_6 x1_0_5 x1_1_5 x1_2_5 x2_0 x2_1 x2_2 a3 a4 a5) H → va_D A (wW_X4_countAllSets G h0 h1 h2 h3 h4 h5 y0_0 y0_1 y0_2 x0_4 x0_5 x0_6 x1_0_5 x1_1_5 x1_2_5 x2_0 x2_1 x2_2 a3 a4 a5) → va_S A s.heap H locs → ∀ ls : Array Slot, lv_has ls 5 [(0, .ref h0), (1, .ref h2), (2, .int c5_2), (3, .int u5_3), (4, .int u5_4)] → W p l e ({ frames := 4, cells := 0, slots := 0, locals := 104 } : Room) s m (List.toArray [.ref h0, .ref h2, .int b2]) below meth c H locs 0 0 (MQ below (QiS G r0 A (wW_X4_countAllSets G h0 h1 h2 h3 h4 h5 y0_0 y0_1 y0_2 x0_4 x0_5 x0_6 e_x1_0 e_x1_1 e_x1_2 x2_0 x2_1 x2_2 a3 a4 a5)) (List.toArray [.ref h0, .ref h2, .int b2]) s 0 0 A) (F0 m 5 ls []) := by
    intro c5_2 n5
    induction n5 with
    | zero =>
      intro u5_3 u5_4 x1_0_5 x1_1_5 x1_2_5 hf
      cases hf
    | succ n5 ih5 =>
      intro u5_3 u5_4 x1_0_5 x1_1_5 x1_2_5 hf H locs hP hD hS ls hl
      have hf : p_X4_countAllSets_L5b F x2_0 x2_1 x2_2 a3 a4 a5 c5_2 (p_X4_countAllSets_L5 F x2_0 x2_1 x2_2 a3 a4 a5 c5_2 n5) u5_3 u5_4 x1_0_5 x1_1_5 x1_2_5 = some (r0, e_x1_0, e_x1_1, e_x1_2) := hf
      refine lv_iload hx hb dX4_countAllSets_5 (lv_at hl 4 rfl) ?_
      refine lv_aload_n hx hb dX4_countAllSets_7 rfl (lv_at hl 1 rfl) ?_
      obtain ⟨r_8_0, hc_r_8_0, hf⟩ := of_bnd hf
      refine cl_Vi (w2 := (wW_X4_countAllSets G h0 h1 h2 h3 h4 h5 y0_0 y0_1 y0_2 x0_4 x0_5 x0_6 x1_0_5 x1_1_5 x1_2_5 x2_0 x2_1 x2_2 a3 a4 a5)) (As := []) (rest := [.int u5_4]) ⟨hx, hb, hml, hown, ht0⟩ (c_X1_chips l G h2 h3 h4 h5 _ x2_0 x2_1 x2_2 F _ hc_r_8_0) yk_X1_chips wd_1178 ⟨rfl, rfl, by decide, by decide⟩ ⟨Nat.le_refl _, Nat.le_refl _⟩ hX hK hP hD hS hA [2] [0, 1, 3, 4, 5] [0, 1, 5, 2, 3, 4] (va_recv hK hP (ci := 1) (q0 := 2) rfl rfl) rfl rfl (by decide) rfl rfl rfl rfl rfl hl.1 rfl (Nat.le_of_ble_eq_true rfl) dX4_countAllSets_8 (fun H locs hP hD hS => ?_)
      refine lv_icmp_ge (tgt := 31) hx hb dX4_countAllSets_11 (by decide) (fun c2 => ?_) (fun c2 => ?_)
      · have hf := of_pos hf c2
        refine lv_iload_n hx hb dX4_countAllSets_31 rfl (lv_at hl 3 rfl) ?_
        cases hf
        exact ret_i hx hb hr hlk hK hP hD hS dX4_countAllSets_32
      · have hf := of_neg hf c2
        refine lv_iload_n hx hb dX4_countAllSets_14 rfl (lv_at hl 3 rfl) ?_
        refine lv_aload_n hx hb dX4_countAllSets_15 rfl (lv_at hl 0 rfl) ?_
        refine lv_aload_n hx hb dX4_countAllSets_16 rfl (lv_at hl 1 rfl) ?_
        refine lv_iload hx hb dX4_countAllSets_17 (lv_at hl 4 rfl) ?_
        refine lv_iload_n hx hb dX4_countAllSets_19 rfl (lv_at hl 2 rfl) ?_
        obtain ⟨⟨r_20_2, r_20_2_x1_0, r_20_2_x1_1, r_20_2_x1_2⟩, hc_r_20_2, hf⟩ := of_bnd hf
        refine cl_Vi (w2 := (wW_X4_countAllSets G h0 h1 h2 h3 h4 h5 y0_0 y0_1 y0_2 x0_4 x0_5 x0_6 r_20_2_x1_0 r_20_2_x1_1 r_20_2_x1_2 x2_0 x2_1 x2_2 a3 a4 a5)) (As := [.ref h2, .int u5_4, .int c5_2]) (rest := [.int u5_3]) ⟨hx, hb, hml, hown, ht0⟩ (c_X4_countSets l G h0 h1 h2 h3 h4 h5 y0_0 y0_1 y0_2 _ x0_4 x0_5 x0_6 x1_0_5 x1_1_5 x1_2_5 x2_0 x2_1 x2_2 a3 a4 a5 F u5_4 c5_2 _ _ _ _ hc_r_20_2) yk_X4_countSets wd_1179 ⟨rfl, rfl, by decide, by decide⟩ ⟨Nat.le_refl _, Nat.le_refl _⟩ hX hK hP hD hS hA [0, 1, 2, 3, 4, 5] [] [0, 1, 2, 3, 4, 5] (va_recv hK hP (ci := 4) (q0 := 0) rfl rfl) rfl rfl (by decide) rfl rfl rfl rfl rfl hl.1 rfl (Nat.le_of_ble_eq_true rfl) dX4_countAllSets_20 (fun H locs hP hD hS => ?_)
        refine lv_iadd hx hb dX4_countAllSets_23 ?_
        refine lv_istore_n (lv' := [(3, .int (u5_3 + r_20_2)), (0, .ref h0), (1, .ref h2), (2, .int c5_2), (4, .int u5_4)]) hx hb dX4_countAllSets_24 rfl hl (by decide) rfl (fun ls hl => ?_)
        refine lv_iinc (v := u5_4 + (1 : Int32)) (lv' := [(4, .int (u5_4 + (1 : Int32))), (3, .int (u5_3 + r_20_2)), (0, .ref h0), (1, .ref h2), (2, .int c5_2)]) hx hb dX4_countAllSets_25 hl (k := 4) rfl (by rfl) (by decide) rfl (fun ls hl => ?_)
        refine lv_goto (tgt := 5) hx hb dX4_countAllSets_28 (by decide) ?_
        exact ih5 _ _ _ _ _ hf _ _ hP hD hS _ (lv_sub hl [2, 3, 4, 1, 0] rfl)
  refine lv_iconst (v := (0 : Int32)) hx hb dX4_countAllSets_0 (by decide) ?_
  refine lv_istore_n (lv' := [(3, .int (0 : Int32)), (0, .ref h0), (1, .ref h2), (2, .int b2)]) hx hb dX4_countAllSets_1 rfl hl (by decide) rfl (fun ls hl => ?_)
  refine lv_iconst (v := (0 : Int32)) hx hb dX4_countAllSets_2 (by decide) ?_
  refine lv_istore (lv' := [(4, .int (0 : Int32)), (3, .int (0 : Int32)), (0, .ref h0), (1, .ref h2), (2, .int b2)]) hx hb dX4_countAllSets_3 hl (by decide) rfl (fun ls hl => ?_)
  exact kL5 _ _ _ _ _ _ _ hf _ _ hP hD hS _ (lv_sub hl [2, 3, 4, 1, 0] rfl)
theorem yk_X4_countAllSets : ykV yX4_countAllSets RX4 cX4_countAllSets 5 (some .int) 2 := ⟨wd_1175, wd_1176, wd_136, wd_1177, rfl, by decide +kernel, by decide +kernel, by decide +kernel⟩
theorem dX4_seekExchange_0 : decode cX4_seekExchange 0 = .ok (.aload_n 0, 1) := by decide +kernel
theorem dX4_seekExchange_1 : decode cX4_seekExchange 1 = .ok (.iconst (-1), 1) := by decide +kernel
theorem dX4_seekExchange_2 : decode cX4_seekExchange 2 = .ok (.iconst (-1), 1) := by decide +kernel
theorem dX4_seekExchange_3 : decode cX4_seekExchange 3 = .ok (.iconst (-1), 1) := by decide +kernel
theorem dX4_seekExchange_4 : decode cX4_seekExchange 4 = .ok (.invokevirtual 70, 3) := by decide +kernel
theorem dX4_seekExchange_7 : decode cX4_seekExchange 7 = .ok (.aload_n 0, 1) := by decide +kernel
theorem dX4_seekExchange_8 : decode cX4_seekExchange 8 = .ok (.getfield 21, 3) := by decide +kernel
theorem dX4_seekExchange_11 : decode cX4_seekExchange 11 = .ok (.aload_n 1, 1) := by decide +kernel
theorem dX4_seekExchange_12 : decode cX4_seekExchange 12 = .ok (.invokevirtual 117, 3) := by decide +kernel
theorem dX4_seekExchange_15 : decode cX4_seekExchange 15 = .ok (.aload_n 0, 1) := by decide +kernel
theorem dX4_seekExchange_16 : decode cX4_seekExchange 16 = .ok (.aload_n 0, 1) := by decide +kernel
theorem dX4_seekExchange_17 : decode cX4_seekExchange 17 = .ok (.getfield 21, 3) := by decide +kernel
theorem dX4_seekExchange_20 : decode cX4_seekExchange 20 = .ok (.iconst 2, 1) := by decide +kernel
theorem dX4_seekExchange_21 : decode cX4_seekExchange 21 = .ok (.invokevirtual 120, 3) := by decide +kernel
theorem dX4_seekExchange_24 : decode cX4_seekExchange 24 = .ok (.istore_n 2, 1) := by decide +kernel
theorem dX4_seekExchange_25 : decode cX4_seekExchange 25 = .ok (.iconst 0, 1) := by decide +kernel
theorem dX4_seekExchange_26 : decode cX4_seekExchange 26 = .ok (.istore_n 3, 1) := by decide +kernel
theorem dX4_seekExchange_27 : decode cX4_seekExchange 27 = .ok (.iload_n 3, 1) := by decide +kernel
theorem dX4_seekExchange_28 : decode cX4_seekExchange 28 = .ok (.aload_n 1, 1) := by decide +kernel
theorem dX4_seekExchange_29 : decode cX4_seekExchange 29 = .ok (.getfield 82, 3) := by decide +kernel
theorem dX4_seekExchange_32 : decode cX4_seekExchange 32 = .ok (.if_icmp .ge 78, 3) := by decide +kernel
theorem dX4_seekExchange_35 : decode cX4_seekExchange 35 = .ok (.iload_n 3, 1) := by decide +kernel
theorem dX4_seekExchange_36 : decode cX4_seekExchange 36 = .ok (.iconst 1, 1) := by decide +kernel
theorem dX4_seekExchange_37 : decode cX4_seekExchange 37 = .ok (.iadd, 1) := by decide +kernel
theorem dX4_seekExchange_38 : decode cX4_seekExchange 38 = .ok (.istore 4, 2) := by decide +kernel
theorem dX4_seekExchange_40 : decode cX4_seekExchange 40 = .ok (.iload 4, 2) := by decide +kernel
theorem dX4_seekExchange_42 : decode cX4_seekExchange 42 = .ok (.aload_n 1, 1) := by decide +kernel
theorem dX4_seekExchange_43 : decode cX4_seekExchange 43 = .ok (.getfield 82, 3) := by decide +kernel
theorem dX4_seekExchange_46 : decode cX4_seekExchange 46 = .ok (.if_icmp .ge 58, 3) := by decide +kernel
theorem dX4_seekExchange_49 : decode cX4_seekExchange 49 = .ok (.aload_n 0, 1) := by decide +kernel
theorem dX4_seekExchange_50 : decode cX4_seekExchange 50 = .ok (.getfield 21, 3) := by decide +kernel
theorem dX4_seekExchange_53 : decode cX4_seekExchange 53 = .ok (.iload_n 3, 1) := by decide +kernel
theorem dX4_seekExchange_54 : decode cX4_seekExchange 54 = .ok (.iload 4, 2) := by decide +kernel
theorem dX4_seekExchange_56 : decode cX4_seekExchange 56 = .ok (.invokevirtual 123, 3) := by decide +kernel
theorem dX4_seekExchange_59 : decode cX4_seekExchange 59 = .ok (.aload_n 0, 1) := by decide +kernel
theorem dX4_seekExchange_60 : decode cX4_seekExchange 60 = .ok (.aload_n 0, 1) := by decide +kernel
theorem dX4_seekExchange_61 : decode cX4_seekExchange 61 = .ok (.getfield 21, 3) := by decide +kernel
theorem dX4_seekExchange_64 : decode cX4_seekExchange 64 = .ok (.iconst 2, 1) := by decide +kernel
theorem dX4_seekExchange_65 : decode cX4_seekExchange 65 = .ok (.invokevirtual 120, 3) := by decide +kernel
theorem dX4_seekExchange_68 : decode cX4_seekExchange 68 = .ok (.istore 5, 2) := by decide +kernel
theorem dX4_seekExchange_70 : decode cX4_seekExchange 70 = .ok (.aload_n 0, 1) := by decide +kernel
theorem dX4_seekExchange_71 : decode cX4_seekExchange 71 = .ok (.getfield 21, 3) := by decide +kernel
theorem dX4_seekExchange_74 : decode cX4_seekExchange 74 = .ok (.iload_n 3, 1) := by decide +kernel
theorem dX4_seekExchange_75 : decode cX4_seekExchange 75 = .ok (.iload 4, 2) := by decide +kernel
theorem dX4_seekExchange_77 : decode cX4_seekExchange 77 = .ok (.invokevirtual 123, 3) := by decide +kernel
theorem dX4_seekExchange_80 : decode cX4_seekExchange 80 = .ok (.iload 5, 2) := by decide +kernel
theorem dX4_seekExchange_82 : decode cX4_seekExchange 82 = .ok (.iload_n 2, 1) := by decide +kernel
theorem dX4_seekExchange_83 : decode cX4_seekExchange 83 = .ok (.if_icmp .ge 15, 3) := by decide +kernel
theorem dX4_seekExchange_86 : decode cX4_seekExchange 86 = .ok (.iload 5, 2) := by decide +kernel
theorem dX4_seekExchange_88 : decode cX4_seekExchange 88 = .ok (.istore_n 2, 1) := by decide +kernel
theorem dX4_seekExchange_89 : decode cX4_seekExchange 89 = .ok (.aload_n 0, 1) := by decide +kernel
theorem dX4_seekExchange_90 : decode cX4_seekExchange 90 = .ok (.iload_n 3, 1) := by decide +kernel
theorem dX4_seekExchange_91 : decode cX4_seekExchange 91 = .ok (.iload 4, 2) := by decide +kernel
theorem dX4_seekExchange_93 : decode cX4_seekExchange 93 = .ok (.iload 5, 2) := by decide +kernel
theorem dX4_seekExchange_95 : decode cX4_seekExchange 95 = .ok (.invokevirtual 70, 3) := by decide +kernel
theorem dX4_seekExchange_98 : decode cX4_seekExchange 98 = .ok (.iinc 4 1, 3) := by decide +kernel
theorem dX4_seekExchange_101 : decode cX4_seekExchange 101 = .ok (.goto (-61), 3) := by decide +kernel
theorem dX4_seekExchange_104 : decode cX4_seekExchange 104 = .ok (.iinc 3 1, 3) := by decide +kernel
theorem dX4_seekExchange_107 : decode cX4_seekExchange 107 = .ok (.goto (-80), 3) := by decide +kernel
theorem dX4_seekExchange_110 : decode cX4_seekExchange 110 = .ok (.return_, 1) := by decide +kernel
def wW_X4_seekExchange (G : GG) (h0 h1 h2 h3 h4 h5 h6 h7 h8 h9 y0_0 y0_1 : Nat) (x0_4 : Int32) (x0_5 : Int32) (x0_6 : Int32) (x1_0 : Int32) (x1_1 : Int32) (x1_2 : Int32) (a2 : Nat → Int32) (a3 : Nat → Int32) (a4 : Nat → Int32) (x5_0 : Int32) (x5_1 : Int32) (x5_2 : Int32) (x6_0 : Int32) (x6_1 : Int32) (x6_2 : Int32) (a7 : Nat → Int32) (a8 : Nat → Int32) (a9 : Nat → Int32) : va_W := [(h0, .inr (4, [.ref y0_0, .ref y0_1, .ref h1, .ref h5, .int x0_4, .int x0_5, .int x0_6])), (h1, .inr (1, [.int x1_0, .int x1_1, .int x1_2, .ref h2, .ref h3, .ref h4])), (h2, .inl (G.2.1, 32, .inl a2)), (h3, .inl (G.2.1, 256, .inl a3)), (h4, .inl (G.2.1, 256, .inl a4)), (h5, .inr (2, [.int x5_0, .int x5_1, .int x5_2])), (h6, .inr (1, [.int x6_0, .int x6_1, .int x6_2, .ref h7, .ref h8, .ref h9])), (h7, .inl (G.2.1, 32, .inl a7)), (h8, .inl (G.2.1, 256, .inl a8)), (h9, .inl (G.2.1, 256, .inl a9))]
set_option maxHeartbeats 4000000 in
set_option maxRecDepth 100000 in
theorem c_X4_seekExchange (l : Launch) (G : GG) (h0 h1 h2 h3 h4 h5 h6 h7 h8 h9 y0_0 y0_1 : Nat) (sz : Nat) (x0_4 : Int32) (x0_5 : Int32) (x0_6 : Int32) (x1_0 : Int32) (x1_1 : Int32) (x1_2 : Int32) (a2 : Nat → Int32) (a3 : Nat → Int32) (a4 : Nat → Int32) (x5_0 : Int32) (x5_1 : Int32) (x5_2 : Int32) (x6_0 : Int32) (x6_1 : Int32) (x6_2 : Int32) (a7 : Nat → Int32) (a8 : Nat → Int32) (a9 : Nat → Int32) (F : Nat)   (e_x0_4 : Int32) (e_x0_5 : Int32) (e_x0_6 : Int32) (e_x1_0 : Int32) (e_x1_1 : Int32) (e_x1_2 : Int32) (e_a2 : Nat → Int32) (e_a3 : Nat → Int32) (e_a4 : Nat → Int32) (e_x5_0 : Int32) (e_x5_1 : Int32) (e_x5_2 : Int32) (hf : p_X4_seekExchange F x0_4 x0_5 x0_6 x1_0 x1_1 x1_2 a2 a3 a4 x5_0 x5_1 x5_2 x6_0 x6_1 x6_2 a7 a8 a9  = some (e_x0_4, e_x0_5, e_x0_6, e_x1_0, e_x1_1, e_x1_2, e_a2, e_a3, e_a4, e_x5_0, e_x5_1, e_x5_2)) : Met l yX4_seekExchange (.code yX4_seekExchange cX4_seekExchange 6 none :: gtbl) ({ frames := 5, cells := 0, slots := 0, locals := 128 } : Room) (PcS G [.ref h0, .ref h6] (wW_X4_seekExchange G h0 h1 h2 h3 h4 h5 h6 h7 h8 h9 y0_0 y0_1 x0_4 x0_5 x0_6 x1_0 x1_1 x1_2 a2 a3 a4 x5_0 x5_1 x5_2 x6_0 x6_1 x6_2 a7 a8 a9) sz) (QvS G (va_A (wW_X4_seekExchange G h0 h1 h2 h3 h4 h5 h6 h7 h8 h9 y0_0 y0_1 x0_4 x0_5 x0_6 x1_0 x1_1 x1_2 a2 a3 a4 x5_0 x5_1 x5_2 x6_0 x6_1 x6_2 a7 a8 a9) sz) (wW_X4_seekExchange G h0 h1 h2 h3 h4 h5 h6 h7 h8 h9 y0_0 y0_1 e_x0_4 e_x0_5 e_x0_6 e_x1_0 e_x1_1 e_x1_2 e_a2 e_a3 e_a4 e_x5_0 e_x5_1 e_x5_2 x6_0 x6_1 x6_2 a7 a8 a9)) 0 0 (va_A (wW_X4_seekExchange G h0 h1 h2 h3 h4 h5 h6 h7 h8 h9 y0_0 y0_1 x0_4 x0_5 x0_6 x1_0 x1_1 x1_2 a2 a3 a4 x5_0 x5_1 x5_2 x6_0 x6_1 x6_2 a7 a8 a9) sz) := by
  refine met_start (by decide) (Nat.le_of_ble_eq_true rfl) ?_
  intro p e s m below meth c hC hr hlk hnm hK hP hD hA hS hX ls hl
  obtain ⟨hx, hb, hml, hown, ht0⟩ := hC
  have hown : s.vm.findClass RX4 = some m.cls := hown
  generalize va_A (wW_X4_seekExchange G h0 h1 h2 h3 h4 h5 h6 h7 h8 h9 y0_0 y0_1 x0_4 x0_5 x0_6 x1_0 x1_1 x1_2 a2 a3 a4 x5_0 x5_1 x5_2 x6_0 x6_1 x6_2 a7 a8 a9) sz = A at hD hA hS hX ⊢
  have hl : lv_has ls 6 [(0, .ref h0), (1, .ref h6)] := hl
  have hf : p_X4_seekExchange F x0_4 x0_5 x0_6 x1_0 x1_1 x1_2 a2 a3 a4 x5_0 x5_1 x5_2 x6_0 x6_1 x6_2 a7 a8 a9  = some (e_x0_4, e_x0_5, e_x0_6, e_x1_0, e_x1_1, e_x1_2, e_a2, e_a3, e_a4, e_x5_0, e_x5_1, e_x5_2) := hf
  have kL27 : ∀ (n27 : Nat) (u27_2 : Int32) (u27_3 : Int32) (x0_4_27 : Int32) (x0_5_27 : Int32) (x0_6_27 : Int32) (x1_0_27 : Int32) (x1_1_27 : Int32) (x1_2_27 : Int32) (a2_27 : Nat → Int32) (a3_27 : Nat → Int32) (a4_27 : Nat → Int32) (x5_0_27 : Int32) (x5_1_27 : Int32) (x5_2_27 : Int32), p_X4_seekExchange_L27 F x6_0 x6_1 x6_2 a7 a8 a9 n27 u27_2 u27_3 x0_4_27 x0_5_27 x0_6_27 x1_0_27 x1_1_27 x1_2_27 a2_27 a3_27 a4_27 x5_0_27 x5_1_27 x5_2_27 = some (e_x0_4, e_x0_5, e_x0_6, e_x1_0, e_x1_1, e_x1_2, e_a2, e_a3, e_a4, e_x5_0, e_x5_1, e_x5_2) → ∀ (H : Heap) (locs : List Loc), va_P G.1 vwCl (wW_X4_seekExchange G h0 h1 h2 h3 h4 h5 h6 h7 h8 h9 y0_0 y0_1 x0_4_27 x0_5_27 x0_6_27 x1_0_27 x1_1_27 x1_2_27 a2_27 a3_27 a4_27 x5_0_27 x5_1_27 x5_2_27 x6_0 x6_1 x6_2 a7 a8 a9) H → va_D A (wW_X4_seekExchange G h0 h1 h2 h3 h4 h5 h6 h7 h8 h9 y0_0 y0_1 x0_4_27 x0_5_27 x0_6_27 x1_0_27 x1_1_27 x1_2_27 a2_27 a3_27 a4_27 x5_0_27 x5_1_27 x5_2_27 x6_0 x6_1 x6_2 a7 a8 a9) → va_S A s.heap H locs → ∀ ls : Array Slot, lv_has ls 6 [(0, .ref h0), (1, .ref h6), (2, .int u27_2), (3, .int u27_3)] → W p l e ({ frames := 5, cells := 0, slots := 0, locals := 128 } : Room) s m (List.toArray [.ref h0, .ref h6]) below meth c H locs 0 0 (MQ below (QvS G A (wW_X4_seekExchange G h0 h1 h2 h3 h4 h5 h6 h7 h8 h9 y0_0 y0_1 e_x0_4 e_x0_5 e_x0_6 e_x1_0 e_x1_1 e_x1_2 e_a2 e_a3 e_a4 e_x5_0 e_x5_1 e_x5_2 x6_0 x6_1 x6_2 a7 a8 a9)) (List.toArray [.ref h0, .ref h6]) s 0 0 A) (F0 m 27 ls []) := by
    intro n27
    induction n27 with
    | zero =>
      intro u27_2 u27_3 x0_4_27 x0_5_27 x0_6_27 x1_0_27 x1_1_27 x1_2_27 a2_27 a3_27 a4_27 x5_0_27 x5_1_27 x5_2_27 hf
      cases hf
    | succ n27 ih27 =>
      have kL40 : ∀ (c40_3 : Int32) (n40 : Nat) (u40_2 : Int32) (u40_4 : Int32) (x0_4_40 : Int32) (x0_5_40 : Int32) (x0_6_40 : Int32) (x1_0_40 : Int32) (x1_1_40 : Int32) (x1_2_40 : Int32) (a2_40 : Nat → Int32) (a3_40 : Nat → Int32) (a4_40 : Nat → Int32) (x5_0_40 : Int32) (x5_1_40 : Int32) (x5_2_40 : Int32), p_X4_seekExchange_L40 F x6_0 x6_1 x6_2 a7 a8 a9 c40_3 (p_X4_seekExchange_L27 F x6_0 x6_1 x6_2 a7 a8 a9 n27) n40 u40_2 u40_4 x0_4_40 x0_5_40 x0_6_40 x1_0_40 x1_1_40 x1_2_40 a2_40 a3_40 a4_40 x5_0_40 x5_1_40 x5_2_40 = some (e_x0_4, e_x0_5, e_x0_6, e_x1_0, e_x1_1, e_x1_2, e_a2, e_a3, e_a4, e_x5_0, e_x5_1, e_x5_2) → ∀ (H : Heap) (locs : List Loc), va_P G.1 vwCl (wW_X4_seekExchange G h0 h1 h2 h3 h4 h5 h6 h7 h8 h9 y0_0 y0_1 x0_4_40 x0_5_40 x0_6_40 x1_0_40 x1_1_40 x1_2_40 a2_40 a3_40 a4_40 x5_0_40 x5_1_40 x5_2_40 x6_0 x6_1 x6_2 a7 a8 a9) H → va_D A (wW_X4_seekExchange G h0 h1 h2 h3 h4 h5 h6 h7 h8 h9 y0_0 y0_1 x0_4_40 x0_5_40 x0_6_40 x1_0_40 x1_1_40 x1_2_40 a2_40 a3_40 a4_40 x5_0_40 x5_1_40 x5_2_40 x6_0 x6_1 x6_2 a7 a8 a9) → va_S A s.heap H locs → ∀ ls : Array Slot, lv_has ls 6 [(0, .ref h0), (1, .ref h6), (2, .int u40_2), (3, .int c40_3), (4, .int u40_4)] → W p l e ({ frames := 5, cells := 0, slots := 0, locals := 128 } : Room) s m (List.toArray [.ref h0, .ref h6]) below meth c H locs 0 0 (MQ below (QvS G A (wW_X4_seekExchange G h0 h1 h2 h3 h4 h5 h6 h7 h8 h9 y0_0 y0_1 e_x0_4 e_x0_5 e_x0_6 e_x1_0 e_x1_1 e_x1_2 e_a2 e_a3 e_a4 e_x5_0 e_x5_1 e_x5_2 x6_0 x6_1 x6_2 a7 a8 a9)) (List.toArray [.ref h0, .ref h6]) s 0 0 A) (F0 m 40 ls []) := by
        intro c40_3 n40
        induction n40 with
        | zero =>
          intro u40_2 u40_4 x0_4_40 x0_5_40 x0_6_40 x1_0_40 x1_1_40 x1_2_40 a2_40 a3_40 a4_40 x5_0_40 x5_1_40 x5_2_40 hf
          cases hf
        | succ n40 ih40 =>
          have kJ98 : ∀ (u98_2 : Int32) (u98_4 : Int32) (x0_4_98 : Int32) (x0_5_98 : Int32) (x0_6_98 : Int32) (x1_0_98 : Int32) (x1_1_98 : Int32) (x1_2_98 : Int32) (a2_98 : Nat → Int32) (a3_98 : Nat → Int32) (a4_98 : Nat → Int32) (x5_0_98 : Int32) (x5_1_98 : Int32) (x5_2_98 : Int32), p_X4_seekExchange_J98 F x6_0 x6_1 x6_2 a7 a8 a9 c40_3 (p_X4_seekExchange_L27 F x6_0 x6_1 x6_2 a7 a8 a9 n27) (p_X4_seekExchange_L40 F x6_0 x6_1 x6_2 a7 a8 a9 c40_3 (p_X4_seekExchange_L27 F x6_0 x6_1 x6_2 a7 a8 a9 n27) n40) u98_2 u98_4 x0_4_98 x0_5_98 x0_6_98 x1_0_98 x1_1_98 x1_2_98 a2_98 a3_98 a4_98 x5_0_98 x5_1_98 x5_2_98 = some (e_x0_4, e_x0_5, e_x0_6, e_x1_0, e_x1_1, e_x1_2, e_a2, e_a3, e_a4, e_x5_0, e_x5_1, e_x5_2) → ∀ (H : Heap) (locs : List Loc), va_P G.1 vwCl (wW_X4_seekExchange G h0 h1 h2 h3 h4 h5 h6 h7 h8 h9 y0_0 y0_1 x0_4_98 x0_5_98 x0_6_98 x1_0_98 x1_1_98 x1_2_98 a2_98 a3_98 a4_98 x5_0_98 x5_1_98 x5_2_98 x6_0 x6_1 x6_2 a7 a8 a9) H → va_D A (wW_X4_seekExchange G h0 h1 h2 h3 h4 h5 h6 h7 h8 h9 y0_0 y0_1 x0_4_98 x0_5_98 x0_6_98 x1_0_98 x1_1_98 x1_2_98 a2_98 a3_98 a4_98 x5_0_98 x5_1_98 x5_2_98 x6_0 x6_1 x6_2 a7 a8 a9) → va_S A s.heap H locs → ∀ ls : Array Slot, lv_has ls 6 [(0, .ref h0), (1, .ref h6), (2, .int u98_2), (3, .int c40_3), (4, .int u98_4)] → W p l e ({ frames := 5, cells := 0, slots := 0, locals := 128 } : Room) s m (List.toArray [.ref h0, .ref h6]) below meth c H locs 0 0 (MQ below (QvS G A (wW_X4_seekExchange G h0 h1 h2 h3 h4 h5 h6 h7 h8 h9 y0_0 y0_1 e_x0_4 e_x0_5 e_x0_6 e_x1_0 e_x1_1 e_x1_2 e_a2 e_a3 e_a4 e_x5_0 e_x5_1 e_x5_2 x6_0 x6_1 x6_2 a7 a8 a9)) (List.toArray [.ref h0, .ref h6]) s 0 0 A) (F0 m 98 ls []) := by
            intro u98_2 u98_4 x0_4_98 x0_5_98 x0_6_98 x1_0_98 x1_1_98 x1_2_98 a2_98 a3_98 a4_98 x5_0_98 x5_1_98 x5_2_98 hf H locs hP hD hS ls hl
            refine lv_iinc (v := u98_4 + (1 : Int32)) (lv' := [(4, .int (u98_4 + (1 : Int32))), (0, .ref h0), (1, .ref h6), (2, .int u98_2), (3, .int c40_3)]) hx hb dX4_seekExchange_98 hl (k := 4) rfl (by rfl) (by decide) rfl (fun ls hl => ?_)
            refine lv_goto (tgt := 40) hx hb dX4_seekExchange_101 (by decide) ?_
            exact ih40 _ _ _ _ _ _ _ _ _ _ _ _ _ _ hf _ _ hP hD hS _ (lv_sub hl [1, 2, 3, 4, 0] rfl)
          intro u40_2 u40_4 x0_4_40 x0_5_40 x0_6_40 x1_0_40 x1_1_40 x1_2_40 a2_40 a3_40 a4_40 x5_0_40 x5_1_40 x5_2_40 hf H locs hP hD hS ls hl
          have hf : p_X4_seekExchange_L40b F x6_0 x6_1 x6_2 a7 a8 a9 c40_3 (p_X4_seekExchange_L27 F x6_0 x6_1 x6_2 a7 a8 a9 n27) (p_X4_seekExchange_L40 F x6_0 x6_1 x6_2 a7 a8 a9 c40_3 (p_X4_seekExchange_L27 F x6_0 x6_1 x6_2 a7 a8 a9 n27) n40) u40_2 u40_4 x0_4_40 x0_5_40 x0_6_40 x1_0_40 x1_1_40 x1_2_40 a2_40 a3_40 a4_40 x5_0_40 x5_1_40 x5_2_40 = some (e_x0_4, e_x0_5, e_x0_6, e_x1_0, e_x1_1, e_x1_2, e_a2, e_a3, e_a4, e_x5_0, e_x5_1, e_x5_2) := hf
          refine lv_iload hx hb dX4_seekExchange_40 (lv_at hl 4 rfl) ?_
          refine lv_aload_n hx hb dX4_seekExchange_42 rfl (lv_at hl 1 rfl) ?_
          refine va_get (ci := 1) (v := .int x6_0) (C := RX1) (T := TX1) (N := 6) hx hb ht0 iX1 hown hK hP 6 rfl rfl 0 (by decide) (ht0 _ wd_212) (fun _ h9 => h9) rfl dX4_seekExchange_43 ?_
          refine lv_icmp_ge (tgt := 104) hx hb dX4_seekExchange_46 (by decide) (fun c1 => ?_) (fun c1 => ?_)
          · have hf := of_pos hf c1
            refine lv_iinc (v := c40_3 + (1 : Int32)) (lv' := [(3, .int (c40_3 + (1 : Int32))), (0, .ref h0), (1, .ref h6), (2, .int u40_2), (4, .int u40_4)]) hx hb dX4_seekExchange_104 hl (k := 3) rfl (by rfl) (by decide) rfl (fun ls hl => ?_)
            refine lv_goto (tgt := 27) hx hb dX4_seekExchange_107 (by decide) ?_
            exact ih27 _ _ _ _ _ _ _ _ _ _ _ _ _ _ hf _ _ hP hD hS _ (lv_sub hl [1, 2, 3, 0] rfl)
          · have hf := of_neg hf c1
            refine lv_aload_n hx hb dX4_seekExchange_49 rfl (lv_at hl 0 rfl) ?_
            refine va_get (ci := 4) (v := .ref h1) (C := RX4) (T := TX4) (N := 7) hx hb ht0 iX4 hown hK hP 0 rfl rfl 2 (by decide) (ht0 _ wd_397) (fun _ h9 => h9) rfl dX4_seekExchange_50 ?_
            refine lv_iload_n hx hb dX4_seekExchange_53 rfl (lv_at hl 3 rfl) ?_
            refine lv_iload hx hb dX4_seekExchange_54 (lv_at hl 4 rfl) ?_
            obtain ⟨⟨r_56_1_a1, r_56_1_a2, r_56_1_a3⟩, hc_r_56_1, hf⟩ := of_bnd hf
            refine cl_Vv (w2 := (wW_X4_seekExchange G h0 h1 h2 h3 h4 h5 h6 h7 h8 h9 y0_0 y0_1 x0_4_40 x0_5_40 x0_6_40 x1_0_40 x1_1_40 x1_2_40 r_56_1_a1 r_56_1_a2 r_56_1_a3 x5_0_40 x5_1_40 x5_2_40 x6_0 x6_1 x6_2 a7 a8 a9)) (As := [.int c40_3, .int u40_4]) (rest := []) ⟨hx, hb, hml, hown, ht0⟩ (c_X1_exchangeColumns l G h1 h2 h3 h4 _ x1_0_40 x1_1_40 x1_2_40 a2_40 a3_40 a4_40 F c40_3 u40_4 _ _ _ hc_r_56_1) yk_X1_exchangeColumns wd_1200 ⟨rfl, rfl, by decide, by decide⟩ ⟨Nat.le_refl _, Nat.le_refl _⟩ hX hK hP hD hS hA [1, 2, 3, 4] [0, 5, 6, 7, 8, 9] [0, 6, 7, 8, 9, 1, 2, 3, 4, 5] (va_recv hK hP (ci := 1) (q0 := 1) rfl rfl) rfl rfl (by decide) rfl rfl rfl rfl rfl hl.1 rfl (Nat.le_of_ble_eq_true rfl) dX4_seekExchange_56 (fun H locs hP hD hS => ?_)
            refine lv_aload_n hx hb dX4_seekExchange_59 rfl (lv_at hl 0 rfl) ?_
            refine lv_aload_n hx hb dX4_seekExchange_60 rfl (lv_at hl 0 rfl) ?_
            refine va_get (ci := 4) (v := .ref h1) (C := RX4) (T := TX4) (N := 7) hx hb ht0 iX4 hown hK hP 0 rfl rfl 2 (by decide) (ht0 _ wd_397) (fun _ h9 => h9) rfl dX4_seekExchange_61 ?_
            refine lv_iconst (v := (2 : Int32)) hx hb dX4_seekExchange_64 (by decide) ?_
            obtain ⟨⟨r_65_2, r_65_2_x1_0, r_65_2_x1_1, r_65_2_x1_2⟩, hc_r_65_2, hf⟩ := of_bnd hf
            refine cl_Vi (w2 := (wW_X4_seekExchange G h0 h1 h2 h3 h4 h5 h6 h7 h8 h9 y0_0 y0_1 x0_4_40 x0_5_40 x0_6_40 x1_0_40 x1_1_40 x1_2_40 r_56_1_a1 r_56_1_a2 r_56_1_a3 r_65_2_x1_0 r_65_2_x1_1 r_65_2_x1_2 x6_0 x6_1 x6_2 a7 a8 a9)) (As := [.ref h1, .int (2 : Int32)]) (rest := []) ⟨hx, hb, hml, hown, ht0⟩ (c_X4_countAllSets l G h0 h5 h1 h2 h3 h4 y0_0 y0_1 h1 _ x0_4_40 x0_5_40 x0_6_40 x5_0_40 x5_1_40 x5_2_40 x1_0_40 x1_1_40 x1_2_40 r_56_1_a1 r_56_1_a2 r_56_1_a3 F (2 : Int32) _ _ _ _ hc_r_65_2) yk_X4_countAllSets wd_1199 ⟨rfl, rfl, by decide, by decide⟩ ⟨Nat.le_refl _, Nat.le_refl _⟩ hX hK hP hD hS hA [0, 5, 1, 2, 3, 4] [6, 7, 8, 9] [4, 6, 7, 8, 9, 5, 0, 1, 2, 3] (va_recv hK hP (ci := 4) (q0 := 0) rfl rfl) rfl rfl (by decide) rfl rfl rfl rfl rfl hl.1 rfl (Nat.le_of_ble_eq_true rfl) dX4_seekExchange_65 (fun H locs hP hD hS => ?_)
            refine lv_istore (lv' := [(5, .int r_65_2), (0, .ref h0), (1, .ref h6), (2, .int u40_2), (3, .int c40_3), (4, .int u40_4)]) hx hb dX4_seekExchange_68 hl (by decide) rfl (fun ls hl => ?_)
            refine lv_aload_n hx hb dX4_seekExchange_70 rfl (lv_at hl 1 rfl) ?_
            refine va_get (ci := 4) (v := .ref h1) (C := RX4) (T := TX4) (N := 7) hx hb ht0 iX4 hown hK hP 0 rfl rfl 2 (by decide) (ht0 _ wd_397) (fun _ h9 => h9) rfl dX4_seekExchange_71 ?_
            refine lv_iload_n hx hb dX4_seekExchange_74 rfl (lv_at hl 4 rfl) ?_
            refine lv_iload hx hb dX4_seekExchange_75 (lv_at hl 5 rfl) ?_
            obtain ⟨⟨r_77_3_a1, r_77_3_a2, r_77_3_a3⟩, hc_r_77_3, hf⟩ := of_bnd hf
            refine cl_Vv (w2 := (wW_X4_seekExchange G h0 h1 h2 h3 h4 h5 h6 h7 h8 h9 y0_0 y0_1 x0_4_40 x0_5_40 x0_6_40 x1_0_40 x1_1_40 x1_2_40 r_77_3_a1 r_77_3_a2 r_77_3_a3 r_65_2_x1_0 r_65_2_x1_1 r_65_2_x1_2 x6_0 x6_1 x6_2 a7 a8 a9)) (As := [.int c40_3, .int u40_4]) (rest := []) ⟨hx, hb, hml, hown, ht0⟩ (c_X1_exchangeColumns l G h1 h2 h3 h4 _ x1_0_40 x1_1_40 x1_2_40 r_56_1_a1 r_56_1_a2 r_56_1_a3 F c40_3 u40_4 _ _ _ hc_r_77_3) yk_X1_exchangeColumns wd_1200 ⟨rfl, rfl, by decide, by decide⟩ ⟨Nat.le_refl _, Nat.le_refl _⟩ hX hK hP hD hS hA [1, 2, 3, 4] [0, 5, 6, 7, 8, 9] [0, 6, 7, 8, 9, 1, 2, 3, 4, 5] (va_recv hK hP (ci := 1) (q0 := 1) rfl rfl) rfl rfl (by decide) rfl rfl rfl rfl rfl hl.1 rfl (Nat.le_of_ble_eq_true rfl) dX4_seekExchange_77 (fun H locs hP hD hS => ?_)
            refine lv_iload hx hb dX4_seekExchange_80 (lv_at hl 0 rfl) ?_
            refine lv_iload_n hx hb dX4_seekExchange_82 rfl (lv_at hl 3 rfl) ?_
            refine lv_icmp_ge (tgt := 98) hx hb dX4_seekExchange_83 (by decide) (fun c5 => ?_) (fun c5 => ?_)
            · have hf := of_pos hf c5
              exact kJ98 _ _ _ _ _ _ _ _ _ _ _ _ _ _ hf _ _ hP hD hS _ (lv_sub hl [1, 2, 3, 4, 5] rfl)
            · have hf := of_neg hf c5
              refine lv_iload hx hb dX4_seekExchange_86 (lv_at hl 0 rfl) ?_
              refine lv_istore_n (lv' := [(2, .int r_65_2), (5, .int r_65_2), (0, .ref h0), (1, .ref h6), (3, .int c40_3), (4, .int u40_4)]) hx hb dX4_seekExchange_88 rfl hl (by decide) rfl (fun ls hl => ?_)
              refine lv_aload_n hx hb dX4_seekExchange_89 rfl (lv_at hl 2 rfl) ?_
              refine lv_iload_n hx hb dX4_seekExchange_90 rfl (lv_at hl 4 rfl) ?_
              refine lv_iload hx hb dX4_seekExchange_91 (lv_at hl 5 rfl) ?_
              refine lv_iload hx hb dX4_seekExchange_93 (lv_at hl 1 rfl) ?_
              obtain ⟨⟨r_95_5_x0_4, r_95_5_x0_5, r_95_5_x0_6⟩, hc_r_95_5, hf⟩ := of_bnd hf
              refine cl_Vv (w2 := (wW_X4_seekExchange G h0 h1 h2 h3 h4 h5 h6 h7 h8 h9 y0_0 y0_1 r_95_5_x0_4 r_95_5_x0_5 r_95_5_x0_6 x1_0_40 x1_1_40 x1_2_40 r_77_3_a1 r_77_3_a2 r_77_3_a3 r_65_2_x1_0 r_65_2_x1_1 r_65_2_x1_2 x6_0 x6_1 x6_2 a7 a8 a9)) (As := [.int c40_3, .int u40_4, .int r_65_2]) (rest := []) ⟨hx, hb, hml, hown, ht0⟩ (c_X4_settleBest l G h0 y0_0 y0_1 h1 h5 _ x0_4_40 x0_5_40 x0_6_40 F c40_3 u40_4 r_65_2 _ _ _ hc_r_95_5) yk_X4_settleBest wd_991 ⟨rfl, rfl, by decide, by decide⟩ ⟨Nat.le_refl _, Nat.le_refl _⟩ hX hK hP hD hS hA [0] [1, 2, 3, 4, 5, 6, 7, 8, 9] [9, 0, 1, 2, 3, 4, 5, 6, 7, 8] (va_recv hK hP (ci := 4) (q0 := 0) rfl rfl) rfl rfl (by decide) rfl rfl rfl rfl rfl hl.1 rfl (Nat.le_of_ble_eq_true rfl) dX4_seekExchange_95 (fun H locs hP hD hS => ?_)
              exact kJ98 _ _ _ _ _ _ _ _ _ _ _ _ _ _ hf _ _ hP hD hS _ (lv_sub hl [2, 3, 0, 4, 5] rfl)
      intro u27_2 u27_3 x0_4_27 x0_5_27 x0_6_27 x1_0_27 x1_1_27 x1_2_27 a2_27 a3_27 a4_27 x5_0_27 x5_1_27 x5_2_27 hf H locs hP hD hS ls hl
      have hf : p_X4_seekExchange_L27b F x6_0 x6_1 x6_2 a7 a8 a9 (p_X4_seekExchange_L27 F x6_0 x6_1 x6_2 a7 a8 a9 n27) u27_2 u27_3 x0_4_27 x0_5_27 x0_6_27 x1_0_27 x1_1_27 x1_2_27 a2_27 a3_27 a4_27 x5_0_27 x5_1_27 x5_2_27 = some (e_x0_4, e_x0_5, e_x0_6, e_x1_0, e_x1_1, e_x1_2, e_a2, e_a3, e_a4, e_x5_0, e_x5_1, e_x5_2) := hf
      refine lv_iload_n hx hb dX4_seekExchange_27 rfl (lv_at hl 3 rfl) ?_
      refine lv_aload_n hx hb dX4_seekExchange_28 rfl (lv_at hl 1 rfl) ?_
      refine va_get (ci := 1) (v := .int x6_0) (C := RX1) (T := TX1) (N := 6) hx hb ht0 iX1 hown hK hP 6 rfl rfl 0 (by decide) (ht0 _ wd_212) (fun _ h9 => h9) rfl dX4_seekExchange_29 ?_
      refine lv_icmp_ge (tgt := 110) hx hb dX4_seekExchange_32 (by decide) (fun c7 => ?_) (fun c7 => ?_)
      · have hf := of_pos hf c7
        cases hf
        exact ret_v hx hb hr hlk hK hP hD hS dX4_seekExchange_110
      · have hf := of_neg hf c7
        refine lv_iload_n hx hb dX4_seekExchange_35 rfl (lv_at hl 3 rfl) ?_
        refine lv_iconst (v := (1 : Int32)) hx hb dX4_seekExchange_36 (by decide) ?_
        refine lv_iadd hx hb dX4_seekExchange_37 ?_
        refine lv_istore (lv' := [(4, .int (u27_3 + (1 : Int32))), (0, .ref h0), (1, .ref h6), (2, .int u27_2), (3, .int u27_3)]) hx hb dX4_seekExchange_38 hl (by decide) rfl (fun ls hl => ?_)
        exact kL40 _ _ _ _ _ _ _ _ _ _ _ _ _ _ _ _ hf _ _ hP hD hS _ (lv_sub hl [1, 2, 3, 4, 0] rfl)
  refine lv_aload_n hx hb dX4_seekExchange_0 rfl (lv_at hl 0 rfl) ?_
  refine lv_iconst (v := (-1 : Int32)) hx hb dX4_seekExchange_1 (by decide) ?_
  refine lv_iconst (v := (-1 : Int32)) hx hb dX4_seekExchange_2 (by decide) ?_
  refine lv_iconst (v := (-1 : Int32)) hx hb dX4_seekExchange_3 (by decide) ?_
  obtain ⟨⟨r_4_7_x0_4, r_4_7_x0_5, r_4_7_x0_6⟩, hc_r_4_7, hf⟩ := of_bnd hf
  refine cl_Vv (w2 := (wW_X4_seekExchange G h0 h1 h2 h3 h4 h5 h6 h7 h8 h9 y0_0 y0_1 r_4_7_x0_4 r_4_7_x0_5 r_4_7_x0_6 x1_0 x1_1 x1_2 a2 a3 a4 x5_0 x5_1 x5_2 x6_0 x6_1 x6_2 a7 a8 a9)) (As := [.int (-1 : Int32), .int (-1 : Int32), .int (-1 : Int32)]) (rest := []) ⟨hx, hb, hml, hown, ht0⟩ (c_X4_settleBest l G h0 y0_0 y0_1 h1 h5 _ x0_4 x0_5 x0_6 F (-1 : Int32) (-1 : Int32) (-1 : Int32) _ _ _ hc_r_4_7) yk_X4_settleBest wd_991 ⟨rfl, rfl, by decide, by decide⟩ ⟨Nat.le_refl _, Nat.le_refl _⟩ hX hK hP hD hS hA [0] [1, 2, 3, 4, 5, 6, 7, 8, 9] [9, 0, 1, 2, 3, 4, 5, 6, 7, 8] (va_recv hK hP (ci := 4) (q0 := 0) rfl rfl) rfl rfl (by decide) rfl rfl rfl rfl rfl hl.1 rfl (Nat.le_of_ble_eq_true rfl) dX4_seekExchange_4 (fun H locs hP hD hS => ?_)
  refine lv_aload_n hx hb dX4_seekExchange_7 rfl (lv_at hl 0 rfl) ?_
  refine va_get (ci := 4) (v := .ref h1) (C := RX4) (T := TX4) (N := 7) hx hb ht0 iX4 hown hK hP 0 rfl rfl 2 (by decide) (ht0 _ wd_397) (fun _ h9 => h9) rfl dX4_seekExchange_8 ?_
  refine lv_aload_n hx hb dX4_seekExchange_11 rfl (lv_at hl 1 rfl) ?_
  obtain ⟨⟨r_12_8_x0_0, r_12_8_x0_1, r_12_8_x0_2, r_12_8_a1, r_12_8_a2, r_12_8_a3⟩, hc_r_12_8, hf⟩ := of_bnd hf
  refine cl_Vv (w2 := (wW_X4_seekExchange G h0 h1 h2 h3 h4 h5 h6 h7 h8 h9 y0_0 y0_1 r_4_7_x0_4 r_4_7_x0_5 r_4_7_x0_6 r_12_8_x0_0 r_12_8_x0_1 r_12_8_x0_2 r_12_8_a1 r_12_8_a2 r_12_8_a3 x5_0 x5_1 x5_2 x6_0 x6_1 x6_2 a7 a8 a9)) (As := [.ref h6]) (rest := []) ⟨hx, hb, hml, hown, ht0⟩ (c_X1_copyFrom l G h1 h2 h3 h4 h6 h7 h8 h9 _ x1_0 x1_1 x1_2 a2 a3 a4 x6_0 x6_1 x6_2 a7 a8 a9 F _ _ _ _ _ _ hc_r_12_8) yk_X1_copyFrom wd_1198 ⟨rfl, rfl, by decide, by decide⟩ ⟨Nat.le_refl _, Nat.le_refl _⟩ hX hK hP hD hS hA [1, 2, 3, 4, 6, 7, 8, 9] [0, 5] [0, 2, 3, 4, 5, 1, 6, 7, 8, 9] (va_recv hK hP (ci := 1) (q0 := 1) rfl rfl) rfl rfl (by decide) rfl rfl rfl rfl rfl hl.1 rfl (Nat.le_of_ble_eq_true rfl) dX4_seekExchange_12 (fun H locs hP hD hS => ?_)
  refine lv_aload_n hx hb dX4_seekExchange_15 rfl (lv_at hl 0 rfl) ?_
  refine lv_aload_n hx hb dX4_seekExchange_16 rfl (lv_at hl 0 rfl) ?_
  refine va_get (ci := 4) (v := .ref h1) (C := RX4) (T := TX4) (N := 7) hx hb ht0 iX4 hown hK hP 0 rfl rfl 2 (by decide) (ht0 _ wd_397) (fun _ h9 => h9) rfl dX4_seekExchange_17 ?_
  refine lv_iconst (v := (2 : Int32)) hx hb dX4_seekExchange_20 (by decide) ?_
  obtain ⟨⟨r_21_9, r_21_9_x1_0, r_21_9_x1_1, r_21_9_x1_2⟩, hc_r_21_9, hf⟩ := of_bnd hf
  refine cl_Vi (w2 := (wW_X4_seekExchange G h0 h1 h2 h3 h4 h5 h6 h7 h8 h9 y0_0 y0_1 r_4_7_x0_4 r_4_7_x0_5 r_4_7_x0_6 r_12_8_x0_0 r_12_8_x0_1 r_12_8_x0_2 r_12_8_a1 r_12_8_a2 r_12_8_a3 r_21_9_x1_0 r_21_9_x1_1 r_21_9_x1_2 x6_0 x6_1 x6_2 a7 a8 a9)) (As := [.ref h1, .int (2 : Int32)]) (rest := []) ⟨hx, hb, hml, hown, ht0⟩ (c_X4_countAllSets l G h0 h5 h1 h2 h3 h4 y0_0 y0_1 h1 _ r_4_7_x0_4 r_4_7_x0_5 r_4_7_x0_6 x5_0 x5_1 x5_2 r_12_8_x0_0 r_12_8_x0_1 r_12_8_x0_2 r_12_8_a1 r_12_8_a2 r_12_8_a3 F (2 : Int32) _ _ _ _ hc_r_21_9) yk_X4_countAllSets wd_1199 ⟨rfl, rfl, by decide, by decide⟩ ⟨Nat.le_refl _, Nat.le_refl _⟩ hX hK hP hD hS hA [0, 5, 1, 2, 3, 4] [6, 7, 8, 9] [4, 6, 7, 8, 9, 5, 0, 1, 2, 3] (va_recv hK hP (ci := 4) (q0 := 0) rfl rfl) rfl rfl (by decide) rfl rfl rfl rfl rfl hl.1 rfl (Nat.le_of_ble_eq_true rfl) dX4_seekExchange_21 (fun H locs hP hD hS => ?_)
  refine lv_istore_n (lv' := [(2, .int r_21_9), (0, .ref h0), (1, .ref h6)]) hx hb dX4_seekExchange_24 rfl hl (by decide) rfl (fun ls hl => ?_)
  refine lv_iconst (v := (0 : Int32)) hx hb dX4_seekExchange_25 (by decide) ?_
  refine lv_istore_n (lv' := [(3, .int (0 : Int32)), (2, .int r_21_9), (0, .ref h0), (1, .ref h6)]) hx hb dX4_seekExchange_26 rfl hl (by decide) rfl (fun ls hl => ?_)
  exact kL27 _ _ _ _ _ _ _ _ _ _ _ _ _ _ _ hf _ _ hP hD hS _ (lv_sub hl [2, 3, 1, 0] rfl)
theorem yk_X4_seekExchange : ykV yX4_seekExchange RX4 cX4_seekExchange 6 none 1 := ⟨wd_1195, wd_1196, wd_136, wd_1197, rfl, by decide +kernel, by decide +kernel, by decide +kernel⟩
