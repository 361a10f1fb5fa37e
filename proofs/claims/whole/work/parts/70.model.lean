theorem dX11_isIn_0 : decode cX11_isIn 0 = .ok (.iload_n 0, 1) := by decide +kernel
theorem dX11_isIn_1 : decode cX11_isIn 1 = .ok (.iload_n 1, 1) := by decide +kernel
theorem dX11_isIn_2 : decode cX11_isIn 2 = .ok (.if_icmp .lt 12, 3) := by decide +kernel
theorem dX11_isIn_5 : decode cX11_isIn 5 = .ok (.iload_n 0, 1) := by decide +kernel
theorem dX11_isIn_6 : decode cX11_isIn 6 = .ok (.iload_n 2, 1) := by decide +kernel
theorem dX11_isIn_7 : decode cX11_isIn 7 = .ok (.if_icmp .gt 7, 3) := by decide +kernel
theorem dX11_isIn_10 : decode cX11_isIn 10 = .ok (.iconst 1, 1) := by decide +kernel
theorem dX11_isIn_11 : decode cX11_isIn 11 = .ok (.goto 4, 3) := by decide +kernel
theorem dX11_isIn_14 : decode cX11_isIn 14 = .ok (.iconst 0, 1) := by decide +kernel
theorem dX11_isIn_15 : decode cX11_isIn 15 = .ok (.ireturn, 1) := by decide +kernel
set_option maxHeartbeats 4000000 in
set_option maxRecDepth 100000 in
theorem c_X11_isIn (l : Launch) (G : GG) (sz : Nat)  (F : Nat) (b0 : Int32) (b1 : Int32) (b2 : Int32)  (r0 : Int32) (hf : p_X11_isIn F b0 b1 b2 = some r0) : Met l yX11_isIn (.code yX11_isIn cX11_isIn 3 (some .boolean) :: gtbl) ({ frames := 0, cells := 0, slots := 0, locals := 0 } : Room) (PcS G [.int b0, .int b1, .int b2] [] sz) (QiS G r0 (va_A [] sz) []) 0 0 (va_A [] sz) := by
  refine met_start (by decide) (Nat.le_of_ble_eq_true rfl) ?_
  intro p e s m below meth c hC hr hlk hnm hK hP hD hA hS hX ls hl
  obtain ⟨hx, hb, hml, hown, ht0⟩ := hC
  have hown : s.vm.findClass RX11 = some m.cls := hown
  generalize va_A [] sz = A at hD hA hS hX ⊢
  have hl : lv_has ls 3 [(0, .int b0), (1, .int b1), (2, .int b2)] := hl
  have hf : p_X11_isIn F b0 b1 b2 = some r0 := hf
  refine lv_iload_n hx hb dX11_isIn_0 rfl (lv_at hl 0 rfl) ?_
  refine lv_iload_n hx hb dX11_isIn_1 rfl (lv_at hl 1 rfl) ?_
  refine lv_icmp_lt (tgt := 14) hx hb dX11_isIn_2 (by decide) (fun c1 => ?_) (fun c1 => ?_)
  · have hf := of_pos hf c1
    refine lv_iconst (v := (0 : Int32)) hx hb dX11_isIn_14 (by decide) ?_
    cases hf
    exact ret_z hx hb hr hlk hK hP hD hS (by decide) dX11_isIn_15
  · have hf := of_neg hf c1
    refine lv_iload_n hx hb dX11_isIn_5 rfl (lv_at hl 0 rfl) ?_
    refine lv_iload_n hx hb dX11_isIn_6 rfl (lv_at hl 2 rfl) ?_
    refine lv_icmp_gt (tgt := 14) hx hb dX11_isIn_7 (by decide) (fun c2 => ?_) (fun c2 => ?_)
    · have hf := of_pos hf c2
      refine lv_iconst (v := (0 : Int32)) hx hb dX11_isIn_14 (by decide) ?_
      cases hf
      exact ret_z hx hb hr hlk hK hP hD hS (by decide) dX11_isIn_15
    · have hf := of_neg hf c2
      refine lv_iconst (v := (1 : Int32)) hx hb dX11_isIn_10 (by decide) ?_
      refine lv_goto (tgt := 15) hx hb dX11_isIn_11 (by decide) ?_
      cases hf
      exact ret_z hx hb hr hlk hK hP hD hS (by decide) dX11_isIn_15
theorem yk_X11_isIn : ykS yX11_isIn cX11_isIn 3 (some .boolean) 3 := ⟨wd_1322, wd_142, wd_1323, by decide +kernel, by decide +kernel, by decide +kernel⟩
theorem dX11_less_0 : decode cX11_less 0 = .ok (.iload_n 0, 1) := by decide +kernel
theorem dX11_less_1 : decode cX11_less 1 = .ok (.iload_n 1, 1) := by decide +kernel
theorem dX11_less_2 : decode cX11_less 2 = .ok (.if_icmp .ge 7, 3) := by decide +kernel
theorem dX11_less_5 : decode cX11_less 5 = .ok (.iload_n 0, 1) := by decide +kernel
theorem dX11_less_6 : decode cX11_less 6 = .ok (.goto 4, 3) := by decide +kernel
theorem dX11_less_9 : decode cX11_less 9 = .ok (.iload_n 1, 1) := by decide +kernel
theorem dX11_less_10 : decode cX11_less 10 = .ok (.ireturn, 1) := by decide +kernel
set_option maxHeartbeats 4000000 in
set_option maxRecDepth 100000 in
theorem c_X11_less (l : Launch) (G : GG) (sz : Nat)  (F : Nat) (b0 : Int32) (b1 : Int32)  (r0 : Int32) (hf : p_X11_less F b0 b1 = some r0) : Met l yX11_less (.code yX11_less cX11_less 2 (some .int) :: gtbl) ({ frames := 0, cells := 0, slots := 0, locals := 0 } : Room) (PcS G [.int b0, .int b1] [] sz) (QiS G r0 (va_A [] sz) []) 0 0 (va_A [] sz) := by
  refine met_start (by decide) (Nat.le_of_ble_eq_true rfl) ?_
  intro p e s m below meth c hC hr hlk hnm hK hP hD hA hS hX ls hl
  obtain ⟨hx, hb, hml, hown, ht0⟩ := hC
  have hown : s.vm.findClass RX11 = some m.cls := hown
  generalize va_A [] sz = A at hD hA hS hX ⊢
  have hl : lv_has ls 2 [(0, .int b0), (1, .int b1)] := hl
  have hf : p_X11_less F b0 b1 = some r0 := hf
  refine lv_iload_n hx hb dX11_less_0 rfl (lv_at hl 0 rfl) ?_
  refine lv_iload_n hx hb dX11_less_1 rfl (lv_at hl 1 rfl) ?_
  refine lv_icmp_ge (tgt := 9) hx hb dX11_less_2 (by decide) (fun c1 => ?_) (fun c1 => ?_)
  · have hf := of_pos hf c1
    refine lv_iload_n hx hb dX11_less_9 rfl (lv_at hl 1 rfl) ?_
    cases hf
    exact ret_i hx hb hr hlk hK hP hD hS dX11_less_10
  · have hf := of_neg hf c1
    refine lv_iload_n hx hb dX11_less_5 rfl (lv_at hl 0 rfl) ?_
    refine lv_goto (tgt := 10) hx hb dX11_less_6 (by decide) ?_
    cases hf
    exact ret_i hx hb hr hlk hK hP hD hS dX11_less_10
theorem yk_X11_less : ykS yX11_less cX11_less 2 (some .int) 2 := ⟨wd_1803, wd_142, wd_1804, by decide +kernel, by decide +kernel, by decide +kernel⟩
theorem dX11_more_0 : decode cX11_more 0 = .ok (.iload_n 0, 1) := by decide +kernel
theorem dX11_more_1 : decode cX11_more 1 = .ok (.iload_n 1, 1) := by decide +kernel
theorem dX11_more_2 : decode cX11_more 2 = .ok (.if_icmp .le 7, 3) := by decide +kernel
theorem dX11_more_5 : decode cX11_more 5 = .ok (.iload_n 0, 1) := by decide +kernel
theorem dX11_more_6 : decode cX11_more 6 = .ok (.goto 4, 3) := by decide +kernel
theorem dX11_more_9 : decode cX11_more 9 = .ok (.iload_n 1, 1) := by decide +kernel
theorem dX11_more_10 : decode cX11_more 10 = .ok (.ireturn, 1) := by decide +kernel
set_option maxHeartbeats 4000000 in
set_option maxRecDepth 100000 in
theorem c_X11_more (l : Launch) (G : GG) (sz : Nat)  (F : Nat) (b0 : Int32) (b1 : Int32)  (r0 : Int32) (hf : p_X11_more F b0 b1 = some r0) : Met l yX11_more (.code yX11_more cX11_more 2 (some .int) :: gtbl) ({ frames := 0, cells := 0, slots := 0, locals := 0 } : Room) (PcS G [.int b0, .int b1] [] sz) (QiS G r0 (va_A [] sz) []) 0 0 (va_A [] sz) := by
  refine met_start (by decide) (Nat.le_of_ble_eq_true rfl) ?_
  intro p e s m below meth c hC hr hlk hnm hK hP hD hA hS hX ls hl
  obtain ⟨hx, hb, hml, hown, ht0⟩ := hC
  have hown : s.vm.findClass RX11 = some m.cls := hown
  generalize va_A [] sz = A at hD hA hS hX ⊢
  have hl : lv_has ls 2 [(0, .int b0), (1, .int b1)] := hl
  have hf : p_X11_more F b0 b1 = some r0 := hf
  refine lv_iload_n hx hb dX11_more_0 rfl (lv_at hl 0 rfl) ?_
  refine lv_iload_n hx hb dX11_more_1 rfl (lv_at hl 1 rfl) ?_
  refine lv_icmp_le (tgt := 9) hx hb dX11_more_2 (by decide) (fun c1 => ?_) (fun c1 => ?_)
  · have hf := of_pos hf c1
    refine lv_iload_n hx hb dX11_more_9 rfl (lv_at hl 1 rfl) ?_
    cases hf
    exact ret_i hx hb hr hlk hK hP hD hS dX11_more_10
  · have hf := of_neg hf c1
    refine lv_iload_n hx hb dX11_more_5 rfl (lv_at hl 0 rfl) ?_
    refine lv_goto (tgt := 10) hx hb dX11_more_6 (by decide) ?_
    cases hf
    exact ret_i hx hb hr hlk hK hP hD hS dX11_more_10
theorem yk_X11_more : ykS yX11_more cX11_more 2 (some .int) 2 := ⟨wd_1373, wd_142, wd_1374, by decide +kernel, by decide +kernel, by decide +kernel⟩
theorem dX11_ones_0 : decode cX11_ones 0 = .ok (.iconst 0, 1) := by decide +kernel
theorem dX11_ones_1 : decode cX11_ones 1 = .ok (.istore_n 1, 1) := by decide +kernel
theorem dX11_ones_2 : decode cX11_ones 2 = .ok (.iload_n 0, 1) := by decide +kernel
theorem dX11_ones_3 : decode cX11_ones 3 = .ok (.istore_n 2, 1) := by decide +kernel
theorem dX11_ones_4 : decode cX11_ones 4 = .ok (.iload_n 2, 1) := by decide +kernel
theorem dX11_ones_5 : decode cX11_ones 5 = .ok (.ifCond .eq 15, 3) := by decide +kernel
theorem dX11_ones_8 : decode cX11_ones 8 = .ok (.iinc 1 1, 3) := by decide +kernel
theorem dX11_ones_11 : decode cX11_ones 11 = .ok (.iload_n 2, 1) := by decide +kernel
theorem dX11_ones_12 : decode cX11_ones 12 = .ok (.iload_n 2, 1) := by decide +kernel
theorem dX11_ones_13 : decode cX11_ones 13 = .ok (.iconst 1, 1) := by decide +kernel
theorem dX11_ones_14 : decode cX11_ones 14 = .ok (.isub, 1) := by decide +kernel
theorem dX11_ones_15 : decode cX11_ones 15 = .ok (.iand, 1) := by decide +kernel
theorem dX11_ones_16 : decode cX11_ones 16 = .ok (.istore_n 2, 1) := by decide +kernel
theorem dX11_ones_17 : decode cX11_ones 17 = .ok (.goto (-13), 3) := by decide +kernel
theorem dX11_ones_20 : decode cX11_ones 20 = .ok (.iload_n 1, 1) := by decide +kernel
theorem dX11_ones_21 : decode cX11_ones 21 = .ok (.ireturn, 1) := by decide +kernel
set_option maxHeartbeats 4000000 in
set_option maxRecDepth 100000 in
theorem c_X11_ones (l : Launch) (G : GG) (sz : Nat)  (F : Nat) (b0 : Int32)  (r0 : Int32) (hf : p_X11_ones F b0 = some r0) : Met l yX11_ones (.code yX11_ones cX11_ones 3 (some .int) :: gtbl) ({ frames := 0, cells := 0, slots := 0, locals := 0 } : Room) (PcS G [.int b0] [] sz) (QiS G r0 (va_A [] sz) []) 0 0 (va_A [] sz) := by
  refine met_start (by decide) (Nat.le_of_ble_eq_true rfl) ?_
  intro p e s m below meth c hC hr hlk hnm hK hP hD hA hS hX ls hl
  obtain ⟨hx, hb, hml, hown, ht0⟩ := hC
  have hown : s.vm.findClass RX11 = some m.cls := hown
  generalize va_A [] sz = A at hD hA hS hX ⊢
  have hl : lv_has ls 3 [(0, .int b0)] := hl
  have hf : p_X11_ones F b0 = some r0 := hf
  have kL4 : ∀ (n4 : Nat) (u4_1 : Int32) (u4_2 : Int32), p_X11_ones_L4 F n4 u4_1 u4_2 = some r0 → ∀ (H : Heap) (locs : List Loc), va_P G.1 vwCl [] H → va_D A [] → va_S A s.heap H locs → ∀ ls : Array Slot, lv_has ls 3 [(1, .int u4_1), (2, .int u4_2)] → W p l e ({ frames := 0, cells := 0, slots := 0, locals := 0 } : Room) s m (List.toArray [.int b0]) below meth c H locs 0 0 (MQ below (QiS G r0 A []) (List.toArray [.int b0]) s 0 0 A) (F0 m 4 ls []) := by
    intro n4
    induction n4 with
    | zero =>
      intro u4_1 u4_2 hf
      cases hf
    | succ n4 ih4 =>
      intro u4_1 u4_2 hf H locs hP hD hS ls hl
      have hf : p_X11_ones_L4b F (p_X11_ones_L4 F n4) u4_1 u4_2 = some r0 := hf
      refine lv_iload_n hx hb dX11_ones_4 rfl (lv_at hl 1 rfl) ?_
      refine lv_if_eq (tgt := 20) hx hb dX11_ones_5 (by decide) (fun c1 => ?_) (fun c1 => ?_)
      · have hf := of_pos hf c1
        refine lv_iload_n hx hb dX11_ones_20 rfl (lv_at hl 0 rfl) ?_
        cases hf
        exact ret_i hx hb hr hlk hK hP hD hS dX11_ones_21
      · have hf := of_neg hf c1
        refine lv_iinc (v := u4_1 + (1 : Int32)) (lv' := [(1, .int (u4_1 + (1 : Int32))), (2, .int u4_2)]) hx hb dX11_ones_8 hl (k := 0) rfl (by rfl) (by decide) rfl (fun ls hl => ?_)
        refine lv_iload_n hx hb dX11_ones_11 rfl (lv_at hl 1 rfl) ?_
        refine lv_iload_n hx hb dX11_ones_12 rfl (lv_at hl 1 rfl) ?_
        refine lv_iconst (v := (1 : Int32)) hx hb dX11_ones_13 (by decide) ?_
        refine lv_isub hx hb dX11_ones_14 ?_
        refine lv_iand hx hb dX11_ones_15 ?_
        refine lv_istore_n (lv' := [(2, .int (u4_2 &&& (u4_2 - (1 : Int32)))), (1, .int (u4_1 + (1 : Int32)))]) hx hb dX11_ones_16 rfl hl (by decide) rfl (fun ls hl => ?_)
        refine lv_goto (tgt := 4) hx hb dX11_ones_17 (by decide) ?_
        exact ih4 _ _ hf _ _ hP hD hS _ (lv_sub hl [1, 0] rfl)
  refine lv_iconst (v := (0 : Int32)) hx hb dX11_ones_0 (by decide) ?_
  refine lv_istore_n (lv' := [(1, .int (0 : Int32)), (0, .int b0)]) hx hb dX11_ones_1 rfl hl (by decide) rfl (fun ls hl => ?_)
  refine lv_iload_n hx hb dX11_ones_2 rfl (lv_at hl 1 rfl) ?_
  refine lv_istore_n (lv' := [(2, .int b0), (1, .int (0 : Int32)), (0, .int b0)]) hx hb dX11_ones_3 rfl hl (by decide) rfl (fun ls hl => ?_)
  exact kL4 _ _ _ hf _ _ hP hD hS _ (lv_sub hl [1, 0] rfl)
theorem yk_X11_ones : ykS yX11_ones cX11_ones 3 (some .int) 1 := ⟨wd_1345, wd_142, wd_1346, by decide +kernel, by decide +kernel, by decide +kernel⟩
theorem dX11_clearBank_0 : decode cX11_clearBank 0 = .ok (.aload_n 0, 1) := by decide +kernel
theorem dX11_clearBank_1 : decode cX11_clearBank 1 = .ok (.getfield 13, 3) := by decide +kernel
theorem dX11_clearBank_4 : decode cX11_clearBank 4 = .ok (.iload_n 1, 1) := by decide +kernel
theorem dX11_clearBank_5 : decode cX11_clearBank 5 = .ok (.bipush 8, 2) := by decide +kernel
theorem dX11_clearBank_7 : decode cX11_clearBank 7 = .ok (.iastore, 1) := by decide +kernel
theorem dX11_clearBank_8 : decode cX11_clearBank 8 = .ok (.aload_n 0, 1) := by decide +kernel
theorem dX11_clearBank_9 : decode cX11_clearBank 9 = .ok (.getfield 16, 3) := by decide +kernel
theorem dX11_clearBank_12 : decode cX11_clearBank 12 = .ok (.iload_n 1, 1) := by decide +kernel
theorem dX11_clearBank_13 : decode cX11_clearBank 13 = .ok (.iconst 5, 1) := by decide +kernel
theorem dX11_clearBank_14 : decode cX11_clearBank 14 = .ok (.iastore, 1) := by decide +kernel
theorem dX11_clearBank_15 : decode cX11_clearBank 15 = .ok (.aload_n 0, 1) := by decide +kernel
theorem dX11_clearBank_16 : decode cX11_clearBank 16 = .ok (.getfield 19, 3) := by decide +kernel
theorem dX11_clearBank_19 : decode cX11_clearBank 19 = .ok (.iload_n 1, 1) := by decide +kernel
theorem dX11_clearBank_20 : decode cX11_clearBank 20 = .ok (.iconst 0, 1) := by decide +kernel
theorem dX11_clearBank_21 : decode cX11_clearBank 21 = .ok (.iastore, 1) := by decide +kernel
theorem dX11_clearBank_22 : decode cX11_clearBank 22 = .ok (.iconst 0, 1) := by decide +kernel
theorem dX11_clearBank_23 : decode cX11_clearBank 23 = .ok (.istore_n 2, 1) := by decide +kernel
theorem dX11_clearBank_24 : decode cX11_clearBank 24 = .ok (.iload_n 2, 1) := by decide +kernel
theorem dX11_clearBank_25 : decode cX11_clearBank 25 = .ok (.bipush 121, 2) := by decide +kernel
theorem dX11_clearBank_27 : decode cX11_clearBank 27 = .ok (.if_icmp .ge 21, 3) := by decide +kernel
theorem dX11_clearBank_30 : decode cX11_clearBank 30 = .ok (.aload_n 0, 1) := by decide +kernel
theorem dX11_clearBank_31 : decode cX11_clearBank 31 = .ok (.getfield 22, 3) := by decide +kernel
theorem dX11_clearBank_34 : decode cX11_clearBank 34 = .ok (.bipush 121, 2) := by decide +kernel
theorem dX11_clearBank_36 : decode cX11_clearBank 36 = .ok (.iload_n 1, 1) := by decide +kernel
theorem dX11_clearBank_37 : decode cX11_clearBank 37 = .ok (.imul, 1) := by decide +kernel
theorem dX11_clearBank_38 : decode cX11_clearBank 38 = .ok (.iload_n 2, 1) := by decide +kernel
theorem dX11_clearBank_39 : decode cX11_clearBank 39 = .ok (.iadd, 1) := by decide +kernel
theorem dX11_clearBank_40 : decode cX11_clearBank 40 = .ok (.iconst 0, 1) := by decide +kernel
theorem dX11_clearBank_41 : decode cX11_clearBank 41 = .ok (.iastore, 1) := by decide +kernel
theorem dX11_clearBank_42 : decode cX11_clearBank 42 = .ok (.iinc 2 1, 3) := by decide +kernel
theorem dX11_clearBank_45 : decode cX11_clearBank 45 = .ok (.goto (-21), 3) := by decide +kernel
theorem dX11_clearBank_48 : decode cX11_clearBank 48 = .ok (.aload_n 0, 1) := by decide +kernel
theorem dX11_clearBank_49 : decode cX11_clearBank 49 = .ok (.iconst 0, 1) := by decide +kernel
theorem dX11_clearBank_50 : decode cX11_clearBank 50 = .ok (.putfield 104, 3) := by decide +kernel
theorem dX11_clearBank_53 : decode cX11_clearBank 53 = .ok (.aload_n 0, 1) := by decide +kernel
theorem dX11_clearBank_54 : decode cX11_clearBank 54 = .ok (.iconst 0, 1) := by decide +kernel
theorem dX11_clearBank_55 : decode cX11_clearBank 55 = .ok (.putfield 107, 3) := by decide +kernel
theorem dX11_clearBank_58 : decode cX11_clearBank 58 = .ok (.aload_n 0, 1) := by decide +kernel
theorem dX11_clearBank_59 : decode cX11_clearBank 59 = .ok (.iconst 0, 1) := by decide +kernel
theorem dX11_clearBank_60 : decode cX11_clearBank 60 = .ok (.putfield 111, 3) := by decide +kernel
theorem dX11_clearBank_63 : decode cX11_clearBank 63 = .ok (.aload_n 0, 1) := by decide +kernel
theorem dX11_clearBank_64 : decode cX11_clearBank 64 = .ok (.iconst (-1), 1) := by decide +kernel
theorem dX11_clearBank_65 : decode cX11_clearBank 65 = .ok (.putfield 114, 3) := by decide +kernel
theorem dX11_clearBank_68 : decode cX11_clearBank 68 = .ok (.return_, 1) := by decide +kernel
def wW_X11_clearBank (G : GG) (h0 h1 h2 h3 h4 y0_0 y0_6 y0_18 y0_21 y0_22 y0_23 y0_24 y0_25 y0_26 y0_33 y0_34 y0_38 y0_39 y0_40 y0_41 y0_42 y0_43 y0_45 y0_46 y0_47 y0_48 : Nat) (x0_5 : Int32) (x0_7 : Int32) (x0_8 : Int32) (x0_9 : Int32) (x0_10 : Int32) (x0_11 : Int32) (x0_12 : Int32) (x0_13 : Int32) (x0_14 : Int32) (x0_15 : Int32) (x0_16 : Int32) (x0_17 : Int32) (x0_19 : Int32) (x0_20 : Int32) (x0_27 : Int32) (x0_28 : Int32) (x0_29 : Int32) (x0_30 : Int32) (x0_31 : Int32) (x0_32 : Int32) (x0_35 : Int32) (x0_36 : Int32) (x0_37 : Int32) (x0_44 : Int32) (x0_49 : Int32) (x0_50 : Int32) (a1 : Nat → Int32) (a2 : Nat → Int32) (a3 : Nat → Int32) (a4 : Nat → Int32) : va_W := [(h0, .inr (11, [.ref y0_0, .ref h1, .ref h2, .ref h3, .ref h4, .int x0_5, .ref y0_6, .int x0_7, .int x0_8, .int x0_9, .int x0_10, .int x0_11, .int x0_12, .int x0_13, .int x0_14, .int x0_15, .int x0_16, .int x0_17, .ref y0_18, .int x0_19, .int x0_20, .ref y0_21, .ref y0_22, .ref y0_23, .ref y0_24, .ref y0_25, .ref y0_26, .int x0_27, .int x0_28, .int x0_29, .int x0_30, .int x0_31, .int x0_32, .ref y0_33, .ref y0_34, .int x0_35, .int x0_36, .int x0_37, .ref y0_38, .ref y0_39, .ref y0_40, .ref y0_41, .ref y0_42, .ref y0_43, .int x0_44, .ref y0_45, .ref y0_46, .ref y0_47, .ref y0_48, .int x0_49, .int x0_50])), (h1, .inl (G.2.1, 2, .inl a1)), (h2, .inl (G.2.1, 2, .inl a2)), (h3, .inl (G.2.1, 2, .inl a3)), (h4, .inl (G.2.1, 242, .inl a4))]
set_option maxHeartbeats 4000000 in
set_option maxRecDepth 100000 in
theorem c_X11_clearBank (l : Launch) (G : GG) (h0 h1 h2 h3 h4 y0_0 y0_6 y0_18 y0_21 y0_22 y0_23 y0_24 y0_25 y0_26 y0_33 y0_34 y0_38 y0_39 y0_40 y0_41 y0_42 y0_43 y0_45 y0_46 y0_47 y0_48 : Nat) (sz : Nat) (x0_5 : Int32) (x0_7 : Int32) (x0_8 : Int32) (x0_9 : Int32) (x0_10 : Int32) (x0_11 : Int32) (x0_12 : Int32) (x0_13 : Int32) (x0_14 : Int32) (x0_15 : Int32) (x0_16 : Int32) (x0_17 : Int32) (x0_19 : Int32) (x0_20 : Int32) (x0_27 : Int32) (x0_28 : Int32) (x0_29 : Int32) (x0_30 : Int32) (x0_31 : Int32) (x0_32 : Int32) (x0_35 : Int32) (x0_36 : Int32) (x0_37 : Int32) (x0_44 : Int32) (x0_49 : Int32) (x0_50 : Int32) (a1 : Nat → Int32) (a2 : Nat → Int32) (a3 : Nat → Int32) (a4 : Nat → Int32) (F : Nat) (b1 : Int32)  (e_x0_14 : Int32) (e_x0_15 : Int32) (e_x0_19 : Int32) (e_x0_20 : Int32) (e_a1 : Nat → Int32) (e_a2 : Nat → Int32) (e_a3 : Nat → Int32) (e_a4 : Nat → Int32) (hf : p_X11_clearBank F x0_14 x0_15 x0_19 x0_20 a1 a2 a3 a4 b1 = some (e_x0_14, e_x0_15, e_x0_19, e_x0_20, e_a1, e_a2, e_a3, e_a4)) : Met l yX11_clearBank (.code yX11_clearBank cX11_clearBank 3 none :: gtbl) ({ frames := 0, cells := 0, slots := 0, locals := 0 } : Room) (PcS G [.ref h0, .int b1] (wW_X11_clearBank G h0 h1 h2 h3 h4 y0_0 y0_6 y0_18 y0_21 y0_22 y0_23 y0_24 y0_25 y0_26 y0_33 y0_34 y0_38 y0_39 y0_40 y0_41 y0_42 y0_43 y0_45 y0_46 y0_47 y0_48 x0_5 x0_7 x0_8 x0_9 x0_10 x0_11 x0_12 x0_13 x0_14 x0_15 x0_16 x0_17 x0_19 x0_20 x0_27 x0_28 x0_29 x0_30 x0_31 x0_32 x0_35 x0_36 x0_37 x0_44 x0_49 x0_50 a1 a2 a3 a4) sz) (QvS G (va_A (wW_X11_clearBank G h0 h1 h2 h3 h4 y0_0 y0_6 y0_18 y0_21 y0_22 y0_23 y0_24 y0_25 y0_26 y0_33 y0_34 y0_38 y0_39 y0_40 y0_41 y0_42 y0_43 y0_45 y0_46 y0_47 y0_48 x0_5 x0_7 x0_8 x0_9 x0_10 x0_11 x0_12 x0_13 x0_14 x0_15 x0_16 x0_17 x0_19 x0_20 x0_27 x0_28 x0_29 x0_30 x0_31 x0_32 x0_35 x0_36 x0_37 x0_44 x0_49 x0_50 a1 a2 a3 a4) sz) (wW_X11_clearBank G h0 h1 h2 h3 h4 y0_0 y0_6 y0_18 y0_21 y0_22 y0_23 y0_24 y0_25 y0_26 y0_33 y0_34 y0_38 y0_39 y0_40 y0_41 y0_42 y0_43 y0_45 y0_46 y0_47 y0_48 x0_5 x0_7 x0_8 x0_9 x0_10 x0_11 x0_12 x0_13 e_x0_14 e_x0_15 x0_16 x0_17 e_x0_19 e_x0_20 x0_27 x0_28 x0_29 x0_30 x0_31 x0_32 x0_35 x0_36 x0_37 x0_44 x0_49 x0_50 e_a1 e_a2 e_a3 e_a4)) 0 0 (va_A (wW_X11_clearBank G h0 h1 h2 h3 h4 y0_0 y0_6 y0_18 y0_21 y0_22 y0_23 y0_24 y0_25 y0_26 y0_33 y0_34 y0_38 y0_39 y0_40 y0_41 y0_42 y0_43 y0_45 y0_46 y0_47 y0_48 x0_5 x0_7 x0_8 x0_9 x0_10 x0_11 x0_12 x0_13 x0_14 x0_15 x0_16 x0_17 x0_19 x0_20 x0_27 x0_28 x0_29 x0_30 x0_31 x0_32 x0_35 x0_36 x0_37 x0_44 x0_49 x0_50 a1 a2 a3 a4) sz) := by
  refine met_start (by decide) (Nat.le_of_ble_eq_true rfl) ?_
  intro p e s m below meth c hC hr hlk hnm hK hP hD hA hS hX ls hl
  obtain ⟨hx, hb, hml, hown, ht0⟩ := hC
  have hown : s.vm.findClass RX11 = some m.cls := hown
  generalize va_A (wW_X11_clearBank G h0 h1 h2 h3 h4 y0_0 y0_6 y0_18 y0_21 y0_22 y0_23 y0_24 y0_25 y0_26 y0_33 y0_34 y0_38 y0_39 y0_40 y0_41 y0_42 y0_43 y0_45 y0_46 y0_47 y0_48 x0_5 x0_7 x0_8 x0_9 x0_10 x0_11 x0_12 x0_13 x0_14 x0_15 x0_16 x0_17 x0_19 x0_20 x0_27 x0_28 x0_29 x0_30 x0_31 x0_32 x0_35 x0_36 x0_37 x0_44 x0_49 x0_50 a1 a2 a3 a4) sz = A at hD hA hS hX ⊢
  have hl : lv_has ls 3 [(0, .ref h0), (1, .int b1)] := hl
  have hf : p_X11_clearBank F x0_14 x0_15 x0_19 x0_20 a1 a2 a3 a4 b1 = some (e_x0_14, e_x0_15, e_x0_19, e_x0_20, e_a1, e_a2, e_a3, e_a4) := hf
  have kL24 : ∀ (c24_1 : Int32) (n24 : Nat) (u24_2 : Int32) (x0_14_24 : Int32) (x0_15_24 : Int32) (x0_19_24 : Int32) (x0_20_24 : Int32) (a1_24 : Nat → Int32) (a2_24 : Nat → Int32) (a3_24 : Nat → Int32) (a4_24 : Nat → Int32), p_X11_clearBank_L24 F c24_1 n24 u24_2 x0_14_24 x0_15_24 x0_19_24 x0_20_24 a1_24 a2_24 a3_24 a4_24 = some (e_x0_14, e_x0_15, e_x0_19, e_x0_20, e_a1, e_a2, e_a3, e_a4) → ∀ (H : Heap) (locs : List Loc), va_P G.1 vwCl (wW_X11_clearBank G h0 h1 h2 h3 h4 y0_0 y0_6 y0_18 y0_21 y0_22 y0_23 y0_24 y0_25 y0_26 y0_33 y0_34 y0_38 y0_39 y0_40 y0_41 y0_42 y0_43 y0_45 y0_46 y0_47 y0_48 x0_5 x0_7 x0_8 x0_9 x0_10 x0_11 x0_12 x0_13 x0_14_24 x0_15_24 x0_16 x0_17 x0_19_24 x0_20_24 x0_27 x0_28 x0_29 x0_30 x0_31 x0_32 x0_35 x0_36 x0_37 x0_44 x0_49 x0_50 a1_24 a2_24 a3_24 a4_24) H → va_D A (wW_X11_clearBank G h0 h1 h2 h3 h4 y0_0 y0_6 y0_18 y0_21 y0_22 y0_23 y0_24 y0_25 y0_26 y0_33 y0_34 y0_38 y0_39 y0_40 y0_41 y0_42 y0_43 y0_45 y0_46 y0_47 y0_48 x0_5 x0_7 x0_8 x0_9 x0_10 x0_11 x0_12 x0_13 x0_14_24 x0_15_24 x0_16 x0_17 x0_19_24 x0_20_24 x0_27 x0_28 x0_29 x0_30 x0_31 x0_32 x0_35 x0_36 x0_37 x0_44 x0_49 x0_50 a1_24 a2_24 a3_24 a4_24) → va_S A s.heap H locs → ∀ ls : Array Slot, lv_has ls 3 [(0, .ref h0), (1, .int c24_1), (2, .int u24_2)] → W p l e ({ frames := 0, cells := 0, slots := 0, locals := 0 } : Room) s m (List.toArray [.ref h0, .int b1]) below meth c H locs 0 0 (MQ below (QvS G A (wW_X11_clearBank G h0 h1 h2 h3 h4 y0_0 y0_6 y0_18 y0_21 y0_22 y0_23 y0_24 y0_25 y0_26 y0_33 y0_34 y0_38 y0_39 y0_40 y0_41 y0_42 y0_43 y0_45 y0_46 y0_47 y0_48 x0_5 x0_7 x0_8 x0_9 x0_10 x0_11 x0_12 x0_13 e_x0_14 e_x0_15 x0_16 x0_17 e_x0_19 e_x0_20 x0_27 x0_28 x0_29 x0_30 x0_31 x0_32 x0_35 x0_36 x0_37 x0_44 x0_49 x0_50 e_a1 e_a2 e_a3 e_a4)) (List.toArray [.ref h0, .int b1]) s 0 0 A) (F0 m 24 ls []) := by
    intro c24_1 n24
    induction n24 with
    | zero =>
      intro u24_2 x0_14_24 x0_15_24 x0_19_24 x0_20_24 a1_24 a2_24 a3_24 a4_24 hf
      cases hf
    | succ n24 ih24 =>
      intro u24_2 x0_14_24 x0_15_24 x0_19_24 x0_20_24 a1_24 a2_24 a3_24 a4_24 hf H locs hP hD hS ls hl
      have hf : p_X11_clearBank_L24b F c24_1 (p_X11_clearBank_L24 F c24_1 n24) u24_2 x0_14_24 x0_15_24 x0_19_24 x0_20_24 a1_24 a2_24 a3_24 a4_24 = some (e_x0_14, e_x0_15, e_x0_19, e_x0_20, e_a1, e_a2, e_a3, e_a4) := hf
      refine lv_iload_n hx hb dX11_clearBank_24 rfl (lv_at hl 2 rfl) ?_
      refine lv_bipush (v := (121 : Int32)) hx hb dX11_clearBank_25 (by decide) ?_
      refine lv_icmp_ge (tgt := 48) hx hb dX11_clearBank_27 (by decide) (fun c1 => ?_) (fun c1 => ?_)
      · have hf := of_pos hf c1
        refine lv_aload_n hx hb dX11_clearBank_48 rfl (lv_at hl 0 rfl) ?_
        refine lv_iconst (v := (0 : Int32)) hx hb dX11_clearBank_49 (by decide) ?_
        refine va_put (ci := 11) (v := .int (0 : Int32)) (ty := .int) (C := RX11) (T := TX11) (N := 51) hx hb ht0 iX11 tyX11 tyX11_ok nmX11 hown hK hP hD hS 0 rfl rfl 19 (by decide) (ht0 _ wd_1425) (fun _ h9 => h9) rfl rfl rfl rfl (Nat.le_of_ble_eq_true rfl) dX11_clearBank_50 (fun H locs hP hD hS => ?_)
        have hP : va_P G.1 vwCl (wW_X11_clearBank G h0 h1 h2 h3 h4 y0_0 y0_6 y0_18 y0_21 y0_22 y0_23 y0_24 y0_25 y0_26 y0_33 y0_34 y0_38 y0_39 y0_40 y0_41 y0_42 y0_43 y0_45 y0_46 y0_47 y0_48 x0_5 x0_7 x0_8 x0_9 x0_10 x0_11 x0_12 x0_13 x0_14_24 x0_15_24 x0_16 x0_17 (0 : Int32) x0_20_24 x0_27 x0_28 x0_29 x0_30 x0_31 x0_32 x0_35 x0_36 x0_37 x0_44 x0_49 x0_50 a1_24 a2_24 a3_24 a4_24) H := hP
        have hD : va_D A (wW_X11_clearBank G h0 h1 h2 h3 h4 y0_0 y0_6 y0_18 y0_21 y0_22 y0_23 y0_24 y0_25 y0_26 y0_33 y0_34 y0_38 y0_39 y0_40 y0_41 y0_42 y0_43 y0_45 y0_46 y0_47 y0_48 x0_5 x0_7 x0_8 x0_9 x0_10 x0_11 x0_12 x0_13 x0_14_24 x0_15_24 x0_16 x0_17 (0 : Int32) x0_20_24 x0_27 x0_28 x0_29 x0_30 x0_31 x0_32 x0_35 x0_36 x0_37 x0_44 x0_49 x0_50 a1_24 a2_24 a3_24 a4_24) := hD
        refine lv_aload_n hx hb dX11_clearBank_53 rfl (lv_at hl 0 rfl) ?_
        refine lv_iconst (v := (0 : Int32)) hx hb dX11_clearBank_54 (by decide) ?_
        refine va_put (ci := 11) (v := .int (0 : Int32)) (ty := .boolean) (C := RX11) (T := TX11) (N := 51) hx hb ht0 iX11 tyX11 tyX11_ok nmX11 hown hK hP hD hS 0 rfl rfl 20 (by decide) (ht0 _ wd_1426) (fun _ h9 => h9) rfl rfl rfl rfl (Nat.le_of_ble_eq_true rfl) dX11_clearBank_55 (fun H locs hP hD hS => ?_)
        have hP : va_P G.1 vwCl (wW_X11_clearBank G h0 h1 h2 h3 h4 y0_0 y0_6 y0_18 y0_21 y0_22 y0_23 y0_24 y0_25 y0_26 y0_33 y0_34 y0_38 y0_39 y0_40 y0_41 y0_42 y0_43 y0_45 y0_46 y0_47 y0_48 x0_5 x0_7 x0_8 x0_9 x0_10 x0_11 x0_12 x0_13 x0_14_24 x0_15_24 x0_16 x0_17 (0 : Int32) (0 : Int32) x0_27 x0_28 x0_29 x0_30 x0_31 x0_32 x0_35 x0_36 x0_37 x0_44 x0_49 x0_50 a1_24 a2_24 a3_24 a4_24) H := hP
        have hD : va_D A (wW_X11_clearBank G h0 h1 h2 h3 h4 y0_0 y0_6 y0_18 y0_21 y0_22 y0_23 y0_24 y0_25 y0_26 y0_33 y0_34 y0_38 y0_39 y0_40 y0_41 y0_42 y0_43 y0_45 y0_46 y0_47 y0_48 x0_5 x0_7 x0_8 x0_9 x0_10 x0_11 x0_12 x0_13 x0_14_24 x0_15_24 x0_16 x0_17 (0 : Int32) (0 : Int32) x0_27 x0_28 x0_29 x0_30 x0_31 x0_32 x0_35 x0_36 x0_37 x0_44 x0_49 x0_50 a1_24 a2_24 a3_24 a4_24) := hD
        refine lv_aload_n hx hb dX11_clearBank_58 rfl (lv_at hl 0 rfl) ?_
        refine lv_iconst (v := (0 : Int32)) hx hb dX11_clearBank_59 (by decide) ?_
        refine va_put (ci := 11) (v := .int (0 : Int32)) (ty := .int) (C := RX11) (T := TX11) (N := 51) hx hb ht0 iX11 tyX11 tyX11_ok nmX11 hown hK hP hD hS 0 rfl rfl 14 (by decide) (ht0 _ wd_1420) (fun _ h9 => h9) rfl rfl rfl rfl (Nat.le_of_ble_eq_true rfl) dX11_clearBank_60 (fun H locs hP hD hS => ?_)
        have hP : va_P G.1 vwCl (wW_X11_clearBank G h0 h1 h2 h3 h4 y0_0 y0_6 y0_18 y0_21 y0_22 y0_23 y0_24 y0_25 y0_26 y0_33 y0_34 y0_38 y0_39 y0_40 y0_41 y0_42 y0_43 y0_45 y0_46 y0_47 y0_48 x0_5 x0_7 x0_8 x0_9 x0_10 x0_11 x0_12 x0_13 (0 : Int32) x0_15_24 x0_16 x0_17 (0 : Int32) (0 : Int32) x0_27 x0_28 x0_29 x0_30 x0_31 x0_32 x0_35 x0_36 x0_37 x0_44 x0_49 x0_50 a1_24 a2_24 a3_24 a4_24) H := hP
        have hD : va_D A (wW_X11_clearBank G h0 h1 h2 h3 h4 y0_0 y0_6 y0_18 y0_21 y0_22 y0_23 y0_24 y0_25 y0_26 y0_33 y0_34 y0_38 y0_39 y0_40 y0_41 y0_42 y0_43 y0_45 y0_46 y0_47 y0_48 x0_5 x0_7 x0_8 x0_9 x0_10 x0_11 x0_12 x0_13 (0 : Int32) x0_15_24 x0_16 x0_17 (0 : Int32) (0 : Int32) x0_27 x0_28 x0_29 x0_30 x0_31 x0_32 x0_35 x0_36 x0_37 x0_44 x0_49 x0_50 a1_24 a2_24 a3_24 a4_24) := hD
        refine lv_aload_n hx hb dX11_clearBank_63 rfl (lv_at hl 0 rfl) ?_
        refine lv_iconst (v := (-1 : Int32)) hx hb dX11_clearBank_64 (by decide) ?_
        refine va_put (ci := 11) (v := .int (-1 : Int32)) (ty := .int) (C := RX11) (T := TX11) (N := 51) hx hb ht0 iX11 tyX11 tyX11_ok nmX11 hown hK hP hD hS 0 rfl rfl 15 (by decide) (ht0 _ wd_1421) (fun _ h9 => h9) rfl rfl rfl rfl (Nat.le_of_ble_eq_true rfl) dX11_clearBank_65 (fun H locs hP hD hS => ?_)
        have hP : va_P G.1 vwCl (wW_X11_clearBank G h0 h1 h2 h3 h4 y0_0 y0_6 y0_18 y0_21 y0_22 y0_23 y0_24 y0_25 y0_26 y0_33 y0_34 y0_38 y0_39 y0_40 y0_41 y0_42 y0_43 y0_45 y0_46 y0_47 y0_48 x0_5 x0_7 x0_8 x0_9 x0_10 x0_11 x0_12 x0_13 (0 : Int32) (-1 : Int32) x0_16 x0_17 (0 : Int32) (0 : Int32) x0_27 x0_28 x0_29 x0_30 x0_31 x0_32 x0_35 x0_36 x0_37 x0_44 x0_49 x0_50 a1_24 a2_24 a3_24 a4_24) H := hP
        have hD : va_D A (wW_X11_clearBank G h0 h1 h2 h3 h4 y0_0 y0_6 y0_18 y0_21 y0_22 y0_23 y0_24 y0_25 y0_26 y0_33 y0_34 y0_38 y0_39 y0_40 y0_41 y0_42 y0_43 y0_45 y0_46 y0_47 y0_48 x0_5 x0_7 x0_8 x0_9 x0_10 x0_11 x0_12 x0_13 (0 : Int32) (-1 : Int32) x0_16 x0_17 (0 : Int32) (0 : Int32) x0_27 x0_28 x0_29 x0_30 x0_31 x0_32 x0_35 x0_36 x0_37 x0_44 x0_49 x0_50 a1_24 a2_24 a3_24 a4_24) := hD
        cases hf
        exact ret_v hx hb hr hlk hK hP hD hS dX11_clearBank_68
      · have hf := of_neg hf c1
        refine lv_aload_n hx hb dX11_clearBank_30 rfl (lv_at hl 0 rfl) ?_
        refine va_get (ci := 11) (v := .ref h4) (C := RX11) (T := TX11) (N := 51) hx hb ht0 iX11 hown hK hP 0 rfl rfl 4 (by decide) (ht0 _ wd_1410) (fun _ h9 => h9) rfl dX11_clearBank_31 ?_
        refine lv_bipush (v := (121 : Int32)) hx hb dX11_clearBank_34 (by decide) ?_
        refine lv_iload_n hx hb dX11_clearBank_36 rfl (lv_at hl 1 rfl) ?_
        refine lv_imul hx hb dX11_clearBank_37 ?_
        refine lv_iload_n hx hb dX11_clearBank_38 rfl (lv_at hl 2 rfl) ?_
        refine lv_iadd hx hb dX11_clearBank_39 ?_
        refine lv_iconst (v := (0 : Int32)) hx hb dX11_clearBank_40 (by decide) ?_
        obtain ⟨g2, hf⟩ := of_grd hf
        refine va_iast hx hb hK hP hD hS 4 0 rfl rfl g2 dX11_clearBank_41 (fun H locs hP hD hS => ?_)
        have hP : va_P G.1 vwCl (wW_X11_clearBank G h0 h1 h2 h3 h4 y0_0 y0_6 y0_18 y0_21 y0_22 y0_23 y0_24 y0_25 y0_26 y0_33 y0_34 y0_38 y0_39 y0_40 y0_41 y0_42 y0_43 y0_45 y0_46 y0_47 y0_48 x0_5 x0_7 x0_8 x0_9 x0_10 x0_11 x0_12 x0_13 x0_14_24 x0_15_24 x0_16 x0_17 x0_19_24 x0_20_24 x0_27 x0_28 x0_29 x0_30 x0_31 x0_32 x0_35 x0_36 x0_37 x0_44 x0_49 x0_50 a1_24 a2_24 a3_24 (upd a4_24 (((121 : Int32) * c24_1) + u24_2).toNatClampNeg (0 : Int32))) H := hP
        have hD : va_D A (wW_X11_clearBank G h0 h1 h2 h3 h4 y0_0 y0_6 y0_18 y0_21 y0_22 y0_23 y0_24 y0_25 y0_26 y0_33 y0_34 y0_38 y0_39 y0_40 y0_41 y0_42 y0_43 y0_45 y0_46 y0_47 y0_48 x0_5 x0_7 x0_8 x0_9 x0_10 x0_11 x0_12 x0_13 x0_14_24 x0_15_24 x0_16 x0_17 x0_19_24 x0_20_24 x0_27 x0_28 x0_29 x0_30 x0_31 x0_32 x0_35 x0_36 x0_37 x0_44 x0_49 x0_50 a1_24 a2_24 a3_24 (upd a4_24 (((121 : Int32) * c24_1) + u24_2).toNatClampNeg (0 : Int32))) := hD
        refine lv_iinc (v := u24_2 + (1 : Int32)) (lv' := [(2, .int (u24_2 + (1 : Int32))), (0, .ref h0), (1, .int c24_1)]) hx hb dX11_clearBank_42 hl (k := 2) rfl (by rfl) (by decide) rfl (fun ls hl => ?_)
        refine lv_goto (tgt := 24) hx hb dX11_clearBank_45 (by decide) ?_
        exact ih24 _ _ _ _ _ _ _ _ _ hf _ _ hP hD hS _ (lv_sub hl [1, 2, 0] rfl)
  refine lv_aload_n hx hb dX11_clearBank_0 rfl (lv_at hl 0 rfl) ?_
  refine va_get (ci := 11) (v := .ref h1) (C := RX11) (T := TX11) (N := 51) hx hb ht0 iX11 hown hK hP 0 rfl rfl 1 (by decide) (ht0 _ wd_1407) (fun _ h9 => h9) rfl dX11_clearBank_1 ?_
  refine lv_iload_n hx hb dX11_clearBank_4 rfl (lv_at hl 1 rfl) ?_
  refine lv_bipush (v := (8 : Int32)) hx hb dX11_clearBank_5 (by decide) ?_
  obtain ⟨g3, hf⟩ := of_grd hf
  refine va_iast hx hb hK hP hD hS 1 0 rfl rfl g3 dX11_clearBank_7 (fun H locs hP hD hS => ?_)
  have hP : va_P G.1 vwCl (wW_X11_clearBank G h0 h1 h2 h3 h4 y0_0 y0_6 y0_18 y0_21 y0_22 y0_23 y0_24 y0_25 y0_26 y0_33 y0_34 y0_38 y0_39 y0_40 y0_41 y0_42 y0_43 y0_45 y0_46 y0_47 y0_48 x0_5 x0_7 x0_8 x0_9 x0_10 x0_11 x0_12 x0_13 x0_14 x0_15 x0_16 x0_17 x0_19 x0_20 x0_27 x0_28 x0_29 x0_30 x0_31 x0_32 x0_35 x0_36 x0_37 x0_44 x0_49 x0_50 (upd a1 b1.toNatClampNeg (8 : Int32)) a2 a3 a4) H := hP
  have hD : va_D A (wW_X11_clearBank G h0 h1 h2 h3 h4 y0_0 y0_6 y0_18 y0_21 y0_22 y0_23 y0_24 y0_25 y0_26 y0_33 y0_34 y0_38 y0_39 y0_40 y0_41 y0_42 y0_43 y0_45 y0_46 y0_47 y0_48 x0_5 x0_7 x0_8 x0_9 x0_10 x0_11 x0_12 x0_13 x0_14 x0_15 x0_16 x0_17 x0_19 x0_20 x0_27 x0_28 x0_29 x0_30 x0_31 x0_32 x0_35 x0_36 x0_37 x0_44 x0_49 x0_50 (upd a1 b1.toNatClampNeg (8 : Int32)) a2 a3 a4) := hD
  refine lv_aload_n hx hb dX11_clearBank_8 rfl (lv_at hl 0 rfl) ?_
  refine va_get (ci := 11) (v := .ref h2) (C := RX11) (T := TX11) (N := 51) hx hb ht0 iX11 hown hK hP 0 rfl rfl 2 (by decide) (ht0 _ wd_1408) (fun _ h9 => h9) rfl dX11_clearBank_9 ?_
  refine lv_iload_n hx hb dX11_clearBank_12 rfl (lv_at hl 1 rfl) ?_
  refine lv_iconst (v := (5 : Int32)) hx hb dX11_clearBank_13 (by decide) ?_
  obtain ⟨g4, hf⟩ := of_grd hf
  refine va_iast hx hb hK hP hD hS 2 0 rfl rfl g4 dX11_clearBank_14 (fun H locs hP hD hS => ?_)
  have hP : va_P G.1 vwCl (wW_X11_clearBank G h0 h1 h2 h3 h4 y0_0 y0_6 y0_18 y0_21 y0_22 y0_23 y0_24 y0_25 y0_26 y0_33 y0_34 y0_38 y0_39 y0_40 y0_41 y0_42 y0_43 y0_45 y0_46 y0_47 y0_48 x0_5 x0_7 x0_8 x0_9 x0_10 x0_11 x0_12 x0_13 x0_14 x0_15 x0_16 x0_17 x0_19 x0_20 x0_27 x0_28 x0_29 x0_30 x0_31 x0_32 x0_35 x0_36 x0_37 x0_44 x0_49 x0_50 (upd a1 b1.toNatClampNeg (8 : Int32)) (upd a2 b1.toNatClampNeg (5 : Int32)) a3 a4) H := hP
  have hD : va_D A (wW_X11_clearBank G h0 h1 h2 h3 h4 y0_0 y0_6 y0_18 y0_21 y0_22 y0_23 y0_24 y0_25 y0_26 y0_33 y0_34 y0_38 y0_39 y0_40 y0_41 y0_42 y0_43 y0_45 y0_46 y0_47 y0_48 x0_5 x0_7 x0_8 x0_9 x0_10 x0_11 x0_12 x0_13 x0_14 x0_15 x0_16 x0_17 x0_19 x0_20 x0_27 x0_28 x0_29 x0_30 x0_31 x0_32 x0_35 x0_36 x0_37 x0_44 x0_49 x0_50 (upd a1 b1.toNatClampNeg (8 : Int32)) (upd a2 b1.toNatClampNeg (5 : Int32)) a3 a4) := hD
  refine lv_aload_n hx hb dX11_clearBank_15 rfl (lv_at hl 0 rfl) ?_
  refine va_get (ci := 11) (v := .ref h3) (C := RX11) (T := TX11) (N := 51) hx hb ht0 iX11 hown hK hP 0 rfl rfl 3 (by decide) (ht0 _ wd_1409) (fun _ h9 => h9) rfl dX11_clearBank_16 ?_
  refine lv_iload_n hx hb dX11_clearBank_19 rfl (lv_at hl 1 rfl) ?_
  refine lv_iconst (v := (0 : Int32)) hx hb dX11_clearBank_20 (by decide) ?_
  obtain ⟨g5, hf⟩ := of_grd hf
  refine va_iast hx hb hK hP hD hS 3 0 rfl rfl g5 dX11_clearBank_21 (fun H locs hP hD hS => ?_)
  have hP : va_P G.1 vwCl (wW_X11_clearBank G h0 h1 h2 h3 h4 y0_0 y0_6 y0_18 y0_21 y0_22 y0_23 y0_24 y0_25 y0_26 y0_33 y0_34 y0_38 y0_39 y0_40 y0_41 y0_42 y0_43 y0_45 y0_46 y0_47 y0_48 x0_5 x0_7 x0_8 x0_9 x0_10 x0_11 x0_12 x0_13 x0_14 x0_15 x0_16 x0_17 x0_19 x0_20 x0_27 x0_28 x0_29 x0_30 x0_31 x0_32 x0_35 x0_36 x0_37 x0_44 x0_49 x0_50 (upd a1 b1.toNatClampNeg (8 : Int32)) (upd a2 b1.toNatClampNeg (5 : Int32)) (upd a3 b1.toNatClampNeg (0 : Int32)) a4) H := hP
  have hD : va_D A (wW_X11_clearBank G h0 h1 h2 h3 h4 y0_0 y0_6 y0_18 y0_21 y0_22 y0_23 y0_24 y0_25 y0_26 y0_33 y0_34 y0_38 y0_39 y0_40 y0_41 y0_42 y0_43 y0_45 y0_46 y0_47 y0_48 x0_5 x0_7 x0_8 x0_9 x0_10 x0_11 x0_12 x0_13 x0_14 x0_15 x0_16 x0_17 x0_19 x0_20 x0_27 x0_28 x0_29 x0_30 x0_31 x0_32 x0_35 x0_36 x0_37 x0_44 x0_49 x0_50 (upd a1 b1.toNatClampNeg (8 : Int32)) (upd a2 b1.toNatClampNeg (5 : Int32)) (upd a3 b1.toNatClampNeg (0 : Int32)) a4) := hD
  refine lv_iconst (v := (0 : Int32)) hx hb dX11_clearBank_22 (by decide) ?_
  refine lv_istore_n (lv' := [(2, .int (0 : Int32)), (0, .ref h0), (1, .int b1)]) hx hb dX11_clearBank_23 rfl hl (by decide) rfl (fun ls hl => ?_)
  exact kL24 _ _ _ _ _ _ _ _ _ _ _ hf _ _ hP hD hS _ (lv_sub hl [1, 2, 0] rfl)
theorem yk_X11_clearBank : ykV yX11_clearBank RX11 cX11_clearBank 3 none 1 := ⟨wd_1264, wd_39, wd_142, wd_1265, rfl, by decide +kernel, by decide +kernel, by decide +kernel⟩
theorem dX11_feed_0 : decode cX11_feed 0 = .ok (.aload_n 0, 1) := by decide +kernel
theorem dX11_feed_1 : decode cX11_feed 1 = .ok (.getfield 117, 3) := by decide +kernel
theorem dX11_feed_4 : decode cX11_feed 4 = .ok (.bipush 20, 2) := by decide +kernel
theorem dX11_feed_6 : decode cX11_feed 6 = .ok (.iadd, 1) := by decide +kernel
theorem dX11_feed_7 : decode cX11_feed 7 = .ok (.sipush 600, 3) := by decide +kernel
theorem dX11_feed_10 : decode cX11_feed 10 = .ok (.if_icmp .le 5, 3) := by decide +kernel
theorem dX11_feed_13 : decode cX11_feed 13 = .ok (.iconst (-1), 1) := by decide +kernel
theorem dX11_feed_14 : decode cX11_feed 14 = .ok (.ireturn, 1) := by decide +kernel
theorem dX11_feed_15 : decode cX11_feed 15 = .ok (.iconst 0, 1) := by decide +kernel
theorem dX11_feed_16 : decode cX11_feed 16 = .ok (.istore 6, 2) := by decide +kernel
theorem dX11_feed_18 : decode cX11_feed 18 = .ok (.iload 6, 2) := by decide +kernel
theorem dX11_feed_20 : decode cX11_feed 20 = .ok (.bipush 20, 2) := by decide +kernel
theorem dX11_feed_22 : decode cX11_feed 22 = .ok (.if_icmp .ge 83, 3) := by decide +kernel
theorem dX11_feed_25 : decode cX11_feed 25 = .ok (.iload 6, 2) := by decide +kernel
theorem dX11_feed_27 : decode cX11_feed 27 = .ok (.iconst 4, 1) := by decide +kernel
theorem dX11_feed_28 : decode cX11_feed 28 = .ok (.if_icmp .ge 7, 3) := by decide +kernel
theorem dX11_feed_31 : decode cX11_feed 31 = .ok (.iload_n 1, 1) := by decide +kernel
theorem dX11_feed_32 : decode cX11_feed 32 = .ok (.goto 39, 3) := by decide +kernel
theorem dX11_feed_35 : decode cX11_feed 35 = .ok (.iload 6, 2) := by decide +kernel
theorem dX11_feed_37 : decode cX11_feed 37 = .ok (.bipush 8, 2) := by decide +kernel
theorem dX11_feed_39 : decode cX11_feed 39 = .ok (.if_icmp .ge 7, 3) := by decide +kernel
theorem dX11_feed_42 : decode cX11_feed 42 = .ok (.iload_n 2, 1) := by decide +kernel
theorem dX11_feed_43 : decode cX11_feed 43 = .ok (.goto 28, 3) := by decide +kernel
theorem dX11_feed_46 : decode cX11_feed 46 = .ok (.iload 6, 2) := by decide +kernel
theorem dX11_feed_48 : decode cX11_feed 48 = .ok (.bipush 12, 2) := by decide +kernel
theorem dX11_feed_50 : decode cX11_feed 50 = .ok (.if_icmp .ge 7, 3) := by decide +kernel
theorem dX11_feed_53 : decode cX11_feed 53 = .ok (.iload_n 3, 1) := by decide +kernel
theorem dX11_feed_54 : decode cX11_feed 54 = .ok (.goto 17, 3) := by decide +kernel
theorem dX11_feed_57 : decode cX11_feed 57 = .ok (.iload 6, 2) := by decide +kernel
theorem dX11_feed_59 : decode cX11_feed 59 = .ok (.bipush 16, 2) := by decide +kernel
theorem dX11_feed_61 : decode cX11_feed 61 = .ok (.if_icmp .ge 8, 3) := by decide +kernel
theorem dX11_feed_64 : decode cX11_feed 64 = .ok (.iload 4, 2) := by decide +kernel
theorem dX11_feed_66 : decode cX11_feed 66 = .ok (.goto 5, 3) := by decide +kernel
theorem dX11_feed_69 : decode cX11_feed 69 = .ok (.iload 5, 2) := by decide +kernel
theorem dX11_feed_71 : decode cX11_feed 71 = .ok (.istore 7, 2) := by decide +kernel
theorem dX11_feed_73 : decode cX11_feed 73 = .ok (.aload_n 0, 1) := by decide +kernel
theorem dX11_feed_74 : decode cX11_feed 74 = .ok (.getfield 25, 3) := by decide +kernel
theorem dX11_feed_77 : decode cX11_feed 77 = .ok (.aload_n 0, 1) := by decide +kernel
theorem dX11_feed_78 : decode cX11_feed 78 = .ok (.getfield 117, 3) := by decide +kernel
theorem dX11_feed_81 : decode cX11_feed 81 = .ok (.iload 6, 2) := by decide +kernel
theorem dX11_feed_83 : decode cX11_feed 83 = .ok (.iadd, 1) := by decide +kernel
theorem dX11_feed_84 : decode cX11_feed 84 = .ok (.iload 7, 2) := by decide +kernel
theorem dX11_feed_86 : decode cX11_feed 86 = .ok (.bipush 24, 2) := by decide +kernel
theorem dX11_feed_88 : decode cX11_feed 88 = .ok (.bipush 8, 2) := by decide +kernel
theorem dX11_feed_90 : decode cX11_feed 90 = .ok (.iload 6, 2) := by decide +kernel
theorem dX11_feed_92 : decode cX11_feed 92 = .ok (.iconst 3, 1) := by decide +kernel
theorem dX11_feed_93 : decode cX11_feed 93 = .ok (.iand, 1) := by decide +kernel
theorem dX11_feed_94 : decode cX11_feed 94 = .ok (.imul, 1) := by decide +kernel
theorem dX11_feed_95 : decode cX11_feed 95 = .ok (.isub, 1) := by decide +kernel
theorem dX11_feed_96 : decode cX11_feed 96 = .ok (.ishr, 1) := by decide +kernel
theorem dX11_feed_97 : decode cX11_feed 97 = .ok (.i2b, 1) := by decide +kernel
theorem dX11_feed_98 : decode cX11_feed 98 = .ok (.bastore, 1) := by decide +kernel
theorem dX11_feed_99 : decode cX11_feed 99 = .ok (.iinc 6 1, 3) := by decide +kernel
theorem dX11_feed_102 : decode cX11_feed 102 = .ok (.goto (-84), 3) := by decide +kernel
theorem dX11_feed_105 : decode cX11_feed 105 = .ok (.aload_n 0, 1) := by decide +kernel
theorem dX11_feed_106 : decode cX11_feed 106 = .ok (.dup, 1) := by decide +kernel
theorem dX11_feed_107 : decode cX11_feed 107 = .ok (.getfield 117, 3) := by decide +kernel
theorem dX11_feed_110 : decode cX11_feed 110 = .ok (.bipush 20, 2) := by decide +kernel
theorem dX11_feed_112 : decode cX11_feed 112 = .ok (.iadd, 1) := by decide +kernel
theorem dX11_feed_113 : decode cX11_feed 113 = .ok (.putfield 117, 3) := by decide +kernel
theorem dX11_feed_116 : decode cX11_feed 116 = .ok (.aload_n 0, 1) := by decide +kernel
theorem dX11_feed_117 : decode cX11_feed 117 = .ok (.getfield 117, 3) := by decide +kernel
theorem dX11_feed_120 : decode cX11_feed 120 = .ok (.ireturn, 1) := by decide +kernel
def wW_X11_feed (G : GG) (h0 h1 y0_0 y0_1 y0_2 y0_3 y0_4 y0_18 y0_21 y0_22 y0_23 y0_24 y0_25 y0_26 y0_33 y0_34 y0_38 y0_39 y0_40 y0_41 y0_42 y0_43 y0_45 y0_46 y0_47 y0_48 : Nat) (x0_5 : Int32) (x0_7 : Int32) (x0_8 : Int32) (x0_9 : Int32) (x0_10 : Int32) (x0_11 : Int32) (x0_12 : Int32) (x0_13 : Int32) (x0_14 : Int32) (x0_15 : Int32) (x0_16 : Int32) (x0_17 : Int32) (x0_19 : Int32) (x0_20 : Int32) (x0_27 : Int32) (x0_28 : Int32) (x0_29 : Int32) (x0_30 : Int32) (x0_31 : Int32) (x0_32 : Int32) (x0_35 : Int32) (x0_36 : Int32) (x0_37 : Int32) (x0_44 : Int32) (x0_49 : Int32) (x0_50 : Int32) (a1 : Nat → Int32) : va_W := [(h0, .inr (11, [.ref y0_0, .ref y0_1, .ref y0_2, .ref y0_3, .ref y0_4, .int x0_5, .ref h1, .int x0_7, .int x0_8, .int x0_9, .int x0_10, .int x0_11, .int x0_12, .int x0_13, .int x0_14, .int x0_15, .int x0_16, .int x0_17, .ref y0_18, .int x0_19, .int x0_20, .ref y0_21, .ref y0_22, .ref y0_23, .ref y0_24, .ref y0_25, .ref y0_26, .int x0_27, .int x0_28, .int x0_29, .int x0_30, .int x0_31, .int x0_32, .ref y0_33, .ref y0_34, .int x0_35, .int x0_36, .int x0_37, .ref y0_38, .ref y0_39, .ref y0_40, .ref y0_41, .ref y0_42, .ref y0_43, .int x0_44, .ref y0_45, .ref y0_46, .ref y0_47, .ref y0_48, .int x0_49, .int x0_50])), (h1, .inl (G.2.2.2.1, 600, .inl a1))]
set_option maxHeartbeats 4000000 in
set_option maxRecDepth 100000 in
theorem c_X11_feed (l : Launch) (G : GG) (h0 h1 y0_0 y0_1 y0_2 y0_3 y0_4 y0_18 y0_21 y0_22 y0_23 y0_24 y0_25 y0_26 y0_33 y0_34 y0_38 y0_39 y0_40 y0_41 y0_42 y0_43 y0_45 y0_46 y0_47 y0_48 : Nat) (sz : Nat) (x0_5 : Int32) (x0_7 : Int32) (x0_8 : Int32) (x0_9 : Int32) (x0_10 : Int32) (x0_11 : Int32) (x0_12 : Int32) (x0_13 : Int32) (x0_14 : Int32) (x0_15 : Int32) (x0_16 : Int32) (x0_17 : Int32) (x0_19 : Int32) (x0_20 : Int32) (x0_27 : Int32) (x0_28 : Int32) (x0_29 : Int32) (x0_30 : Int32) (x0_31 : Int32) (x0_32 : Int32) (x0_35 : Int32) (x0_36 : Int32) (x0_37 : Int32) (x0_44 : Int32) (x0_49 : Int32) (x0_50 : Int32) (a1 : Nat → Int32) (F : Nat) (b1 : Int32) (b2 : Int32) (b3 : Int32) (b4 : Int32) (b5 : Int32)  (r0 : Int32) (e_x0_7 : Int32) (e_a1 : Nat → Int32) (hf : p_X11_feed F x0_7 a1 b1 b2 b3 b4 b5 = some (r0, e_x0_7, e_a1)) : Met l yX11_feed (.code yX11_feed cX11_feed 8 (some .int) :: gtbl) ({ frames := 0, cells := 0, slots := 0, locals := 0 } : Room) (PcS G [.ref h0, .int b1, .int b2, .int b3, .int b4, .int b5] (wW_X11_feed G h0 h1 y0_0 y0_1 y0_2 y0_3 y0_4 y0_18 y0_21 y0_22 y0_23 y0_24 y0_25 y0_26 y0_33 y0_34 y0_38 y0_39 y0_40 y0_41 y0_42 y0_43 y0_45 y0_46 y0_47 y0_48 x0_5 x0_7 x0_8 x0_9 x0_10 x0_11 x0_12 x0_13 x0_14 x0_15 x0_16 x0_17 x0_19 x0_20 x0_27 x0_28 x0_29 x0_30 x0_31 x0_32 x0_35 x0_36 x0_37 x0_44 x0_49 x0_50 a1) sz) (QiS G r0 (va_A (wW_X11_feed G h0 h1 y0_0 y0_1 y0_2 y0_3 y0_4 y0_18 y0_21 y0_22 y0_23 y0_24 y0_25 y0_26 y0_33 y0_34 y0_38 y0_39 y0_40 y0_41 y0_42 y0_43 y0_45 y0_46 y0_47 y0_48 x0_5 x0_7 x0_8 x0_9 x0_10 x0_11 x0_12 x0_13 x0_14 x0_15 x0_16 x0_17 x0_19 x0_20 x0_27 x0_28 x0_29 x0_30 x0_31 x0_32 x0_35 x0_36 x0_37 x0_44 x0_49 x0_50 a1) sz) (wW_X11_feed G h0 h1 y0_0 y0_1 y0_2 y0_3 y0_4 y0_18 y0_21 y0_22 y0_23 y0_24 y0_25 y0_26 y0_33 y0_34 y0_38 y0_39 y0_40 y0_41 y0_42 y0_43 y0_45 y0_46 y0_47 y0_48 x0_5 e_x0_7 x0_8 x0_9 x0_10 x0_11 x0_12 x0_13 x0_14 x0_15 x0_16 x0_17 x0_19 x0_20 x0_27 x0_28 x0_29 x0_30 x0_31 x0_32 x0_35 x0_36 x0_37 x0_44 x0_49 x0_50 e_a1)) 0 0 (va_A (wW_X11_feed G h0 h1 y0_0 y0_1 y0_2 y0_3 y0_4 y0_18 y0_21 y0_22 y0_23 y0_24 y0_25 y0_26 y0_33 y0_34 y0_38 y0_39 y0_40 y0_41 y0_42 y0_43 y0_45 y0_46 y0_47 y0_48 x0_5 x0_7 x0_8 x0_9 x0_10 x0_11 x0_12 x0_13 x0_14 x0_15 x0_16 x0_17 x0_19 x0_20 x0_27 x0_28 x0_29 x0_30 x0_31 x0_32 x0_35 x0_36 x0_37 x0_44 x0_49 x0_50 a1) sz) := by
  refine met_start (by decide) (Nat.le_of_ble_eq_true rfl) ?_
  intro p e s m below meth c hC hr hlk hnm hK hP hD hA hS hX ls hl
  obtain ⟨hx, hb, hml, hown, ht0⟩ := hC
  have hown : s.vm.findClass RX11 = some m.cls := hown
  generalize va_A (wW_X11_feed G h0 h1 y0_0 y0_1 y0_2 y0_3 y0_4 y0_18 y0_21 y0_22 y0_23 y0_24 y0_25 y0_26 y0_33 y0_34 y0_38 y0_39 y0_40 y0_41 y0_42 y0_43 y0_45 y0_46 y0_47 y0_48 x0_5 x0_7 x0_8 x0_9 x0_10 x0_11 x0_12 x0_13 x0_14 x0_15 x0_16 x0_17 x0_19 x0_20 x0_27 x0_28 x0_29 x0_30 x0_31 x0_32 x0_35 x0_36 x0_37 x0_44 x0_49 x0_50 a1) sz = A at hD hA hS hX ⊢
  have hl : lv_has ls 8 [(0, .ref h0), (1, .int b1), (2, .int b2), (3, .int b3), (4, .int b4), (5, .int b5)] := hl
  have hf : p_X11_feed F x0_7 a1 b1 b2 b3 b4 b5 = some (r0, e_x0_7, e_a1) := hf
  have kL18 : ∀ (c18_1 : Int32) (c18_2 : Int32) (c18_3 : Int32) (c18_4 : Int32) (c18_5 : Int32) (n18 : Nat) (u18_6 : Int32) (x0_7_18 : Int32) (a1_18 : Nat → Int32), p_X11_feed_L18 F c18_1 c18_2 c18_3 c18_4 c18_5 n18 u18_6 x0_7_18 a1_18 = some (r0, e_x0_7, e_a1) → ∀ (H : Heap) (locs : List Loc), va_P G.1 vwCl (wW_X11_feed G h0 h1 y0_0 y0_1 y0_2 y0_3 y0_4 y0_18 y0_21 y0_22 y0_23 y0_24 y0_25 y0_26 y0_33 y0_34 y0_38 y0_39 y0_40 y0_41 y0_42 y0_43 y0_45 y0_46 y0_47 y0_48 x0_5 x0_7_18 x0_8 x0_9 x0_10 x0_11 x0_12 x0_13 x0_14 x0_15 x0_16 x0_17 x0_19 x0_20 x0_27 x0_28 x0_29 x0_30 x0_31 x0_32 x0_35 x0_36 x0_37 x0_44 x0_49 x0_50 a1_18) H → va_D A (wW_X11_feed G h0 h1 y0_0 y0_1 y0_2 y0_3 y0_4 y0_18 y0_21 y0_22 y0_23 y0_24 y0_25 y0_26 y0_33 y0_34 y0_38 y0_39 y0_40 y0_41 y0_42 y0_43 y0_45 y0_46 y0_47 y0_48 x0_5 x0_7_18 x0_8 x0_9 x0_10 x0_11 x0_12 x0_13 x0_14 x0_15 x0_16 x0_17 x0_19 x0_20 x0_27 x0_28 x0_29 x0_30 x0_31 x0_32 x0_35 x0_36 x0_37 x0_44 x0_49 x0_50 a1_18) → va_S A s.heap H locs → ∀ ls : Array Slot, lv_has ls 8 [(0, .ref h0), (1, .int c18_1), (2, .int c18_2), (3, .int c18_3), (4, .int c18_4), (5, .int c18_5), (6, .int u18_6)] → W p l e ({ frames := 0, cells := 0, slots := 0, locals := 0 } : Room) s m (List.toArray [.ref h0, .int b1, .int b2, .int b3, .int b4, .int b5]) below meth c H locs 0 0 (MQ below (QiS G r0 A (wW_X11_feed G h0 h1 y0_0 y0_1 y0_2 y0_3 y0_4 y0_18 y0_21 y0_22 y0_23 y0_24 y0_25 y0_26 y0_33 y0_34 y0_38 y0_39 y0_40 y0_41 y0_42 y0_43 y0_45 y0_46 y0_47 y0_48 x0_5 e_x0_7 x0_8 x0_9 x0_10 x0_11 x0_12 x0_13 x0_14 x0_15 x0_16 x0_17 x0_19 x0_20 x0_27 x0_28 x0_29 x0_30 x0_31 x0_32 x0_35 x0_36 x0_37 x0_44 x0_49 x0_50 e_a1)) (List.toArray [.ref h0, .int b1, .int b2, .int b3, .int b4, .int b5]) s 0 0 A) (F0 m 18 ls []) := by
    intro c18_1 c18_2 c18_3 c18_4 c18_5 n18
    induction n18 with
    | zero =>
      intro u18_6 x0_7_18 a1_18 hf
      cases hf
    | succ n18 ih18 =>
      have kJ71 : ∀ (u71_6 : Int32) (s71_0 : Int32) (x0_7_71 : Int32) (a1_71 : Nat → Int32), p_X11_feed_J71 F c18_1 c18_2 c18_3 c18_4 c18_5 (p_X11_feed_L18 F c18_1 c18_2 c18_3 c18_4 c18_5 n18) u71_6 s71_0 x0_7_71 a1_71 = some (r0, e_x0_7, e_a1) → ∀ (H : Heap) (locs : List Loc), va_P G.1 vwCl (wW_X11_feed G h0 h1 y0_0 y0_1 y0_2 y0_3 y0_4 y0_18 y0_21 y0_22 y0_23 y0_24 y0_25 y0_26 y0_33 y0_34 y0_38 y0_39 y0_40 y0_41 y0_42 y0_43 y0_45 y0_46 y0_47 y0_48 x0_5 x0_7_71 x0_8 x0_9 x0_10 x0_11 x0_12 x0_13 x0_14 x0_15 x0_16 x0_17 x0_19 x0_20 x0_27 x0_28 x0_29 x0_30 x0_31 x0_32 x0_35 x0_36 x0_37 x0_44 x0_49 x0_50 a1_71) H → va_D A (wW_X11_feed G h0 h1 y0_0 y0_1 y0_2 y0_3 y0_4 y0_18 y0_21 y0_22 y0_23 y0_24 y0_25 y0_26 y0_33 y0_34 y0_38 y0_39 y0_40 y0_41 y0_42 y0_43 y0_45 y0_46 y0_47 y0_48 x0_5 x0_7_71 x0_8 x0_9 x0_10 x0_11 x0_12 x0_13 x0_14 x0_15 x0_16 x0_17 x0_19 x0_20 x0_27 x0_28 x0_29 x0_30 x0_31 x0_32 x0_35 x0_36 x0_37 x0_44 x0_49 x0_50 a1_71) → va_S A s.heap H locs → ∀ ls : Array Slot, lv_has ls 8 [(0, .ref h0), (1, .int c18_1), (2, .int c18_2), (3, .int c18_3), (4, .int c18_4), (5, .int c18_5), (6, .int u71_6)] → W p l e ({ frames := 0, cells := 0, slots := 0, locals := 0 } : Room) s m (List.toArray [.ref h0, .int b1, .int b2, .int b3, .int b4, .int b5]) below meth c H locs 0 0 (MQ below (QiS G r0 A (wW_X11_feed G h0 h1 y0_0 y0_1 y0_2 y0_3 y0_4 y0_18 y0_21 y0_22 y0_23 y0_24 y0_25 y0_26 y0_33 y0_34 y0_38 y0_39 y0_40 y0_41 y0_42 y0_43 y0_45 y0_46 y0_47 y0_48 x0_5 e_x0_7 x0_8 x0_9 x0_10 x0_11 x0_12 x0_13 x0_14 x0_15 x0_16 x0_17 x0_19 x0_20 x0_27 x0_28 x0_29 x0_30 x0_31 x0_32 x0_35 x0_36 x0_37 x0_44 x0_49 x0_50 e_a1)) (List.toArray [.ref h0, .int b1, .int b2, .int b3, .int b4, .int b5]) s 0 0 A) (F0 m 71 ls [.int s71_0]) := by
        intro u71_6 s71_0 x0_7_71 a1_71 hf H locs hP hD hS ls hl
        refine lv_istore (lv' := [(7, .int s71_0), (0, .ref h0), (1, .int c18_1), (2, .int c18_2), (3, .int c18_3), (4, .int c18_4), (5, .int c18_5), (6, .int u71_6)]) hx hb dX11_feed_71 hl (by decide) rfl (fun ls hl => ?_)
        refine lv_aload_n hx hb dX11_feed_73 rfl (lv_at hl 1 rfl) ?_
        refine va_get (ci := 11) (v := .ref h1) (C := RX11) (T := TX11) (N := 51) hx hb ht0 iX11 hown hK hP 0 rfl rfl 6 (by decide) (ht0 _ wd_1412) (fun _ h9 => h9) rfl dX11_feed_74 ?_
        refine lv_aload_n hx hb dX11_feed_77 rfl (lv_at hl 1 rfl) ?_
        refine va_get (ci := 11) (v := .int x0_7_71) (C := RX11) (T := TX11) (N := 51) hx hb ht0 iX11 hown hK hP 0 rfl rfl 7 (by decide) (ht0 _ wd_1413) (fun _ h9 => h9) rfl dX11_feed_78 ?_
        refine lv_iload hx hb dX11_feed_81 (lv_at hl 7 rfl) ?_
        refine lv_iadd hx hb dX11_feed_83 ?_
        refine lv_iload hx hb dX11_feed_84 (lv_at hl 0 rfl) ?_
        refine lv_bipush (v := (24 : Int32)) hx hb dX11_feed_86 (by decide) ?_
        refine lv_bipush (v := (8 : Int32)) hx hb dX11_feed_88 (by decide) ?_
        refine lv_iload hx hb dX11_feed_90 (lv_at hl 7 rfl) ?_
        refine lv_iconst (v := (3 : Int32)) hx hb dX11_feed_92 (by decide) ?_
        refine lv_iand hx hb dX11_feed_93 ?_
        refine lv_imul hx hb dX11_feed_94 ?_
        refine lv_isub hx hb dX11_feed_95 ?_
        refine lv_ishr hx hb dX11_feed_96 ?_
        refine lv_i2b hx hb dX11_feed_97 rfl ?_
        obtain ⟨g1, hf⟩ := of_grd hf
        refine va_bast hx hb hK hP hD hS 1 2 rfl rfl g1 dX11_feed_98 (fun H locs hP hD hS => ?_)
        have hP : va_P G.1 vwCl (wW_X11_feed G h0 h1 y0_0 y0_1 y0_2 y0_3 y0_4 y0_18 y0_21 y0_22 y0_23 y0_24 y0_25 y0_26 y0_33 y0_34 y0_38 y0_39 y0_40 y0_41 y0_42 y0_43 y0_45 y0_46 y0_47 y0_48 x0_5 x0_7_71 x0_8 x0_9 x0_10 x0_11 x0_12 x0_13 x0_14 x0_15 x0_16 x0_17 x0_19 x0_20 x0_27 x0_28 x0_29 x0_30 x0_31 x0_32 x0_35 x0_36 x0_37 x0_44 x0_49 x0_50 (upd a1_71 (x0_7_71 + u71_6).toNatClampNeg (vp_nar .byte ((s71_0 >>> (((24 : Int32) - ((8 : Int32) * (u71_6 &&& (3 : Int32)))) &&& 31)).toInt8.toInt32)))) H := hP
        have hD : va_D A (wW_X11_feed G h0 h1 y0_0 y0_1 y0_2 y0_3 y0_4 y0_18 y0_21 y0_22 y0_23 y0_24 y0_25 y0_26 y0_33 y0_34 y0_38 y0_39 y0_40 y0_41 y0_42 y0_43 y0_45 y0_46 y0_47 y0_48 x0_5 x0_7_71 x0_8 x0_9 x0_10 x0_11 x0_12 x0_13 x0_14 x0_15 x0_16 x0_17 x0_19 x0_20 x0_27 x0_28 x0_29 x0_30 x0_31 x0_32 x0_35 x0_36 x0_37 x0_44 x0_49 x0_50 (upd a1_71 (x0_7_71 + u71_6).toNatClampNeg (vp_nar .byte ((s71_0 >>> (((24 : Int32) - ((8 : Int32) * (u71_6 &&& (3 : Int32)))) &&& 31)).toInt8.toInt32)))) := hD
        refine lv_iinc (v := u71_6 + (1 : Int32)) (lv' := [(6, .int (u71_6 + (1 : Int32))), (7, .int s71_0), (0, .ref h0), (1, .int c18_1), (2, .int c18_2), (3, .int c18_3), (4, .int c18_4), (5, .int c18_5)]) hx hb dX11_feed_99 hl (k := 7) rfl (by rfl) (by decide) rfl (fun ls hl => ?_)
        refine lv_goto (tgt := 18) hx hb dX11_feed_102 (by decide) ?_
        exact ih18 _ _ _ hf _ _ hP hD hS _ (lv_sub hl [2, 3, 4, 5, 6, 7, 0] rfl)
      intro u18_6 x0_7_18 a1_18 hf H locs hP hD hS ls hl
      have hf : p_X11_feed_L18b F c18_1 c18_2 c18_3 c18_4 c18_5 (p_X11_feed_L18 F c18_1 c18_2 c18_3 c18_4 c18_5 n18) u18_6 x0_7_18 a1_18 = some (r0, e_x0_7, e_a1) := hf
      refine lv_iload hx hb dX11_feed_18 (lv_at hl 6 rfl) ?_
      refine lv_bipush (v := (20 : Int32)) hx hb dX11_feed_20 (by decide) ?_
      refine lv_icmp_ge (tgt := 105) hx hb dX11_feed_22 (by decide) (fun c2 => ?_) (fun c2 => ?_)
      · have hf := of_pos hf c2
        refine lv_aload_n hx hb dX11_feed_105 rfl (lv_at hl 0 rfl) ?_
        refine lv_dup hx hb dX11_feed_106 rfl ?_
        refine va_get (ci := 11) (v := .int x0_7_18) (C := RX11) (T := TX11) (N := 51) hx hb ht0 iX11 hown hK hP 0 rfl rfl 7 (by decide) (ht0 _ wd_1413) (fun _ h9 => h9) rfl dX11_feed_107 ?_
        refine lv_bipush (v := (20 : Int32)) hx hb dX11_feed_110 (by decide) ?_
        refine lv_iadd hx hb dX11_feed_112 ?_
        refine va_put (ci := 11) (v := .int (x0_7_18 + (20 : Int32))) (ty := .int) (C := RX11) (T := TX11) (N := 51) hx hb ht0 iX11 tyX11 tyX11_ok nmX11 hown hK hP hD hS 0 rfl rfl 7 (by decide) (ht0 _ wd_1413) (fun _ h9 => h9) rfl rfl rfl rfl (Nat.le_of_ble_eq_true rfl) dX11_feed_113 (fun H locs hP hD hS => ?_)
        have hP : va_P G.1 vwCl (wW_X11_feed G h0 h1 y0_0 y0_1 y0_2 y0_3 y0_4 y0_18 y0_21 y0_22 y0_23 y0_24 y0_25 y0_26 y0_33 y0_34 y0_38 y0_39 y0_40 y0_41 y0_42 y0_43 y0_45 y0_46 y0_47 y0_48 x0_5 (x0_7_18 + (20 : Int32)) x0_8 x0_9 x0_10 x0_11 x0_12 x0_13 x0_14 x0_15 x0_16 x0_17 x0_19 x0_20 x0_27 x0_28 x0_29 x0_30 x0_31 x0_32 x0_35 x0_36 x0_37 x0_44 x0_49 x0_50 a1_18) H := hP
        have hD : va_D A (wW_X11_feed G h0 h1 y0_0 y0_1 y0_2 y0_3 y0_4 y0_18 y0_21 y0_22 y0_23 y0_24 y0_25 y0_26 y0_33 y0_34 y0_38 y0_39 y0_40 y0_41 y0_42 y0_43 y0_45 y0_46 y0_47 y0_48 x0_5 (x0_7_18 + (20 : Int32)) x0_8 x0_9 x0_10 x0_11 x0_12 x0_13 x0_14 x0_15 x0_16 x0_17 x0_19 x0_20 x0_27 x0_28 x0_29 x0_30 x0_31 x0_32 x0_35 x0_36 x0_37 x0_44 x0_49 x0_50 a1_18) := hD
        refine lv_aload_n hx hb dX11_feed_116 rfl (lv_at hl 0 rfl) ?_
        refine va_get (ci := 11) (v := .int (x0_7_18 + (20 : Int32))) (C := RX11) (T := TX11) (N := 51) hx hb ht0 iX11 hown hK hP 0 rfl rfl 7 (by decide) (ht0 _ wd_1413) (fun _ h9 => h9) rfl dX11_feed_117 ?_
        cases hf
        exact ret_i hx hb hr hlk hK hP hD hS dX11_feed_120
      · have hf := of_neg hf c2
        refine lv_iload hx hb dX11_feed_25 (lv_at hl 6 rfl) ?_
        refine lv_iconst (v := (4 : Int32)) hx hb dX11_feed_27 (by decide) ?_
        refine lv_icmp_ge (tgt := 35) hx hb dX11_feed_28 (by decide) (fun c3 => ?_) (fun c3 => ?_)
        · have hf := of_pos hf c3
          refine lv_iload hx hb dX11_feed_35 (lv_at hl 6 rfl) ?_
          refine lv_bipush (v := (8 : Int32)) hx hb dX11_feed_37 (by decide) ?_
          refine lv_icmp_ge (tgt := 46) hx hb dX11_feed_39 (by decide) (fun c4 => ?_) (fun c4 => ?_)
          · have hf := of_pos hf c4
            refine lv_iload hx hb dX11_feed_46 (lv_at hl 6 rfl) ?_
            refine lv_bipush (v := (12 : Int32)) hx hb dX11_feed_48 (by decide) ?_
            refine lv_icmp_ge (tgt := 57) hx hb dX11_feed_50 (by decide) (fun c5 => ?_) (fun c5 => ?_)
            · have hf := of_pos hf c5
              refine lv_iload hx hb dX11_feed_57 (lv_at hl 6 rfl) ?_
              refine lv_bipush (v := (16 : Int32)) hx hb dX11_feed_59 (by decide) ?_
              refine lv_icmp_ge (tgt := 69) hx hb dX11_feed_61 (by decide) (fun c6 => ?_) (fun c6 => ?_)
              · have hf := of_pos hf c6
                refine lv_iload hx hb dX11_feed_69 (lv_at hl 5 rfl) ?_
                exact kJ71 _ _ _ _ hf _ _ hP hD hS _ (lv_sub hl [0, 1, 2, 3, 4, 5, 6] rfl)
              · have hf := of_neg hf c6
                refine lv_iload hx hb dX11_feed_64 (lv_at hl 4 rfl) ?_
                refine lv_goto (tgt := 71) hx hb dX11_feed_66 (by decide) ?_
                exact kJ71 _ _ _ _ hf _ _ hP hD hS _ (lv_sub hl [0, 1, 2, 3, 4, 5, 6] rfl)
            · have hf := of_neg hf c5
              refine lv_iload_n hx hb dX11_feed_53 rfl (lv_at hl 3 rfl) ?_
              refine lv_goto (tgt := 71) hx hb dX11_feed_54 (by decide) ?_
              exact kJ71 _ _ _ _ hf _ _ hP hD hS _ (lv_sub hl [0, 1, 2, 3, 4, 5, 6] rfl)
          · have hf := of_neg hf c4
            refine lv_iload_n hx hb dX11_feed_42 rfl (lv_at hl 2 rfl) ?_
            refine lv_goto (tgt := 71) hx hb dX11_feed_43 (by decide) ?_
            exact kJ71 _ _ _ _ hf _ _ hP hD hS _ (lv_sub hl [0, 1, 2, 3, 4, 5, 6] rfl)
        · have hf := of_neg hf c3
          refine lv_iload_n hx hb dX11_feed_31 rfl (lv_at hl 1 rfl) ?_
          refine lv_goto (tgt := 71) hx hb dX11_feed_32 (by decide) ?_
          exact kJ71 _ _ _ _ hf _ _ hP hD hS _ (lv_sub hl [0, 1, 2, 3, 4, 5, 6] rfl)
  refine lv_aload_n hx hb dX11_feed_0 rfl (lv_at hl 0 rfl) ?_
  refine va_get (ci := 11) (v := .int x0_7) (C := RX11) (T := TX11) (N := 51) hx hb ht0 iX11 hown hK hP 0 rfl rfl 7 (by decide) (ht0 _ wd_1413) (fun _ h9 => h9) rfl dX11_feed_1 ?_
  refine lv_bipush (v := (20 : Int32)) hx hb dX11_feed_4 (by decide) ?_
  refine lv_iadd hx hb dX11_feed_6 ?_
  refine lv_sipush (v := (600 : Int32)) hx hb dX11_feed_7 (by decide) ?_
  refine lv_icmp_le (tgt := 15) hx hb dX11_feed_10 (by decide) (fun c7 => ?_) (fun c7 => ?_)
  · have hf := of_pos hf c7
    refine lv_iconst (v := (0 : Int32)) hx hb dX11_feed_15 (by decide) ?_
    refine lv_istore (lv' := [(6, .int (0 : Int32)), (0, .ref h0), (1, .int b1), (2, .int b2), (3, .int b3), (4, .int b4), (5, .int b5)]) hx hb dX11_feed_16 hl (by decide) rfl (fun ls hl => ?_)
    exact kL18 _ _ _ _ _ _ _ _ _ hf _ _ hP hD hS _ (lv_sub hl [1, 2, 3, 4, 5, 6, 0] rfl)
  · have hf := of_neg hf c7
    refine lv_iconst (v := (-1 : Int32)) hx hb dX11_feed_13 (by decide) ?_
    cases hf
    exact ret_i hx hb hr hlk hK hP hD hS dX11_feed_14
theorem yk_X11_feed : ykV yX11_feed RX11 cX11_feed 8 (some .int) 5 := ⟨wd_1561, wd_1562, wd_142, wd_1563, rfl, by decide +kernel, by decide +kernel, by decide +kernel⟩
theorem dX11_end_0 : decode cX11_end 0 = .ok (.iload_n 1, 1) := by decide +kernel
theorem dX11_end_1 : decode cX11_end 1 = .ok (.ifCond .lt 11, 3) := by decide +kernel
theorem dX11_end_4 : decode cX11_end 4 = .ok (.iload_n 1, 1) := by decide +kernel
theorem dX11_end_5 : decode cX11_end 5 = .ok (.aload_n 0, 1) := by decide +kernel
theorem dX11_end_6 : decode cX11_end 6 = .ok (.getfield 117, 3) := by decide +kernel
theorem dX11_end_9 : decode cX11_end 9 = .ok (.if_icmp .le 5, 3) := by decide +kernel
theorem dX11_end_12 : decode cX11_end 12 = .ok (.iconst (-1), 1) := by decide +kernel
theorem dX11_end_13 : decode cX11_end 13 = .ok (.ireturn, 1) := by decide +kernel
theorem dX11_end_14 : decode cX11_end 14 = .ok (.aload_n 0, 1) := by decide +kernel
theorem dX11_end_15 : decode cX11_end 15 = .ok (.iload_n 1, 1) := by decide +kernel
theorem dX11_end_16 : decode cX11_end 16 = .ok (.putfield 117, 3) := by decide +kernel
theorem dX11_end_19 : decode cX11_end 19 = .ok (.iload_n 1, 1) := by decide +kernel
theorem dX11_end_20 : decode cX11_end 20 = .ok (.ireturn, 1) := by decide +kernel
def wW_X11_end (G : GG) (h0 y0_0 y0_1 y0_2 y0_3 y0_4 y0_6 y0_18 y0_21 y0_22 y0_23 y0_24 y0_25 y0_26 y0_33 y0_34 y0_38 y0_39 y0_40 y0_41 y0_42 y0_43 y0_45 y0_46 y0_47 y0_48 : Nat) (x0_5 : Int32) (x0_7 : Int32) (x0_8 : Int32) (x0_9 : Int32) (x0_10 : Int32) (x0_11 : Int32) (x0_12 : Int32) (x0_13 : Int32) (x0_14 : Int32) (x0_15 : Int32) (x0_16 : Int32) (x0_17 : Int32) (x0_19 : Int32) (x0_20 : Int32) (x0_27 : Int32) (x0_28 : Int32) (x0_29 : Int32) (x0_30 : Int32) (x0_31 : Int32) (x0_32 : Int32) (x0_35 : Int32) (x0_36 : Int32) (x0_37 : Int32) (x0_44 : Int32) (x0_49 : Int32) (x0_50 : Int32) : va_W := [(h0, .inr (11, [.ref y0_0, .ref y0_1, .ref y0_2, .ref y0_3, .ref y0_4, .int x0_5, .ref y0_6, .int x0_7, .int x0_8, .int x0_9, .int x0_10, .int x0_11, .int x0_12, .int x0_13, .int x0_14, .int x0_15, .int x0_16, .int x0_17, .ref y0_18, .int x0_19, .int x0_20, .ref y0_21, .ref y0_22, .ref y0_23, .ref y0_24, .ref y0_25, .ref y0_26, .int x0_27, .int x0_28, .int x0_29, .int x0_30, .int x0_31, .int x0_32, .ref y0_33, .ref y0_34, .int x0_35, .int x0_36, .int x0_37, .ref y0_38, .ref y0_39, .ref y0_40, .ref y0_41, .ref y0_42, .ref y0_43, .int x0_44, .ref y0_45, .ref y0_46, .ref y0_47, .ref y0_48, .int x0_49, .int x0_50]))]
set_option maxHeartbeats 4000000 in
set_option maxRecDepth 100000 in
theorem c_X11_end (l : Launch) (G : GG) (h0 y0_0 y0_1 y0_2 y0_3 y0_4 y0_6 y0_18 y0_21 y0_22 y0_23 y0_24 y0_25 y0_26 y0_33 y0_34 y0_38 y0_39 y0_40 y0_41 y0_42 y0_43 y0_45 y0_46 y0_47 y0_48 : Nat) (sz : Nat) (x0_5 : Int32) (x0_7 : Int32) (x0_8 : Int32) (x0_9 : Int32) (x0_10 : Int32) (x0_11 : Int32) (x0_12 : Int32) (x0_13 : Int32) (x0_14 : Int32) (x0_15 : Int32) (x0_16 : Int32) (x0_17 : Int32) (x0_19 : Int32) (x0_20 : Int32) (x0_27 : Int32) (x0_28 : Int32) (x0_29 : Int32) (x0_30 : Int32) (x0_31 : Int32) (x0_32 : Int32) (x0_35 : Int32) (x0_36 : Int32) (x0_37 : Int32) (x0_44 : Int32) (x0_49 : Int32) (x0_50 : Int32) (F : Nat) (b1 : Int32)  (r0 : Int32) (e_x0_7 : Int32) (hf : p_X11_end F x0_7 b1 = some (r0, e_x0_7)) : Met l yX11_end (.code yX11_end cX11_end 2 (some .int) :: gtbl) ({ frames := 0, cells := 0, slots := 0, locals := 0 } : Room) (PcS G [.ref h0, .int b1] (wW_X11_end G h0 y0_0 y0_1 y0_2 y0_3 y0_4 y0_6 y0_18 y0_21 y0_22 y0_23 y0_24 y0_25 y0_26 y0_33 y0_34 y0_38 y0_39 y0_40 y0_41 y0_42 y0_43 y0_45 y0_46 y0_47 y0_48 x0_5 x0_7 x0_8 x0_9 x0_10 x0_11 x0_12 x0_13 x0_14 x0_15 x0_16 x0_17 x0_19 x0_20 x0_27 x0_28 x0_29 x0_30 x0_31 x0_32 x0_35 x0_36 x0_37 x0_44 x0_49 x0_50) sz) (QiS G r0 (va_A (wW_X11_end G h0 y0_0 y0_1 y0_2 y0_3 y0_4 y0_6 y0_18 y0_21 y0_22 y0_23 y0_24 y0_25 y0_26 y0_33 y0_34 y0_38 y0_39 y0_40 y0_41 y0_42 y0_43 y0_45 y0_46 y0_47 y0_48 x0_5 x0_7 x0_8 x0_9 x0_10 x0_11 x0_12 x0_13 x0_14 x0_15 x0_16 x0_17 x0_19 x0_20 x0_27 x0_28 x0_29 x0_30 x0_31 x0_32 x0_35 x0_36 x0_37 x0_44 x0_49 x0_50) sz) (wW_X11_end G h0 y0_0 y0_1 y0_2 y0_3 y0_4 y0_6 y0_18 y0_21 y0_22 y0_23 y0_24 y0_25 y0_26 y0_33 y0_34 y0_38 y0_39 y0_40 y0_41 y0_42 y0_43 y0_45 y0_46 y0_47 y0_48 x0_5 e_x0_7 x0_8 x0_9 x0_10 x0_11 x0_12 x0_13 x0_14 x0_15 x0_16 x0_17 x0_19 x0_20 x0_27 x0_28 x0_29 x0_30 x0_31 x0_32 x0_35 x0_36 x0_37 x0_44 x0_49 x0_50)) 0 0 (va_A (wW_X11_end G h0 y0_0 y0_1 y0_2 y0_3 y0_4 y0_6 y0_18 y0_21 y0_22 y0_23 y0_24 y0_25 y0_26 y0_33 y0_34 y0_38 y0_39 y0_40 y0_41 y0_42 y0_43 y0_45 y0_46 y0_47 y0_48 x0_5 x0_7 x0_8 x0_9 x0_10 x0_11 x0_12 x0_13 x0_14 x0_15 x0_16 x0_17 x0_19 x0_20 x0_27 x0_28 x0_29 x0_30 x0_31 x0_32 x0_35 x0_36 x0_37 x0_44 x0_49 x0_50) sz) := by
  refine met_start (by decide) (Nat.le_of_ble_eq_true rfl) ?_
  intro p e s m below meth c hC hr hlk hnm hK hP hD hA hS hX ls hl
  obtain ⟨hx, hb, hml, hown, ht0⟩ := hC
  have hown : s.vm.findClass RX11 = some m.cls := hown
  generalize va_A (wW_X11_end G h0 y0_0 y0_1 y0_2 y0_3 y0_4 y0_6 y0_18 y0_21 y0_22 y0_23 y0_24 y0_25 y0_26 y0_33 y0_34 y0_38 y0_39 y0_40 y0_41 y0_42 y0_43 y0_45 y0_46 y0_47 y0_48 x0_5 x0_7 x0_8 x0_9 x0_10 x0_11 x0_12 x0_13 x0_14 x0_15 x0_16 x0_17 x0_19 x0_20 x0_27 x0_28 x0_29 x0_30 x0_31 x0_32 x0_35 x0_36 x0_37 x0_44 x0_49 x0_50) sz = A at hD hA hS hX ⊢
  have hl : lv_has ls 2 [(0, .ref h0), (1, .int b1)] := hl
  have hf : p_X11_end F x0_7 b1 = some (r0, e_x0_7) := hf
  refine lv_iload_n hx hb dX11_end_0 rfl (lv_at hl 1 rfl) ?_
  refine lv_if_lt (tgt := 12) hx hb dX11_end_1 (by decide) (fun c1 => ?_) (fun c1 => ?_)
  · have hf := of_pos hf c1
    refine lv_iconst (v := (-1 : Int32)) hx hb dX11_end_12 (by decide) ?_
    cases hf
    exact ret_i hx hb hr hlk hK hP hD hS dX11_end_13
  · have hf := of_neg hf c1
    refine lv_iload_n hx hb dX11_end_4 rfl (lv_at hl 1 rfl) ?_
    refine lv_aload_n hx hb dX11_end_5 rfl (lv_at hl 0 rfl) ?_
    refine va_get (ci := 11) (v := .int x0_7) (C := RX11) (T := TX11) (N := 51) hx hb ht0 iX11 hown hK hP 0 rfl rfl 7 (by decide) (ht0 _ wd_1413) (fun _ h9 => h9) rfl dX11_end_6 ?_
    refine lv_icmp_le (tgt := 14) hx hb dX11_end_9 (by decide) (fun c2 => ?_) (fun c2 => ?_)
    · have hf := of_pos hf c2
      refine lv_aload_n hx hb dX11_end_14 rfl (lv_at hl 0 rfl) ?_
      refine lv_iload_n hx hb dX11_end_15 rfl (lv_at hl 1 rfl) ?_
      refine va_put (ci := 11) (v := .int b1) (ty := .int) (C := RX11) (T := TX11) (N := 51) hx hb ht0 iX11 tyX11 tyX11_ok nmX11 hown hK hP hD hS 0 rfl rfl 7 (by decide) (ht0 _ wd_1413) (fun _ h9 => h9) rfl rfl rfl rfl (Nat.le_of_ble_eq_true rfl) dX11_end_16 (fun H locs hP hD hS => ?_)
      have hP : va_P G.1 vwCl (wW_X11_end G h0 y0_0 y0_1 y0_2 y0_3 y0_4 y0_6 y0_18 y0_21 y0_22 y0_23 y0_24 y0_25 y0_26 y0_33 y0_34 y0_38 y0_39 y0_40 y0_41 y0_42 y0_43 y0_45 y0_46 y0_47 y0_48 x0_5 b1 x0_8 x0_9 x0_10 x0_11 x0_12 x0_13 x0_14 x0_15 x0_16 x0_17 x0_19 x0_20 x0_27 x0_28 x0_29 x0_30 x0_31 x0_32 x0_35 x0_36 x0_37 x0_44 x0_49 x0_50) H := hP
      have hD : va_D A (wW_X11_end G h0 y0_0 y0_1 y0_2 y0_3 y0_4 y0_6 y0_18 y0_21 y0_22 y0_23 y0_24 y0_25 y0_26 y0_33 y0_34 y0_38 y0_39 y0_40 y0_41 y0_42 y0_43 y0_45 y0_46 y0_47 y0_48 x0_5 b1 x0_8 x0_9 x0_10 x0_11 x0_12 x0_13 x0_14 x0_15 x0_16 x0_17 x0_19 x0_20 x0_27 x0_28 x0_29 x0_30 x0_31 x0_32 x0_35 x0_36 x0_37 x0_44 x0_49 x0_50) := hD
      refine lv_iload_n hx hb dX11_end_19 rfl (lv_at hl 1 rfl) ?_
      cases hf
      exact ret_i hx hb hr hlk hK hP hD hS dX11_end_20
    · have hf := of_neg hf c2
      refine lv_iconst (v := (-1 : Int32)) hx hb dX11_end_12 (by decide) ?_
      cases hf
      exact ret_i hx hb hr hlk hK hP hD hS dX11_end_13
theorem yk_X11_end : ykV yX11_end RX11 cX11_end 2 (some .int) 1 := ⟨wd_1565, wd_1566, wd_142, wd_1567, rfl, by decide +kernel, by decide +kernel, by decide +kernel⟩
theorem dX11_signAt_0 : decode cX11_signAt 0 = .ok (.iload_n 1, 1) := by decide +kernel
theorem dX11_signAt_1 : decode cX11_signAt 1 = .ok (.aload_n 0, 1) := by decide +kernel
theorem dX11_signAt_2 : decode cX11_signAt 2 = .ok (.getfield 95, 3) := by decide +kernel
theorem dX11_signAt_5 : decode cX11_signAt 5 = .ok (.if_icmp .ge 12, 3) := by decide +kernel
theorem dX11_signAt_8 : decode cX11_signAt 8 = .ok (.aload_n 0, 1) := by decide +kernel
theorem dX11_signAt_9 : decode cX11_signAt 9 = .ok (.getfield 25, 3) := by decide +kernel
theorem dX11_signAt_12 : decode cX11_signAt 12 = .ok (.iload_n 1, 1) := by decide +kernel
theorem dX11_signAt_13 : decode cX11_signAt 13 = .ok (.baload, 1) := by decide +kernel
theorem dX11_signAt_14 : decode cX11_signAt 14 = .ok (.goto 4, 3) := by decide +kernel
theorem dX11_signAt_17 : decode cX11_signAt 17 = .ok (.iconst 0, 1) := by decide +kernel
theorem dX11_signAt_18 : decode cX11_signAt 18 = .ok (.ireturn, 1) := by decide +kernel
def wW_X11_signAt (G : GG) (h0 h1 y0_0 y0_1 y0_2 y0_3 y0_4 y0_18 y0_21 y0_22 y0_23 y0_24 y0_25 y0_26 y0_33 y0_34 y0_38 y0_39 y0_40 y0_41 y0_42 y0_43 y0_45 y0_46 y0_47 y0_48 : Nat) (x0_5 : Int32) (x0_7 : Int32) (x0_8 : Int32) (x0_9 : Int32) (x0_10 : Int32) (x0_11 : Int32) (x0_12 : Int32) (x0_13 : Int32) (x0_14 : Int32) (x0_15 : Int32) (x0_16 : Int32) (x0_17 : Int32) (x0_19 : Int32) (x0_20 : Int32) (x0_27 : Int32) (x0_28 : Int32) (x0_29 : Int32) (x0_30 : Int32) (x0_31 : Int32) (x0_32 : Int32) (x0_35 : Int32) (x0_36 : Int32) (x0_37 : Int32) (x0_44 : Int32) (x0_49 : Int32) (x0_50 : Int32) (a1 : Nat → Int32) : va_W := [(h0, .inr (11, [.ref y0_0, .ref y0_1, .ref y0_2, .ref y0_3, .ref y0_4, .int x0_5, .ref h1, .int x0_7, .int x0_8, .int x0_9, .int x0_10, .int x0_11, .int x0_12, .int x0_13, .int x0_14, .int x0_15, .int x0_16, .int x0_17, .ref y0_18, .int x0_19, .int x0_20, .ref y0_21, .ref y0_22, .ref y0_23, .ref y0_24, .ref y0_25, .ref y0_26, .int x0_27, .int x0_28, .int x0_29, .int x0_30, .int x0_31, .int x0_32, .ref y0_33, .ref y0_34, .int x0_35, .int x0_36, .int x0_37, .ref y0_38, .ref y0_39, .ref y0_40, .ref y0_41, .ref y0_42, .ref y0_43, .int x0_44, .ref y0_45, .ref y0_46, .ref y0_47, .ref y0_48, .int x0_49, .int x0_50])), (h1, .inl (G.2.2.2.1, 600, .inl a1))]
set_option maxHeartbeats 4000000 in
set_option maxRecDepth 100000 in
theorem c_X11_signAt (l : Launch) (G : GG) (h0 h1 y0_0 y0_1 y0_2 y0_3 y0_4 y0_18 y0_21 y0_22 y0_23 y0_24 y0_25 y0_26 y0_33 y0_34 y0_38 y0_39 y0_40 y0_41 y0_42 y0_43 y0_45 y0_46 y0_47 y0_48 : Nat) (sz : Nat) (x0_5 : Int32) (x0_7 : Int32) (x0_8 : Int32) (x0_9 : Int32) (x0_10 : Int32) (x0_11 : Int32) (x0_12 : Int32) (x0_13 : Int32) (x0_14 : Int32) (x0_15 : Int32) (x0_16 : Int32) (x0_17 : Int32) (x0_19 : Int32) (x0_20 : Int32) (x0_27 : Int32) (x0_28 : Int32) (x0_29 : Int32) (x0_30 : Int32) (x0_31 : Int32) (x0_32 : Int32) (x0_35 : Int32) (x0_36 : Int32) (x0_37 : Int32) (x0_44 : Int32) (x0_49 : Int32) (x0_50 : Int32) (a1 : Nat → Int32) (F : Nat) (b1 : Int32)  (r0 : Int32) (hf : p_X11_signAt F x0_8 a1 b1 = some r0) : Met l yX11_signAt (.code yX11_signAt cX11_signAt 2 (some .int) :: gtbl) ({ frames := 0, cells := 0, slots := 0, locals := 0 } : Room) (PcS G [.ref h0, .int b1] (wW_X11_signAt G h0 h1 y0_0 y0_1 y0_2 y0_3 y0_4 y0_18 y0_21 y0_22 y0_23 y0_24 y0_25 y0_26 y0_33 y0_34 y0_38 y0_39 y0_40 y0_41 y0_42 y0_43 y0_45 y0_46 y0_47 y0_48 x0_5 x0_7 x0_8 x0_9 x0_10 x0_11 x0_12 x0_13 x0_14 x0_15 x0_16 x0_17 x0_19 x0_20 x0_27 x0_28 x0_29 x0_30 x0_31 x0_32 x0_35 x0_36 x0_37 x0_44 x0_49 x0_50 a1) sz) (QiS G r0 (va_A (wW_X11_signAt G h0 h1 y0_0 y0_1 y0_2 y0_3 y0_4 y0_18 y0_21 y0_22 y0_23 y0_24 y0_25 y0_26 y0_33 y0_34 y0_38 y0_39 y0_40 y0_41 y0_42 y0_43 y0_45 y0_46 y0_47 y0_48 x0_5 x0_7 x0_8 x0_9 x0_10 x0_11 x0_12 x0_13 x0_14 x0_15 x0_16 x0_17 x0_19 x0_20 x0_27 x0_28 x0_29 x0_30 x0_31 x0_32 x0_35 x0_36 x0_37 x0_44 x0_49 x0_50 a1) sz) (wW_X11_signAt G h0 h1 y0_0 y0_1 y0_2 y0_3 y0_4 y0_18 y0_21 y0_22 y0_23 y0_24 y0_25 y0_26 y0_33 y0_34 y0_38 y0_39 y0_40 y0_41 y0_42 y0_43 y0_45 y0_46 y0_47 y0_48 x0_5 x0_7 x0_8 x0_9 x0_10 x0_11 x0_12 x0_13 x0_14 x0_15 x0_16 x0_17 x0_19 x0_20 x0_27 x0_28 x0_29 x0_30 x0_31 x0_32 x0_35 x0_36 x0_37 x0_44 x0_49 x0_50 a1)) 0 0 (va_A (wW_X11_signAt G h0 h1 y0_0 y0_1 y0_2 y0_3 y0_4 y0_18 y0_21 y0_22 y0_23 y0_24 y0_25 y0_26 y0_33 y0_34 y0_38 y0_39 y0_40 y0_41 y0_42 y0_43 y0_45 y0_46 y0_47 y0_48 x0_5 x0_7 x0_8 x0_9 x0_10 x0_11 x0_12 x0_13 x0_14 x0_15 x0_16 x0_17 x0_19 x0_20 x0_27 x0_28 x0_29 x0_30 x0_31 x0_32 x0_35 x0_36 x0_37 x0_44 x0_49 x0_50 a1) sz) := by
  refine met_start (by decide) (Nat.le_of_ble_eq_true rfl) ?_
  intro p e s m below meth c hC hr hlk hnm hK hP hD hA hS hX ls hl
  obtain ⟨hx, hb, hml, hown, ht0⟩ := hC
  have hown : s.vm.findClass RX11 = some m.cls := hown
  generalize va_A (wW_X11_signAt G h0 h1 y0_0 y0_1 y0_2 y0_3 y0_4 y0_18 y0_21 y0_22 y0_23 y0_24 y0_25 y0_26 y0_33 y0_34 y0_38 y0_39 y0_40 y0_41 y0_42 y0_43 y0_45 y0_46 y0_47 y0_48 x0_5 x0_7 x0_8 x0_9 x0_10 x0_11 x0_12 x0_13 x0_14 x0_15 x0_16 x0_17 x0_19 x0_20 x0_27 x0_28 x0_29 x0_30 x0_31 x0_32 x0_35 x0_36 x0_37 x0_44 x0_49 x0_50 a1) sz = A at hD hA hS hX ⊢
  have hl : lv_has ls 2 [(0, .ref h0), (1, .int b1)] := hl
  have hf : p_X11_signAt F x0_8 a1 b1 = some r0 := hf
  refine lv_iload_n hx hb dX11_signAt_0 rfl (lv_at hl 1 rfl) ?_
  refine lv_aload_n hx hb dX11_signAt_1 rfl (lv_at hl 0 rfl) ?_
  refine va_get (ci := 11) (v := .int x0_8) (C := RX11) (T := TX11) (N := 51) hx hb ht0 iX11 hown hK hP 0 rfl rfl 8 (by decide) (ht0 _ wd_1414) (fun _ h9 => h9) rfl dX11_signAt_2 ?_
  refine lv_icmp_ge (tgt := 17) hx hb dX11_signAt_5 (by decide) (fun c1 => ?_) (fun c1 => ?_)
  · have hf := of_pos hf c1
    refine lv_iconst (v := (0 : Int32)) hx hb dX11_signAt_17 (by decide) ?_
    cases hf
    exact ret_i hx hb hr hlk hK hP hD hS dX11_signAt_18
  · have hf := of_neg hf c1
    refine lv_aload_n hx hb dX11_signAt_8 rfl (lv_at hl 0 rfl) ?_
    refine va_get (ci := 11) (v := .ref h1) (C := RX11) (T := TX11) (N := 51) hx hb ht0 iX11 hown hK hP 0 rfl rfl 6 (by decide) (ht0 _ wd_1412) (fun _ h9 => h9) rfl dX11_signAt_9 ?_
    refine lv_iload_n hx hb dX11_signAt_12 rfl (lv_at hl 1 rfl) ?_
    obtain ⟨g2, hf⟩ := of_grd hf
    refine va_bald hx hb hK hP 1 2 rfl rfl g2 dX11_signAt_13 ?_
    refine lv_goto (tgt := 18) hx hb dX11_signAt_14 (by decide) ?_
    cases hf
    exact ret_i hx hb hr hlk hK hP hD hS dX11_signAt_18
theorem yk_X11_signAt : ykV yX11_signAt RX11 cX11_signAt 2 (some .int) 1 := ⟨wd_1280, wd_43, wd_142, wd_1281, rfl, by decide +kernel, by decide +kernel, by decide +kernel⟩
theorem dX11_isLetter_0 : decode cX11_isLetter 0 = .ok (.iload_n 0, 1) := by decide +kernel
theorem dX11_isLetter_1 : decode cX11_isLetter 1 = .ok (.bipush 97, 2) := by decide +kernel
theorem dX11_isLetter_3 : decode cX11_isLetter 3 = .ok (.if_icmp .lt 13, 3) := by decide +kernel
theorem dX11_isLetter_6 : decode cX11_isLetter 6 = .ok (.iload_n 0, 1) := by decide +kernel
theorem dX11_isLetter_7 : decode cX11_isLetter 7 = .ok (.bipush 122, 2) := by decide +kernel
theorem dX11_isLetter_9 : decode cX11_isLetter 9 = .ok (.if_icmp .gt 7, 3) := by decide +kernel
theorem dX11_isLetter_12 : decode cX11_isLetter 12 = .ok (.iconst 1, 1) := by decide +kernel
theorem dX11_isLetter_13 : decode cX11_isLetter 13 = .ok (.goto 4, 3) := by decide +kernel
theorem dX11_isLetter_16 : decode cX11_isLetter 16 = .ok (.iconst 0, 1) := by decide +kernel
theorem dX11_isLetter_17 : decode cX11_isLetter 17 = .ok (.ireturn, 1) := by decide +kernel
set_option maxHeartbeats 4000000 in
set_option maxRecDepth 100000 in
theorem c_X11_isLetter (l : Launch) (G : GG) (sz : Nat)  (F : Nat) (b0 : Int32)  (r0 : Int32) (hf : p_X11_isLetter F b0 = some r0) : Met l yX11_isLetter (.code yX11_isLetter cX11_isLetter 1 (some .boolean) :: gtbl) ({ frames := 0, cells := 0, slots := 0, locals := 0 } : Room) (PcS G [.int b0] [] sz) (QiS G r0 (va_A [] sz) []) 0 0 (va_A [] sz) := by
  refine met_start (by decide) (Nat.le_of_ble_eq_true rfl) ?_
  intro p e s m below meth c hC hr hlk hnm hK hP hD hA hS hX ls hl
  obtain ⟨hx, hb, hml, hown, ht0⟩ := hC
  have hown : s.vm.findClass RX11 = some m.cls := hown
  generalize va_A [] sz = A at hD hA hS hX ⊢
  have hl : lv_has ls 1 [(0, .int b0)] := hl
  have hf : p_X11_isLetter F b0 = some r0 := hf
  refine lv_iload_n hx hb dX11_isLetter_0 rfl (lv_at hl 0 rfl) ?_
  refine lv_bipush (v := (97 : Int32)) hx hb dX11_isLetter_1 (by decide) ?_
  refine lv_icmp_lt (tgt := 16) hx hb dX11_isLetter_3 (by decide) (fun c1 => ?_) (fun c1 => ?_)
  · have hf := of_pos hf c1
    refine lv_iconst (v := (0 : Int32)) hx hb dX11_isLetter_16 (by decide) ?_
    cases hf
    exact ret_z hx hb hr hlk hK hP hD hS (by decide) dX11_isLetter_17
  · have hf := of_neg hf c1
    refine lv_iload_n hx hb dX11_isLetter_6 rfl (lv_at hl 0 rfl) ?_
    refine lv_bipush (v := (122 : Int32)) hx hb dX11_isLetter_7 (by decide) ?_
    refine lv_icmp_gt (tgt := 16) hx hb dX11_isLetter_9 (by decide) (fun c2 => ?_) (fun c2 => ?_)
    · have hf := of_pos hf c2
      refine lv_iconst (v := (0 : Int32)) hx hb dX11_isLetter_16 (by decide) ?_
      cases hf
      exact ret_z hx hb hr hlk hK hP hD hS (by decide) dX11_isLetter_17
    · have hf := of_neg hf c2
      refine lv_iconst (v := (1 : Int32)) hx hb dX11_isLetter_12 (by decide) ?_
      refine lv_goto (tgt := 17) hx hb dX11_isLetter_13 (by decide) ?_
      cases hf
      exact ret_z hx hb hr hlk hK hP hD hS (by decide) dX11_isLetter_17
theorem yk_X11_isLetter : ykS yX11_isLetter cX11_isLetter 1 (some .boolean) 1 := ⟨wd_1283, wd_142, wd_1284, by decide +kernel, by decide +kernel, by decide +kernel⟩
theorem dX11_isDigit_0 : decode cX11_isDigit 0 = .ok (.iload_n 0, 1) := by decide +kernel
theorem dX11_isDigit_1 : decode cX11_isDigit 1 = .ok (.bipush 48, 2) := by decide +kernel
theorem dX11_isDigit_3 : decode cX11_isDigit 3 = .ok (.if_icmp .lt 13, 3) := by decide +kernel
theorem dX11_isDigit_6 : decode cX11_isDigit 6 = .ok (.iload_n 0, 1) := by decide +kernel
theorem dX11_isDigit_7 : decode cX11_isDigit 7 = .ok (.bipush 57, 2) := by decide +kernel
theorem dX11_isDigit_9 : decode cX11_isDigit 9 = .ok (.if_icmp .gt 7, 3) := by decide +kernel
theorem dX11_isDigit_12 : decode cX11_isDigit 12 = .ok (.iconst 1, 1) := by decide +kernel
theorem dX11_isDigit_13 : decode cX11_isDigit 13 = .ok (.goto 4, 3) := by decide +kernel
theorem dX11_isDigit_16 : decode cX11_isDigit 16 = .ok (.iconst 0, 1) := by decide +kernel
theorem dX11_isDigit_17 : decode cX11_isDigit 17 = .ok (.ireturn, 1) := by decide +kernel
set_option maxHeartbeats 4000000 in
set_option maxRecDepth 100000 in
theorem c_X11_isDigit (l : Launch) (G : GG) (sz : Nat)  (F : Nat) (b0 : Int32)  (r0 : Int32) (hf : p_X11_isDigit F b0 = some r0) : Met l yX11_isDigit (.code yX11_isDigit cX11_isDigit 1 (some .boolean) :: gtbl) ({ frames := 0, cells := 0, slots := 0, locals := 0 } : Room) (PcS G [.int b0] [] sz) (QiS G r0 (va_A [] sz) []) 0 0 (va_A [] sz) := by
  refine met_start (by decide) (Nat.le_of_ble_eq_true rfl) ?_
  intro p e s m below meth c hC hr hlk hnm hK hP hD hA hS hX ls hl
  obtain ⟨hx, hb, hml, hown, ht0⟩ := hC
  have hown : s.vm.findClass RX11 = some m.cls := hown
  generalize va_A [] sz = A at hD hA hS hX ⊢
  have hl : lv_has ls 1 [(0, .int b0)] := hl
  have hf : p_X11_isDigit F b0 = some r0 := hf
  refine lv_iload_n hx hb dX11_isDigit_0 rfl (lv_at hl 0 rfl) ?_
  refine lv_bipush (v := (48 : Int32)) hx hb dX11_isDigit_1 (by decide) ?_
  refine lv_icmp_lt (tgt := 16) hx hb dX11_isDigit_3 (by decide) (fun c1 => ?_) (fun c1 => ?_)
  · have hf := of_pos hf c1
    refine lv_iconst (v := (0 : Int32)) hx hb dX11_isDigit_16 (by decide) ?_
    cases hf
    exact ret_z hx hb hr hlk hK hP hD hS (by decide) dX11_isDigit_17
  · have hf := of_neg hf c1
    refine lv_iload_n hx hb dX11_isDigit_6 rfl (lv_at hl 0 rfl) ?_
    refine lv_bipush (v := (57 : Int32)) hx hb dX11_isDigit_7 (by decide) ?_
    refine lv_icmp_gt (tgt := 16) hx hb dX11_isDigit_9 (by decide) (fun c2 => ?_) (fun c2 => ?_)
    · have hf := of_pos hf c2
      refine lv_iconst (v := (0 : Int32)) hx hb dX11_isDigit_16 (by decide) ?_
      cases hf
      exact ret_z hx hb hr hlk hK hP hD hS (by decide) dX11_isDigit_17
    · have hf := of_neg hf c2
      refine lv_iconst (v := (1 : Int32)) hx hb dX11_isDigit_12 (by decide) ?_
      refine lv_goto (tgt := 17) hx hb dX11_isDigit_13 (by decide) ?_
      cases hf
      exact ret_z hx hb hr hlk hK hP hD hS (by decide) dX11_isDigit_17
theorem yk_X11_isDigit : ykS yX11_isDigit cX11_isDigit 1 (some .boolean) 1 := ⟨wd_1294, wd_142, wd_1295, by decide +kernel, by decide +kernel, by decide +kernel⟩
theorem dX11_isBlank_0 : decode cX11_isBlank 0 = .ok (.iload_n 1, 1) := by decide +kernel
theorem dX11_isBlank_1 : decode cX11_isBlank 1 = .ok (.aload_n 0, 1) := by decide +kernel
theorem dX11_isBlank_2 : decode cX11_isBlank 2 = .ok (.getfield 95, 3) := by decide +kernel
theorem dX11_isBlank_5 : decode cX11_isBlank 5 = .ok (.if_icmp .ge 29, 3) := by decide +kernel
theorem dX11_isBlank_8 : decode cX11_isBlank 8 = .ok (.aload_n 0, 1) := by decide +kernel
theorem dX11_isBlank_9 : decode cX11_isBlank 9 = .ok (.getfield 25, 3) := by decide +kernel
theorem dX11_isBlank_12 : decode cX11_isBlank 12 = .ok (.iload_n 1, 1) := by decide +kernel
theorem dX11_isBlank_13 : decode cX11_isBlank 13 = .ok (.baload, 1) := by decide +kernel
theorem dX11_isBlank_14 : decode cX11_isBlank 14 = .ok (.bipush 32, 2) := by decide +kernel
theorem dX11_isBlank_16 : decode cX11_isBlank 16 = .ok (.if_icmp .eq 14, 3) := by decide +kernel
theorem dX11_isBlank_19 : decode cX11_isBlank 19 = .ok (.aload_n 0, 1) := by decide +kernel
theorem dX11_isBlank_20 : decode cX11_isBlank 20 = .ok (.getfield 25, 3) := by decide +kernel
theorem dX11_isBlank_23 : decode cX11_isBlank 23 = .ok (.iload_n 1, 1) := by decide +kernel
theorem dX11_isBlank_24 : decode cX11_isBlank 24 = .ok (.baload, 1) := by decide +kernel
theorem dX11_isBlank_25 : decode cX11_isBlank 25 = .ok (.bipush 10, 2) := by decide +kernel
theorem dX11_isBlank_27 : decode cX11_isBlank 27 = .ok (.if_icmp .ne 7, 3) := by decide +kernel
theorem dX11_isBlank_30 : decode cX11_isBlank 30 = .ok (.iconst 1, 1) := by decide +kernel
theorem dX11_isBlank_31 : decode cX11_isBlank 31 = .ok (.goto 4, 3) := by decide +kernel
theorem dX11_isBlank_34 : decode cX11_isBlank 34 = .ok (.iconst 0, 1) := by decide +kernel
theorem dX11_isBlank_35 : decode cX11_isBlank 35 = .ok (.ireturn, 1) := by decide +kernel
def wW_X11_isBlank (G : GG) (h0 h1 y0_0 y0_1 y0_2 y0_3 y0_4 y0_18 y0_21 y0_22 y0_23 y0_24 y0_25 y0_26 y0_33 y0_34 y0_38 y0_39 y0_40 y0_41 y0_42 y0_43 y0_45 y0_46 y0_47 y0_48 : Nat) (x0_5 : Int32) (x0_7 : Int32) (x0_8 : Int32) (x0_9 : Int32) (x0_10 : Int32) (x0_11 : Int32) (x0_12 : Int32) (x0_13 : Int32) (x0_14 : Int32) (x0_15 : Int32) (x0_16 : Int32) (x0_17 : Int32) (x0_19 : Int32) (x0_20 : Int32) (x0_27 : Int32) (x0_28 : Int32) (x0_29 : Int32) (x0_30 : Int32) (x0_31 : Int32) (x0_32 : Int32) (x0_35 : Int32) (x0_36 : Int32) (x0_37 : Int32) (x0_44 : Int32) (x0_49 : Int32) (x0_50 : Int32) (a1 : Nat → Int32) : va_W := [(h0, .inr (11, [.ref y0_0, .ref y0_1, .ref y0_2, .ref y0_3, .ref y0_4, .int x0_5, .ref h1, .int x0_7, .int x0_8, .int x0_9, .int x0_10, .int x0_11, .int x0_12, .int x0_13, .int x0_14, .int x0_15, .int x0_16, .int x0_17, .ref y0_18, .int x0_19, .int x0_20, .ref y0_21, .ref y0_22, .ref y0_23, .ref y0_24, .ref y0_25, .ref y0_26, .int x0_27, .int x0_28, .int x0_29, .int x0_30, .int x0_31, .int x0_32, .ref y0_33, .ref y0_34, .int x0_35, .int x0_36, .int x0_37, .ref y0_38, .ref y0_39, .ref y0_40, .ref y0_41, .ref y0_42, .ref y0_43, .int x0_44, .ref y0_45, .ref y0_46, .ref y0_47, .ref y0_48, .int x0_49, .int x0_50])), (h1, .inl (G.2.2.2.1, 600, .inl a1))]
set_option maxHeartbeats 4000000 in
set_option maxRecDepth 100000 in
theorem c_X11_isBlank (l : Launch) (G : GG) (h0 h1 y0_0 y0_1 y0_2 y0_3 y0_4 y0_18 y0_21 y0_22 y0_23 y0_24 y0_25 y0_26 y0_33 y0_34 y0_38 y0_39 y0_40 y0_41 y0_42 y0_43 y0_45 y0_46 y0_47 y0_48 : Nat) (sz : Nat) (x0_5 : Int32) (x0_7 : Int32) (x0_8 : Int32) (x0_9 : Int32) (x0_10 : Int32) (x0_11 : Int32) (x0_12 : Int32) (x0_13 : Int32) (x0_14 : Int32) (x0_15 : Int32) (x0_16 : Int32) (x0_17 : Int32) (x0_19 : Int32) (x0_20 : Int32) (x0_27 : Int32) (x0_28 : Int32) (x0_29 : Int32) (x0_30 : Int32) (x0_31 : Int32) (x0_32 : Int32) (x0_35 : Int32) (x0_36 : Int32) (x0_37 : Int32) (x0_44 : Int32) (x0_49 : Int32) (x0_50 : Int32) (a1 : Nat → Int32) (F : Nat) (b1 : Int32)  (r0 : Int32) (hf : p_X11_isBlank F x0_8 a1 b1 = some r0) : Met l yX11_isBlank (.code yX11_isBlank cX11_isBlank 2 (some .boolean) :: gtbl) ({ frames := 0, cells := 0, slots := 0, locals := 0 } : Room) (PcS G [.ref h0, .int b1] (wW_X11_isBlank G h0 h1 y0_0 y0_1 y0_2 y0_3 y0_4 y0_18 y0_21 y0_22 y0_23 y0_24 y0_25 y0_26 y0_33 y0_34 y0_38 y0_39 y0_40 y0_41 y0_42 y0_43 y0_45 y0_46 y0_47 y0_48 x0_5 x0_7 x0_8 x0_9 x0_10 x0_11 x0_12 x0_13 x0_14 x0_15 x0_16 x0_17 x0_19 x0_20 x0_27 x0_28 x0_29 x0_30 x0_31 x0_32 x0_35 x0_36 x0_37 x0_44 x0_49 x0_50 a1) sz) (QiS G r0 (va_A (wW_X11_isBlank G h0 h1 y0_0 y0_1 y0_2 y0_3 y0_4 y0_18 y0_21 y0_22 y0_23 y0_24 y0_25 y0_26 y0_33 y0_34 y0_38 y0_39 y0_40 y0_41 y0_42 y0_43 y0_45 y0_46 y0_47 y0_48 x0_5 x0_7 x0_8 x0_9 x0_10 x0_11 x0_12 x0_13 x0_14 x0_15 x0_16 x0_17 x0_19 x0_20 x0_27 x0_28 x0_29 x0_30 x0_31 x0_32 x0_35 x0_36 x0_37 x0_44 x0_49 x0_50 a1) sz) (wW_X11_isBlank G h0 h1 y0_0 y0_1 y0_2 y0_3 y0_4 y0_18 y0_21 y0_22 y0_23 y0_24 y0_25 y0_26 y0_33 y0_34 y0_38 y0_39 y0_40 y0_41 y0_42 y0_43 y0_45 y0_46 y0_47 y0_48 x0_5 x0_7 x0_8 x0_9 x0_10 x0_11 x0_12 x0_13 x0_14 x0_15 x0_16 x0_17 x0_19 x0_20 x0_27 x0_28 x0_29 x0_30 x0_31 x0_32 x0_35 x0_36 x0_37 x0_44 x0_49 x0_50 a1)) 0 0 (va_A (wW_X11_isBlank G h0 h1 y0_0 y0_1 y0_2 y0_3 y0_4 y0_18 y0_21 y0_22 y0_23 y0_24 y0_25 y0_26 y0_33 y0_34 y0_38 y0_39 y0_40 y0_41 y0_42 y0_43 y0_45 y0_46 y0_47 y0_48 x0_5 x0_7 x0_8 x0_9 x0_10 x0_11 x0_12 x0_13 x0_14 x0_15 x0_16 x0_17 x0_19 x0_20 x0_27 x0_28 x0_29 x0_30 x0_31 x0_32 x0_35 x0_36 x0_37 x0_44 x0_49 x0_50 a1) sz) := by
  refine met_start (by decide) (Nat.le_of_ble_eq_true rfl) ?_
  intro p e s m below meth c hC hr hlk hnm hK hP hD hA hS hX ls hl
  obtain ⟨hx, hb, hml, hown, ht0⟩ := hC
  have hown : s.vm.findClass RX11 = some m.cls := hown
  generalize va_A (wW_X11_isBlank G h0 h1 y0_0 y0_1 y0_2 y0_3 y0_4 y0_18 y0_21 y0_22 y0_23 y0_24 y0_25 y0_26 y0_33 y0_34 y0_38 y0_39 y0_40 y0_41 y0_42 y0_43 y0_45 y0_46 y0_47 y0_48 x0_5 x0_7 x0_8 x0_9 x0_10 x0_11 x0_12 x0_13 x0_14 x0_15 x0_16 x0_17 x0_19 x0_20 x0_27 x0_28 x0_29 x0_30 x0_31 x0_32 x0_35 x0_36 x0_37 x0_44 x0_49 x0_50 a1) sz = A at hD hA hS hX ⊢
  have hl : lv_has ls 2 [(0, .ref h0), (1, .int b1)] := hl
  have hf : p_X11_isBlank F x0_8 a1 b1 = some r0 := hf
  refine lv_iload_n hx hb dX11_isBlank_0 rfl (lv_at hl 1 rfl) ?_
  refine lv_aload_n hx hb dX11_isBlank_1 rfl (lv_at hl 0 rfl) ?_
  refine va_get (ci := 11) (v := .int x0_8) (C := RX11) (T := TX11) (N := 51) hx hb ht0 iX11 hown hK hP 0 rfl rfl 8 (by decide) (ht0 _ wd_1414) (fun _ h9 => h9) rfl dX11_isBlank_2 ?_
  refine lv_icmp_ge (tgt := 34) hx hb dX11_isBlank_5 (by decide) (fun c1 => ?_) (fun c1 => ?_)
  · have hf := of_pos hf c1
    refine lv_iconst (v := (0 : Int32)) hx hb dX11_isBlank_34 (by decide) ?_
    cases hf
    exact ret_z hx hb hr hlk hK hP hD hS (by decide) dX11_isBlank_35
  · have hf := of_neg hf c1
    refine lv_aload_n hx hb dX11_isBlank_8 rfl (lv_at hl 0 rfl) ?_
    refine va_get (ci := 11) (v := .ref h1) (C := RX11) (T := TX11) (N := 51) hx hb ht0 iX11 hown hK hP 0 rfl rfl 6 (by decide) (ht0 _ wd_1412) (fun _ h9 => h9) rfl dX11_isBlank_9 ?_
    refine lv_iload_n hx hb dX11_isBlank_12 rfl (lv_at hl 1 rfl) ?_
    obtain ⟨g2, hf⟩ := of_grd hf
    refine va_bald hx hb hK hP 1 2 rfl rfl g2 dX11_isBlank_13 ?_
    refine lv_bipush (v := (32 : Int32)) hx hb dX11_isBlank_14 (by decide) ?_
    refine lv_icmp_eq (tgt := 30) hx hb dX11_isBlank_16 (by decide) (fun c3 => ?_) (fun c3 => ?_)
    · have hf := of_pos hf c3
      refine lv_iconst (v := (1 : Int32)) hx hb dX11_isBlank_30 (by decide) ?_
      refine lv_goto (tgt := 35) hx hb dX11_isBlank_31 (by decide) ?_
      cases hf
      exact ret_z hx hb hr hlk hK hP hD hS (by decide) dX11_isBlank_35
    · have hf := of_neg hf c3
      refine lv_aload_n hx hb dX11_isBlank_19 rfl (lv_at hl 0 rfl) ?_
      refine va_get (ci := 11) (v := .ref h1) (C := RX11) (T := TX11) (N := 51) hx hb ht0 iX11 hown hK hP 0 rfl rfl 6 (by decide) (ht0 _ wd_1412) (fun _ h9 => h9) rfl dX11_isBlank_20 ?_
      refine lv_iload_n hx hb dX11_isBlank_23 rfl (lv_at hl 1 rfl) ?_
      obtain ⟨g4, hf⟩ := of_grd hf
      refine va_bald hx hb hK hP 1 2 rfl rfl g4 dX11_isBlank_24 ?_
      refine lv_bipush (v := (10 : Int32)) hx hb dX11_isBlank_25 (by decide) ?_
      refine lv_icmp_ne (tgt := 34) hx hb dX11_isBlank_27 (by decide) (fun c5 => ?_) (fun c5 => ?_)
      · have hf := of_neg hf c5
        refine lv_iconst (v := (0 : Int32)) hx hb dX11_isBlank_34 (by decide) ?_
        cases hf
        exact ret_z hx hb hr hlk hK hP hD hS (by decide) dX11_isBlank_35
      · have hf := of_pos hf c5
        refine lv_iconst (v := (1 : Int32)) hx hb dX11_isBlank_30 (by decide) ?_
        refine lv_goto (tgt := 35) hx hb dX11_isBlank_31 (by decide) ?_
        cases hf
        exact ret_z hx hb hr hlk hK hP hD hS (by decide) dX11_isBlank_35
theorem yk_X11_isBlank : ykV yX11_isBlank RX11 cX11_isBlank 2 (some .boolean) 1 := ⟨wd_1276, wd_42, wd_142, wd_1277, rfl, by decide +kernel, by decide +kernel, by decide +kernel⟩
theorem dX11_isSame_0 : decode cX11_isSame 0 = .ok (.iload_n 2, 1) := by decide +kernel
theorem dX11_isSame_1 : decode cX11_isSame 1 = .ok (.iload_n 1, 1) := by decide +kernel
theorem dX11_isSame_2 : decode cX11_isSame 2 = .ok (.isub, 1) := by decide +kernel
theorem dX11_isSame_3 : decode cX11_isSame 3 = .ok (.aload_n 0, 1) := by decide +kernel
theorem dX11_isSame_4 : decode cX11_isSame 4 = .ok (.getfield 120, 3) := by decide +kernel
theorem dX11_isSame_7 : decode cX11_isSame 7 = .ok (.aload_n 0, 1) := by decide +kernel
theorem dX11_isSame_8 : decode cX11_isSame 8 = .ok (.getfield 123, 3) := by decide +kernel
theorem dX11_isSame_11 : decode cX11_isSame 11 = .ok (.isub, 1) := by decide +kernel
theorem dX11_isSame_12 : decode cX11_isSame 12 = .ok (.if_icmp .eq 5, 3) := by decide +kernel
theorem dX11_isSame_15 : decode cX11_isSame 15 = .ok (.iconst 0, 1) := by decide +kernel
theorem dX11_isSame_16 : decode cX11_isSame 16 = .ok (.ireturn, 1) := by decide +kernel
theorem dX11_isSame_17 : decode cX11_isSame 17 = .ok (.iconst 0, 1) := by decide +kernel
theorem dX11_isSame_18 : decode cX11_isSame 18 = .ok (.istore_n 3, 1) := by decide +kernel
theorem dX11_isSame_19 : decode cX11_isSame 19 = .ok (.iload_n 3, 1) := by decide +kernel
theorem dX11_isSame_20 : decode cX11_isSame 20 = .ok (.iload_n 2, 1) := by decide +kernel
theorem dX11_isSame_21 : decode cX11_isSame 21 = .ok (.iload_n 1, 1) := by decide +kernel
theorem dX11_isSame_22 : decode cX11_isSame 22 = .ok (.isub, 1) := by decide +kernel
theorem dX11_isSame_23 : decode cX11_isSame 23 = .ok (.if_icmp .ge 33, 3) := by decide +kernel
theorem dX11_isSame_26 : decode cX11_isSame 26 = .ok (.aload_n 0, 1) := by decide +kernel
theorem dX11_isSame_27 : decode cX11_isSame 27 = .ok (.getfield 33, 3) := by decide +kernel
theorem dX11_isSame_30 : decode cX11_isSame 30 = .ok (.iload_n 1, 1) := by decide +kernel
theorem dX11_isSame_31 : decode cX11_isSame 31 = .ok (.iload_n 3, 1) := by decide +kernel
theorem dX11_isSame_32 : decode cX11_isSame 32 = .ok (.iadd, 1) := by decide +kernel
theorem dX11_isSame_33 : decode cX11_isSame 33 = .ok (.baload, 1) := by decide +kernel
theorem dX11_isSame_34 : decode cX11_isSame 34 = .ok (.aload_n 0, 1) := by decide +kernel
theorem dX11_isSame_35 : decode cX11_isSame 35 = .ok (.getfield 25, 3) := by decide +kernel
theorem dX11_isSame_38 : decode cX11_isSame 38 = .ok (.aload_n 0, 1) := by decide +kernel
theorem dX11_isSame_39 : decode cX11_isSame 39 = .ok (.getfield 123, 3) := by decide +kernel
theorem dX11_isSame_42 : decode cX11_isSame 42 = .ok (.iload_n 3, 1) := by decide +kernel
theorem dX11_isSame_43 : decode cX11_isSame 43 = .ok (.iadd, 1) := by decide +kernel
theorem dX11_isSame_44 : decode cX11_isSame 44 = .ok (.baload, 1) := by decide +kernel
theorem dX11_isSame_45 : decode cX11_isSame 45 = .ok (.if_icmp .eq 5, 3) := by decide +kernel
theorem dX11_isSame_48 : decode cX11_isSame 48 = .ok (.iconst 0, 1) := by decide +kernel
theorem dX11_isSame_49 : decode cX11_isSame 49 = .ok (.ireturn, 1) := by decide +kernel
theorem dX11_isSame_50 : decode cX11_isSame 50 = .ok (.iinc 3 1, 3) := by decide +kernel
theorem dX11_isSame_53 : decode cX11_isSame 53 = .ok (.goto (-34), 3) := by decide +kernel
theorem dX11_isSame_56 : decode cX11_isSame 56 = .ok (.iconst 1, 1) := by decide +kernel
theorem dX11_isSame_57 : decode cX11_isSame 57 = .ok (.ireturn, 1) := by decide +kernel
def wW_X11_isSame (G : GG) (h0 h1 h2 y0_0 y0_1 y0_2 y0_3 y0_4 y0_21 y0_22 y0_23 y0_24 y0_25 y0_26 y0_33 y0_34 y0_38 y0_39 y0_40 y0_41 y0_42 y0_43 y0_45 y0_46 y0_47 y0_48 : Nat) (x0_5 : Int32) (x0_7 : Int32) (x0_8 : Int32) (x0_9 : Int32) (x0_10 : Int32) (x0_11 : Int32) (x0_12 : Int32) (x0_13 : Int32) (x0_14 : Int32) (x0_15 : Int32) (x0_16 : Int32) (x0_17 : Int32) (x0_19 : Int32) (x0_20 : Int32) (x0_27 : Int32) (x0_28 : Int32) (x0_29 : Int32) (x0_30 : Int32) (x0_31 : Int32) (x0_32 : Int32) (x0_35 : Int32) (x0_36 : Int32) (x0_37 : Int32) (x0_44 : Int32) (x0_49 : Int32) (x0_50 : Int32) (a1 : Nat → Int32) (a2 : Nat → Int32) : va_W := [(h0, .inr (11, [.ref y0_0, .ref y0_1, .ref y0_2, .ref y0_3, .ref y0_4, .int x0_5, .ref h1, .int x0_7, .int x0_8, .int x0_9, .int x0_10, .int x0_11, .int x0_12, .int x0_13, .int x0_14, .int x0_15, .int x0_16, .int x0_17, .ref h2, .int x0_19, .int x0_20, .ref y0_21, .ref y0_22, .ref y0_23, .ref y0_24, .ref y0_25, .ref y0_26, .int x0_27, .int x0_28, .int x0_29, .int x0_30, .int x0_31, .int x0_32, .ref y0_33, .ref y0_34, .int x0_35, .int x0_36, .int x0_37, .ref y0_38, .ref y0_39, .ref y0_40, .ref y0_41, .ref y0_42, .ref y0_43, .int x0_44, .ref y0_45, .ref y0_46, .ref y0_47, .ref y0_48, .int x0_49, .int x0_50])), (h1, .inl (G.2.2.2.1, 600, .inl a1)), (h2, .inl (G.2.2.2.1, 56, .inl a2))]
set_option maxHeartbeats 4000000 in
set_option maxRecDepth 100000 in
theorem c_X11_isSame (l : Launch) (G : GG) (h0 h1 h2 y0_0 y0_1 y0_2 y0_3 y0_4 y0_21 y0_22 y0_23 y0_24 y0_25 y0_26 y0_33 y0_34 y0_38 y0_39 y0_40 y0_41 y0_42 y0_43 y0_45 y0_46 y0_47 y0_48 : Nat) (sz : Nat) (x0_5 : Int32) (x0_7 : Int32) (x0_8 : Int32) (x0_9 : Int32) (x0_10 : Int32) (x0_11 : Int32) (x0_12 : Int32) (x0_13 : Int32) (x0_14 : Int32) (x0_15 : Int32) (x0_16 : Int32) (x0_17 : Int32) (x0_19 : Int32) (x0_20 : Int32) (x0_27 : Int32) (x0_28 : Int32) (x0_29 : Int32) (x0_30 : Int32) (x0_31 : Int32) (x0_32 : Int32) (x0_35 : Int32) (x0_36 : Int32) (x0_37 : Int32) (x0_44 : Int32) (x0_49 : Int32) (x0_50 : Int32) (a1 : Nat → Int32) (a2 : Nat → Int32) (F : Nat) (b1 : Int32) (b2 : Int32)  (r0 : Int32) (hf : p_X11_isSame F x0_9 x0_10 a1 a2 b1 b2 = some r0) : Met l yX11_isSame (.code yX11_isSame cX11_isSame 4 (some .boolean) :: gtbl) ({ frames := 0, cells := 0, slots := 0, locals := 0 } : Room) (PcS G [.ref h0, .int b1, .int b2] (wW_X11_isSame G h0 h1 h2 y0_0 y0_1 y0_2 y0_3 y0_4 y0_21 y0_22 y0_23 y0_24 y0_25 y0_26 y0_33 y0_34 y0_38 y0_39 y0_40 y0_41 y0_42 y0_43 y0_45 y0_46 y0_47 y0_48 x0_5 x0_7 x0_8 x0_9 x0_10 x0_11 x0_12 x0_13 x0_14 x0_15 x0_16 x0_17 x0_19 x0_20 x0_27 x0_28 x0_29 x0_30 x0_31 x0_32 x0_35 x0_36 x0_37 x0_44 x0_49 x0_50 a1 a2) sz) (QiS G r0 (va_A (wW_X11_isSame G h0 h1 h2 y0_0 y0_1 y0_2 y0_3 y0_4 y0_21 y0_22 y0_23 y0_24 y0_25 y0_26 y0_33 y0_34 y0_38 y0_39 y0_40 y0_41 y0_42 y0_43 y0_45 y0_46 y0_47 y0_48 x0_5 x0_7 x0_8 x0_9 x0_10 x0_11 x0_12 x0_13 x0_14 x0_15 x0_16 x0_17 x0_19 x0_20 x0_27 x0_28 x0_29 x0_30 x0_31 x0_32 x0_35 x0_36 x0_37 x0_44 x0_49 x0_50 a1 a2) sz) (wW_X11_isSame G h0 h1 h2 y0_0 y0_1 y0_2 y0_3 y0_4 y0_21 y0_22 y0_23 y0_24 y0_25 y0_26 y0_33 y0_34 y0_38 y0_39 y0_40 y0_41 y0_42 y0_43 y0_45 y0_46 y0_47 y0_48 x0_5 x0_7 x0_8 x0_9 x0_10 x0_11 x0_12 x0_13 x0_14 x0_15 x0_16 x0_17 x0_19 x0_20 x0_27 x0_28 x0_29 x0_30 x0_31 x0_32 x0_35 x0_36 x0_37 x0_44 x0_49 x0_50 a1 a2)) 0 0 (va_A (wW_X11_isSame G h0 h1 h2 y0_0 y0_1 y0_2 y0_3 y0_4 y0_21 y0_22 y0_23 y0_24 y0_25 y0_26 y0_33 y0_34 y0_38 y0_39 y0_40 y0_41 y0_42 y0_43 y0_45 y0_46 y0_47 y0_48 x0_5 x0_7 x0_8 x0_9 x0_10 x0_11 x0_12 x0_13 x0_14 x0_15 x0_16 x0_17 x0_19 x0_20 x0_27 x0_28 x0_29 x0_30 x0_31 x0_32 x0_35 x0_36 x0_37 x0_44 x0_49 x0_50 a1 a2) sz) := by
  refine met_start (by decide) (Nat.le_of_ble_eq_true rfl) ?_
  intro p e s m below meth c hC hr hlk hnm hK hP hD hA hS hX ls hl
  obtain ⟨hx, hb, hml, hown, ht0⟩ := hC
  have hown : s.vm.findClass RX11 = some m.cls := hown
  generalize va_A (wW_X11_isSame G h0 h1 h2 y0_0 y0_1 y0_2 y0_3 y0_4 y0_21 y0_22 y0_23 y0_24 y0_25 y0_26 y0_33 y0_34 y0_38 y0_39 y0_40 y0_41 y0_42 y0_43 y0_45 y0_46 y0_47 y0_48 x0_5 x0_7 x0_8 x0_9 x0_10 x0_11 x0_12 x0_13 x0_14 x0_15 x0_16 x0_17 x0_19 x0_20 x0_27 x0_28 x0_29 x0_30 x0_31 x0_32 x0_35 x0_36 x0_37 x0_44 x0_49 x0_50 a1 a2) sz = A at hD hA hS hX ⊢
  have hl : lv_has ls 4 [(0, .ref h0), (1, .int b1), (2, .int b2)] := hl
  have hf : p_X11_isSame F x0_9 x0_10 a1 a2 b1 b2 = some r0 := hf
  have kL19 : ∀ (c19_1 : Int32) (c19_2 : Int32) (n19 : Nat) (u19_3 : Int32), p_X11_isSame_L19 F x0_9 x0_10 a1 a2 c19_1 c19_2 n19 u19_3 = some r0 → ∀ (H : Heap) (locs : List Loc), va_P G.1 vwCl (wW_X11_isSame G h0 h1 h2 y0_0 y0_1 y0_2 y0_3 y0_4 y0_21 y0_22 y0_23 y0_24 y0_25 y0_26 y0_33 y0_34 y0_38 y0_39 y0_40 y0_41 y0_42 y0_43 y0_45 y0_46 y0_47 y0_48 x0_5 x0_7 x0_8 x0_9 x0_10 x0_11 x0_12 x0_13 x0_14 x0_15 x0_16 x0_17 x0_19 x0_20 x0_27 x0_28 x0_29 x0_30 x0_31 x0_32 x0_35 x0_36 x0_37 x0_44 x0_49 x0_50 a1 a2) H → va_D A (wW_X11_isSame G h0 h1 h2 y0_0 y0_1 y0_2 y0_3 y0_4 y0_21 y0_22 y0_23 y0_24 y0_25 y0_26 y0_33 y0_34 y0_38 y0_39 y0_40 y0_41 y0_42 y0_43 y0_45 y0_46 y0_47 y0_48 x0_5 x0_7 x0_8 x0_9 x0_10 x0_11 x0_12 x0_13 x0_14 x0_15 x0_16 x0_17 x0_19 x0_20 x0_27 x0_28 x0_29 x0_30 x0_31 x0_32 x0_35 x0_36 x0_37 x0_44 x0_49 x0_50 a1 a2) → va_S A s.heap H locs → ∀ ls : Array Slot, lv_has ls 4 [(0, .ref h0), (1, .int c19_1), (2, .int c19_2), (3, .int u19_3)] → W p l e ({ frames := 0, cells := 0, slots := 0, locals := 0 } : Room) s m (List.toArray [.ref h0, .int b1, .int b2]) below meth c H locs 0 0 (MQ below (QiS G r0 A (wW_X11_isSame G h0 h1 h2 y0_0 y0_1 y0_2 y0_3 y0_4 y0_21 y0_22 y0_23 y0_24 y0_25 y0_26 y0_33 y0_34 y0_38 y0_39 y0_40 y0_41 y0_42 y0_43 y0_45 y0_46 y0_47 y0_48 x0_5 x0_7 x0_8 x0_9 x0_10 x0_11 x0_12 x0_13 x0_14 x0_15 x0_16 x0_17 x0_19 x0_20 x0_27 x0_28 x0_29 x0_30 x0_31 x0_32 x0_35 x0_36 x0_37 x0_44 x0_49 x0_50 a1 a2)) (List.toArray [.ref h0, .int b1, .int b2]) s 0 0 A) (F0 m 19 ls []) := by
    intro c19_1 c19_2 n19
    induction n19 with
    | zero =>
      intro u19_3 hf
      cases hf
    | succ n19 ih19 =>
      intro u19_3 hf H locs hP hD hS ls hl
      have hf : p_X11_isSame_L19b F x0_9 x0_10 a1 a2 c19_1 c19_2 (p_X11_isSame_L19 F x0_9 x0_10 a1 a2 c19_1 c19_2 n19) u19_3 = some r0 := hf
      refine lv_iload_n hx hb dX11_isSame_19 rfl (lv_at hl 3 rfl) ?_
      refine lv_iload_n hx hb dX11_isSame_20 rfl (lv_at hl 2 rfl) ?_
      refine lv_iload_n hx hb dX11_isSame_21 rfl (lv_at hl 1 rfl) ?_
      refine lv_isub hx hb dX11_isSame_22 ?_
      refine lv_icmp_ge (tgt := 56) hx hb dX11_isSame_23 (by decide) (fun c1 => ?_) (fun c1 => ?_)
      · have hf := of_pos hf c1
        refine lv_iconst (v := (1 : Int32)) hx hb dX11_isSame_56 (by decide) ?_
        cases hf
        exact ret_z hx hb hr hlk hK hP hD hS (by decide) dX11_isSame_57
      · have hf := of_neg hf c1
        refine lv_aload_n hx hb dX11_isSame_26 rfl (lv_at hl 0 rfl) ?_
        refine va_get (ci := 11) (v := .ref h2) (C := RX11) (T := TX11) (N := 51) hx hb ht0 iX11 hown hK hP 0 rfl rfl 18 (by decide) (ht0 _ wd_1424) (fun _ h9 => h9) rfl dX11_isSame_27 ?_
        refine lv_iload_n hx hb dX11_isSame_30 rfl (lv_at hl 1 rfl) ?_
        refine lv_iload_n hx hb dX11_isSame_31 rfl (lv_at hl 3 rfl) ?_
        refine lv_iadd hx hb dX11_isSame_32 ?_
        obtain ⟨g2, hf⟩ := of_grd hf
        refine va_bald hx hb hK hP 2 2 rfl rfl g2 dX11_isSame_33 ?_
        refine lv_aload_n hx hb dX11_isSame_34 rfl (lv_at hl 0 rfl) ?_
        refine va_get (ci := 11) (v := .ref h1) (C := RX11) (T := TX11) (N := 51) hx hb ht0 iX11 hown hK hP 0 rfl rfl 6 (by decide) (ht0 _ wd_1412) (fun _ h9 => h9) rfl dX11_isSame_35 ?_
        refine lv_aload_n hx hb dX11_isSame_38 rfl (lv_at hl 0 rfl) ?_
        refine va_get (ci := 11) (v := .int x0_10) (C := RX11) (T := TX11) (N := 51) hx hb ht0 iX11 hown hK hP 0 rfl rfl 10 (by decide) (ht0 _ wd_1416) (fun _ h9 => h9) rfl dX11_isSame_39 ?_
        refine lv_iload_n hx hb dX11_isSame_42 rfl (lv_at hl 3 rfl) ?_
        refine lv_iadd hx hb dX11_isSame_43 ?_
        obtain ⟨g3, hf⟩ := of_grd hf
        refine va_bald hx hb hK hP 1 2 rfl rfl g3 dX11_isSame_44 ?_
        refine lv_icmp_eq (tgt := 50) hx hb dX11_isSame_45 (by decide) (fun c4 => ?_) (fun c4 => ?_)
        · have hf := of_pos hf c4
          refine lv_iinc (v := u19_3 + (1 : Int32)) (lv' := [(3, .int (u19_3 + (1 : Int32))), (0, .ref h0), (1, .int c19_1), (2, .int c19_2)]) hx hb dX11_isSame_50 hl (k := 3) rfl (by rfl) (by decide) rfl (fun ls hl => ?_)
          refine lv_goto (tgt := 19) hx hb dX11_isSame_53 (by decide) ?_
          exact ih19 _ hf _ _ hP hD hS _ (lv_sub hl [1, 2, 3, 0] rfl)
        · have hf := of_neg hf c4
          refine lv_iconst (v := (0 : Int32)) hx hb dX11_isSame_48 (by decide) ?_
          cases hf
          exact ret_z hx hb hr hlk hK hP hD hS (by decide) dX11_isSame_49
  refine lv_iload_n hx hb dX11_isSame_0 rfl (lv_at hl 2 rfl) ?_
  refine lv_iload_n hx hb dX11_isSame_1 rfl (lv_at hl 1 rfl) ?_
  refine lv_isub hx hb dX11_isSame_2 ?_
  refine lv_aload_n hx hb dX11_isSame_3 rfl (lv_at hl 0 rfl) ?_
  refine va_get (ci := 11) (v := .int x0_9) (C := RX11) (T := TX11) (N := 51) hx hb ht0 iX11 hown hK hP 0 rfl rfl 9 (by decide) (ht0 _ wd_1415) (fun _ h9 => h9) rfl dX11_isSame_4 ?_
  refine lv_aload_n hx hb dX11_isSame_7 rfl (lv_at hl 0 rfl) ?_
  refine va_get (ci := 11) (v := .int x0_10) (C := RX11) (T := TX11) (N := 51) hx hb ht0 iX11 hown hK hP 0 rfl rfl 10 (by decide) (ht0 _ wd_1416) (fun _ h9 => h9) rfl dX11_isSame_8 ?_
  refine lv_isub hx hb dX11_isSame_11 ?_
  refine lv_icmp_eq (tgt := 17) hx hb dX11_isSame_12 (by decide) (fun c5 => ?_) (fun c5 => ?_)
  · have hf := of_pos hf c5
    refine lv_iconst (v := (0 : Int32)) hx hb dX11_isSame_17 (by decide) ?_
    refine lv_istore_n (lv' := [(3, .int (0 : Int32)), (0, .ref h0), (1, .int b1), (2, .int b2)]) hx hb dX11_isSame_18 rfl hl (by decide) rfl (fun ls hl => ?_)
    exact kL19 _ _ _ _ hf _ _ hP hD hS _ (lv_sub hl [1, 2, 3, 0] rfl)
  · have hf := of_neg hf c5
    refine lv_iconst (v := (0 : Int32)) hx hb dX11_isSame_15 (by decide) ?_
    cases hf
    exact ret_z hx hb hr hlk hK hP hD hS (by decide) dX11_isSame_16
theorem yk_X11_isSame : ykV yX11_isSame RX11 cX11_isSame 4 (some .boolean) 2 := ⟨wd_1291, wd_45, wd_142, wd_1292, rfl, by decide +kernel, by decide +kernel, by decide +kernel⟩
theorem dX11_scanWord_0 : decode cX11_scanWord 0 = .ok (.aload_n 0, 1) := by decide +kernel
theorem dX11_scanWord_1 : decode cX11_scanWord 1 = .ok (.iconst 2, 1) := by decide +kernel
theorem dX11_scanWord_2 : decode cX11_scanWord 2 = .ok (.putfield 134, 3) := by decide +kernel
theorem dX11_scanWord_5 : decode cX11_scanWord 5 = .ok (.aload_n 0, 1) := by decide +kernel
theorem dX11_scanWord_6 : decode cX11_scanWord 6 = .ok (.aload_n 0, 1) := by decide +kernel
theorem dX11_scanWord_7 : decode cX11_scanWord 7 = .ok (.getfield 123, 3) := by decide +kernel
theorem dX11_scanWord_10 : decode cX11_scanWord 10 = .ok (.putfield 120, 3) := by decide +kernel
theorem dX11_scanWord_13 : decode cX11_scanWord 13 = .ok (.aload_n 0, 1) := by decide +kernel
theorem dX11_scanWord_14 : decode cX11_scanWord 14 = .ok (.aload_n 0, 1) := by decide +kernel
theorem dX11_scanWord_15 : decode cX11_scanWord 15 = .ok (.getfield 120, 3) := by decide +kernel
theorem dX11_scanWord_18 : decode cX11_scanWord 18 = .ok (.invokevirtual 130, 3) := by decide +kernel
theorem dX11_scanWord_21 : decode cX11_scanWord 21 = .ok (.invokestatic 137, 3) := by decide +kernel
theorem dX11_scanWord_24 : decode cX11_scanWord 24 = .ok (.ifCond .eq 16, 3) := by decide +kernel
theorem dX11_scanWord_27 : decode cX11_scanWord 27 = .ok (.aload_n 0, 1) := by decide +kernel
theorem dX11_scanWord_28 : decode cX11_scanWord 28 = .ok (.dup, 1) := by decide +kernel
theorem dX11_scanWord_29 : decode cX11_scanWord 29 = .ok (.getfield 120, 3) := by decide +kernel
theorem dX11_scanWord_32 : decode cX11_scanWord 32 = .ok (.iconst 1, 1) := by decide +kernel
theorem dX11_scanWord_33 : decode cX11_scanWord 33 = .ok (.iadd, 1) := by decide +kernel
theorem dX11_scanWord_34 : decode cX11_scanWord 34 = .ok (.putfield 120, 3) := by decide +kernel
theorem dX11_scanWord_37 : decode cX11_scanWord 37 = .ok (.goto (-24), 3) := by decide +kernel
theorem dX11_scanWord_40 : decode cX11_scanWord 40 = .ok (.aload_n 0, 1) := by decide +kernel
theorem dX11_scanWord_41 : decode cX11_scanWord 41 = .ok (.iconst (-1), 1) := by decide +kernel
theorem dX11_scanWord_42 : decode cX11_scanWord 42 = .ok (.putfield 149, 3) := by decide +kernel
theorem dX11_scanWord_45 : decode cX11_scanWord 45 = .ok (.iconst 0, 1) := by decide +kernel
theorem dX11_scanWord_46 : decode cX11_scanWord 46 = .ok (.istore_n 1, 1) := by decide +kernel
theorem dX11_scanWord_47 : decode cX11_scanWord 47 = .ok (.iconst 0, 1) := by decide +kernel
theorem dX11_scanWord_48 : decode cX11_scanWord 48 = .ok (.istore_n 2, 1) := by decide +kernel
theorem dX11_scanWord_49 : decode cX11_scanWord 49 = .ok (.iload_n 2, 1) := by decide +kernel
theorem dX11_scanWord_50 : decode cX11_scanWord 50 = .ok (.bipush 9, 2) := by decide +kernel
theorem dX11_scanWord_52 : decode cX11_scanWord 52 = .ok (.if_icmp .ge 46, 3) := by decide +kernel
theorem dX11_scanWord_55 : decode cX11_scanWord 55 = .ok (.iload_n 1, 1) := by decide +kernel
theorem dX11_scanWord_56 : decode cX11_scanWord 56 = .ok (.istore_n 3, 1) := by decide +kernel
theorem dX11_scanWord_57 : decode cX11_scanWord 57 = .ok (.aload_n 0, 1) := by decide +kernel
theorem dX11_scanWord_58 : decode cX11_scanWord 58 = .ok (.getfield 33, 3) := by decide +kernel
theorem dX11_scanWord_61 : decode cX11_scanWord 61 = .ok (.iload_n 3, 1) := by decide +kernel
theorem dX11_scanWord_62 : decode cX11_scanWord 62 = .ok (.baload, 1) := by decide +kernel
theorem dX11_scanWord_63 : decode cX11_scanWord 63 = .ok (.bipush 32, 2) := by decide +kernel
theorem dX11_scanWord_65 : decode cX11_scanWord 65 = .ok (.if_icmp .eq 9, 3) := by decide +kernel
theorem dX11_scanWord_68 : decode cX11_scanWord 68 = .ok (.iinc 3 1, 3) := by decide +kernel
theorem dX11_scanWord_71 : decode cX11_scanWord 71 = .ok (.goto (-14), 3) := by decide +kernel
theorem dX11_scanWord_74 : decode cX11_scanWord 74 = .ok (.aload_n 0, 1) := by decide +kernel
theorem dX11_scanWord_75 : decode cX11_scanWord 75 = .ok (.iload_n 1, 1) := by decide +kernel
theorem dX11_scanWord_76 : decode cX11_scanWord 76 = .ok (.iload_n 3, 1) := by decide +kernel
theorem dX11_scanWord_77 : decode cX11_scanWord 77 = .ok (.invokevirtual 152, 3) := by decide +kernel
theorem dX11_scanWord_80 : decode cX11_scanWord 80 = .ok (.ifCond .eq 8, 3) := by decide +kernel
theorem dX11_scanWord_83 : decode cX11_scanWord 83 = .ok (.aload_n 0, 1) := by decide +kernel
theorem dX11_scanWord_84 : decode cX11_scanWord 84 = .ok (.iload_n 2, 1) := by decide +kernel
theorem dX11_scanWord_85 : decode cX11_scanWord 85 = .ok (.putfield 149, 3) := by decide +kernel
theorem dX11_scanWord_88 : decode cX11_scanWord 88 = .ok (.iload_n 3, 1) := by decide +kernel
theorem dX11_scanWord_89 : decode cX11_scanWord 89 = .ok (.iconst 1, 1) := by decide +kernel
theorem dX11_scanWord_90 : decode cX11_scanWord 90 = .ok (.iadd, 1) := by decide +kernel
theorem dX11_scanWord_91 : decode cX11_scanWord 91 = .ok (.istore_n 1, 1) := by decide +kernel
theorem dX11_scanWord_92 : decode cX11_scanWord 92 = .ok (.iinc 2 1, 3) := by decide +kernel
theorem dX11_scanWord_95 : decode cX11_scanWord 95 = .ok (.goto (-46), 3) := by decide +kernel
theorem dX11_scanWord_98 : decode cX11_scanWord 98 = .ok (.return_, 1) := by decide +kernel
def wW_X11_scanWord (G : GG) (h0 h1 h2 y0_0 y0_1 y0_2 y0_3 y0_4 y0_21 y0_22 y0_23 y0_24 y0_25 y0_26 y0_33 y0_34 y0_38 y0_39 y0_40 y0_41 y0_42 y0_43 y0_45 y0_46 y0_47 y0_48 : Nat) (x0_5 : Int32) (x0_7 : Int32) (x0_8 : Int32) (x0_9 : Int32) (x0_10 : Int32) (x0_11 : Int32) (x0_12 : Int32) (x0_13 : Int32) (x0_14 : Int32) (x0_15 : Int32) (x0_16 : Int32) (x0_17 : Int32) (x0_19 : Int32) (x0_20 : Int32) (x0_27 : Int32) (x0_28 : Int32) (x0_29 : Int32) (x0_30 : Int32) (x0_31 : Int32) (x0_32 : Int32) (x0_35 : Int32) (x0_36 : Int32) (x0_37 : Int32) (x0_44 : Int32) (x0_49 : Int32) (x0_50 : Int32) (a1 : Nat → Int32) (a2 : Nat → Int32) : va_W := [(h0, .inr (11, [.ref y0_0, .ref y0_1, .ref y0_2, .ref y0_3, .ref y0_4, .int x0_5, .ref h1, .int x0_7, .int x0_8, .int x0_9, .int x0_10, .int x0_11, .int x0_12, .int x0_13, .int x0_14, .int x0_15, .int x0_16, .int x0_17, .ref h2, .int x0_19, .int x0_20, .ref y0_21, .ref y0_22, .ref y0_23, .ref y0_24, .ref y0_25, .ref y0_26, .int x0_27, .int x0_28, .int x0_29, .int x0_30, .int x0_31, .int x0_32, .ref y0_33, .ref y0_34, .int x0_35, .int x0_36, .int x0_37, .ref y0_38, .ref y0_39, .ref y0_40, .ref y0_41, .ref y0_42, .ref y0_43, .int x0_44, .ref y0_45, .ref y0_46, .ref y0_47, .ref y0_48, .int x0_49, .int x0_50])), (h1, .inl (G.2.2.2.1, 600, .inl a1)), (h2, .inl (G.2.2.2.1, 56, .inl a2))]
set_option maxHeartbeats 4000000 in
set_option maxRecDepth 100000 in
theorem c_X11_scanWord (l : Launch) (G : GG) (h0 h1 h2 y0_0 y0_1 y0_2 y0_3 y0_4 y0_21 y0_22 y0_23 y0_24 y0_25 y0_26 y0_33 y0_34 y0_38 y0_39 y0_40 y0_41 y0_42 y0_43 y0_45 y0_46 y0_47 y0_48 : Nat) (sz : Nat) (x0_5 : Int32) (x0_7 : Int32) (x0_8 : Int32) (x0_9 : Int32) (x0_10 : Int32) (x0_11 : Int32) (x0_12 : Int32) (x0_13 : Int32) (x0_14 : Int32) (x0_15 : Int32) (x0_16 : Int32) (x0_17 : Int32) (x0_19 : Int32) (x0_20 : Int32) (x0_27 : Int32) (x0_28 : Int32) (x0_29 : Int32) (x0_30 : Int32) (x0_31 : Int32) (x0_32 : Int32) (x0_35 : Int32) (x0_36 : Int32) (x0_37 : Int32) (x0_44 : Int32) (x0_49 : Int32) (x0_50 : Int32) (a1 : Nat → Int32) (a2 : Nat → Int32) (F : Nat)   (e_x0_9 : Int32) (e_x0_11 : Int32) (e_x0_13 : Int32) (hf : p_X11_scanWord F x0_8 x0_9 x0_10 x0_11 x0_13 a1 a2  = some (e_x0_9, e_x0_11, e_x0_13)) : Met l yX11_scanWord (.code yX11_scanWord cX11_scanWord 4 none :: gtbl) ({ frames := 1, cells := 0, slots := 0, locals := 23 } : Room) (PcS G [.ref h0] (wW_X11_scanWord G h0 h1 h2 y0_0 y0_1 y0_2 y0_3 y0_4 y0_21 y0_22 y0_23 y0_24 y0_25 y0_26 y0_33 y0_34 y0_38 y0_39 y0_40 y0_41 y0_42 y0_43 y0_45 y0_46 y0_47 y0_48 x0_5 x0_7 x0_8 x0_9 x0_10 x0_11 x0_12 x0_13 x0_14 x0_15 x0_16 x0_17 x0_19 x0_20 x0_27 x0_28 x0_29 x0_30 x0_31 x0_32 x0_35 x0_36 x0_37 x0_44 x0_49 x0_50 a1 a2) sz) (QvS G (va_A (wW_X11_scanWord G h0 h1 h2 y0_0 y0_1 y0_2 y0_3 y0_4 y0_21 y0_22 y0_23 y0_24 y0_25 y0_26 y0_33 y0_34 y0_38 y0_39 y0_40 y0_41 y0_42 y0_43 y0_45 y0_46 y0_47 y0_48 x0_5 x0_7 x0_8 x0_9 x0_10 x0_11 x0_12 x0_13 x0_14 x0_15 x0_16 x0_17 x0_19 x0_20 x0_27 x0_28 x0_29 x0_30 x0_31 x0_32 x0_35 x0_36 x0_37 x0_44 x0_49 x0_50 a1 a2) sz) (wW_X11_scanWord G h0 h1 h2 y0_0 y0_1 y0_2 y0_3 y0_4 y0_21 y0_22 y0_23 y0_24 y0_25 y0_26 y0_33 y0_34 y0_38 y0_39 y0_40 y0_41 y0_42 y0_43 y0_45 y0_46 y0_47 y0_48 x0_5 x0_7 x0_8 e_x0_9 x0_10 e_x0_11 x0_12 e_x0_13 x0_14 x0_15 x0_16 x0_17 x0_19 x0_20 x0_27 x0_28 x0_29 x0_30 x0_31 x0_32 x0_35 x0_36 x0_37 x0_44 x0_49 x0_50 a1 a2)) 0 0 (va_A (wW_X11_scanWord G h0 h1 h2 y0_0 y0_1 y0_2 y0_3 y0_4 y0_21 y0_22 y0_23 y0_24 y0_25 y0_26 y0_33 y0_34 y0_38 y0_39 y0_40 y0_41 y0_42 y0_43 y0_45 y0_46 y0_47 y0_48 x0_5 x0_7 x0_8 x0_9 x0_10 x0_11 x0_12 x0_13 x0_14 x0_15 x0_16 x0_17 x0_19 x0_20 x0_27 x0_28 x0_29 x0_30 x0_31 x0_32 x0_35 x0_36 x0_37 x0_44 x0_49 x0_50 a1 a2) sz) := by
  refine met_start (by decide) (Nat.le_of_ble_eq_true rfl) ?_
  intro p e s m below meth c hC hr hlk hnm hK hP hD hA hS hX ls hl
  obtain ⟨hx, hb, hml, hown, ht0⟩ := hC
  have hown : s.vm.findClass RX11 = some m.cls := hown
  generalize va_A (wW_X11_scanWord G h0 h1 h2 y0_0 y0_1 y0_2 y0_3 y0_4 y0_21 y0_22 y0_23 y0_24 y0_25 y0_26 y0_33 y0_34 y0_38 y0_39 y0_40 y0_41 y0_42 y0_43 y0_45 y0_46 y0_47 y0_48 x0_5 x0_7 x0_8 x0_9 x0_10 x0_11 x0_12 x0_13 x0_14 x0_15 x0_16 x0_17 x0_19 x0_20 x0_27 x0_28 x0_29 x0_30 x0_31 x0_32 x0_35 x0_36 x0_37 x0_44 x0_49 x0_50 a1 a2) sz = A at hD hA hS hX ⊢
  have hl : lv_has ls 4 [(0, .ref h0)] := hl
  have hf : p_X11_scanWord F x0_8 x0_9 x0_10 x0_11 x0_13 a1 a2  = some (e_x0_9, e_x0_11, e_x0_13) := hf
  have kL49 : ∀ (n49 : Nat) (u49_1 : Int32) (u49_2 : Int32) (x0_9_49 : Int32) (x0_11_49 : Int32) (x0_13_49 : Int32), p_X11_scanWord_L49 F x0_8 x0_10 a1 a2 n49 u49_1 u49_2 x0_9_49 x0_11_49 x0_13_49 = some (e_x0_9, e_x0_11, e_x0_13) → ∀ (H : Heap) (locs : List Loc), va_P G.1 vwCl (wW_X11_scanWord G h0 h1 h2 y0_0 y0_1 y0_2 y0_3 y0_4 y0_21 y0_22 y0_23 y0_24 y0_25 y0_26 y0_33 y0_34 y0_38 y0_39 y0_40 y0_41 y0_42 y0_43 y0_45 y0_46 y0_47 y0_48 x0_5 x0_7 x0_8 x0_9_49 x0_10 x0_11_49 x0_12 x0_13_49 x0_14 x0_15 x0_16 x0_17 x0_19 x0_20 x0_27 x0_28 x0_29 x0_30 x0_31 x0_32 x0_35 x0_36 x0_37 x0_44 x0_49 x0_50 a1 a2) H → va_D A (wW_X11_scanWord G h0 h1 h2 y0_0 y0_1 y0_2 y0_3 y0_4 y0_21 y0_22 y0_23 y0_24 y0_25 y0_26 y0_33 y0_34 y0_38 y0_39 y0_40 y0_41 y0_42 y0_43 y0_45 y0_46 y0_47 y0_48 x0_5 x0_7 x0_8 x0_9_49 x0_10 x0_11_49 x0_12 x0_13_49 x0_14 x0_15 x0_16 x0_17 x0_19 x0_20 x0_27 x0_28 x0_29 x0_30 x0_31 x0_32 x0_35 x0_36 x0_37 x0_44 x0_49 x0_50 a1 a2) → va_S A s.heap H locs → ∀ ls : Array Slot, lv_has ls 4 [(0, .ref h0), (1, .int u49_1), (2, .int u49_2)] → W p l e ({ frames := 1, cells := 0, slots := 0, locals := 23 } : Room) s m (List.toArray [.ref h0]) below meth c H locs 0 0 (MQ below (QvS G A (wW_X11_scanWord G h0 h1 h2 y0_0 y0_1 y0_2 y0_3 y0_4 y0_21 y0_22 y0_23 y0_24 y0_25 y0_26 y0_33 y0_34 y0_38 y0_39 y0_40 y0_41 y0_42 y0_43 y0_45 y0_46 y0_47 y0_48 x0_5 x0_7 x0_8 e_x0_9 x0_10 e_x0_11 x0_12 e_x0_13 x0_14 x0_15 x0_16 x0_17 x0_19 x0_20 x0_27 x0_28 x0_29 x0_30 x0_31 x0_32 x0_35 x0_36 x0_37 x0_44 x0_49 x0_50 a1 a2)) (List.toArray [.ref h0]) s 0 0 A) (F0 m 49 ls []) := by
    intro n49
    induction n49 with
    | zero =>
      intro u49_1 u49_2 x0_9_49 x0_11_49 x0_13_49 hf
      cases hf
    | succ n49 ih49 =>
      have kJ88 : ∀ (u88_2 : Int32) (u88_3 : Int32) (x0_9_88 : Int32) (x0_11_88 : Int32) (x0_13_88 : Int32), p_X11_scanWord_J88 F x0_8 x0_10 a1 a2 (p_X11_scanWord_L49 F x0_8 x0_10 a1 a2 n49) u88_2 u88_3 x0_9_88 x0_11_88 x0_13_88 = some (e_x0_9, e_x0_11, e_x0_13) → ∀ (H : Heap) (locs : List Loc), va_P G.1 vwCl (wW_X11_scanWord G h0 h1 h2 y0_0 y0_1 y0_2 y0_3 y0_4 y0_21 y0_22 y0_23 y0_24 y0_25 y0_26 y0_33 y0_34 y0_38 y0_39 y0_40 y0_41 y0_42 y0_43 y0_45 y0_46 y0_47 y0_48 x0_5 x0_7 x0_8 x0_9_88 x0_10 x0_11_88 x0_12 x0_13_88 x0_14 x0_15 x0_16 x0_17 x0_19 x0_20 x0_27 x0_28 x0_29 x0_30 x0_31 x0_32 x0_35 x0_36 x0_37 x0_44 x0_49 x0_50 a1 a2) H → va_D A (wW_X11_scanWord G h0 h1 h2 y0_0 y0_1 y0_2 y0_3 y0_4 y0_21 y0_22 y0_23 y0_24 y0_25 y0_26 y0_33 y0_34 y0_38 y0_39 y0_40 y0_41 y0_42 y0_43 y0_45 y0_46 y0_47 y0_48 x0_5 x0_7 x0_8 x0_9_88 x0_10 x0_11_88 x0_12 x0_13_88 x0_14 x0_15 x0_16 x0_17 x0_19 x0_20 x0_27 x0_28 x0_29 x0_30 x0_31 x0_32 x0_35 x0_36 x0_37 x0_44 x0_49 x0_50 a1 a2) → va_S A s.heap H locs → ∀ ls : Array Slot, lv_has ls 4 [(0, .ref h0), (2, .int u88_2), (3, .int u88_3)] → W p l e ({ frames := 1, cells := 0, slots := 0, locals := 23 } : Room) s m (List.toArray [.ref h0]) below meth c H locs 0 0 (MQ below (QvS G A (wW_X11_scanWord G h0 h1 h2 y0_0 y0_1 y0_2 y0_3 y0_4 y0_21 y0_22 y0_23 y0_24 y0_25 y0_26 y0_33 y0_34 y0_38 y0_39 y0_40 y0_41 y0_42 y0_43 y0_45 y0_46 y0_47 y0_48 x0_5 x0_7 x0_8 e_x0_9 x0_10 e_x0_11 x0_12 e_x0_13 x0_14 x0_15 x0_16 x0_17 x0_19 x0_20 x0_27 x0_28 x0_29 x0_30 x0_31 x0_32 x0_35 x0_36 x0_37 x0_44 x0_49 x0_50 a1 a2)) (List.toArray [.ref h0]) s 0 0 A) (F0 m 88 ls []) := by
        intro u88_2 u88_3 x0_9_88 x0_11_88 x0_13_88 hf H locs hP hD hS ls hl
        refine lv_iload_n hx hb dX11_scanWord_88 rfl (lv_at hl 2 rfl) ?_
        refine lv_iconst (v := (1 : Int32)) hx hb dX11_scanWord_89 (by decide) ?_
        refine lv_iadd hx hb dX11_scanWord_90 ?_
        refine lv_istore_n (lv' := [(1, .int (u88_3 + (1 : Int32))), (0, .ref h0), (2, .int u88_2), (3, .int u88_3)]) hx hb dX11_scanWord_91 rfl hl (by decide) rfl (fun ls hl => ?_)
        refine lv_iinc (v := u88_2 + (1 : Int32)) (lv' := [(2, .int (u88_2 + (1 : Int32))), (1, .int (u88_3 + (1 : Int32))), (0, .ref h0), (3, .int u88_3)]) hx hb dX11_scanWord_92 hl (k := 2) rfl (by rfl) (by decide) rfl (fun ls hl => ?_)
        refine lv_goto (tgt := 49) hx hb dX11_scanWord_95 (by decide) ?_
        exact ih49 _ _ _ _ _ hf _ _ hP hD hS _ (lv_sub hl [2, 1, 0] rfl)
      have kL57 : ∀ (c57_1 : Int32) (c57_2 : Int32) (n57 : Nat) (u57_3 : Int32) (x0_9_57 : Int32) (x0_11_57 : Int32) (x0_13_57 : Int32), p_X11_scanWord_L57 F x0_8 x0_10 a1 a2 c57_1 c57_2 (p_X11_scanWord_L49 F x0_8 x0_10 a1 a2 n49) n57 u57_3 x0_9_57 x0_11_57 x0_13_57 = some (e_x0_9, e_x0_11, e_x0_13) → ∀ (H : Heap) (locs : List Loc), va_P G.1 vwCl (wW_X11_scanWord G h0 h1 h2 y0_0 y0_1 y0_2 y0_3 y0_4 y0_21 y0_22 y0_23 y0_24 y0_25 y0_26 y0_33 y0_34 y0_38 y0_39 y0_40 y0_41 y0_42 y0_43 y0_45 y0_46 y0_47 y0_48 x0_5 x0_7 x0_8 x0_9_57 x0_10 x0_11_57 x0_12 x0_13_57 x0_14 x0_15 x0_16 x0_17 x0_19 x0_20 x0_27 x0_28 x0_29 x0_30 x0_31 x0_32 x0_35 x0_36 x0_37 x0_44 x0_49 x0_50 a1 a2) H → va_D A (wW_X11_scanWord G h0 h1 h2 y0_0 y0_1 y0_2 y0_3 y0_4 y0_21 y0_22 y0_23 y0_24 y0_25 y0_26 y0_33 y0_34 y0_38 y0_39 y0_40 y0_41 y0_42 y0_43 y0_45 y0_46 y0_47 y0_48 x0_5 x0_7 x0_8 x0_9_57 x0_10 x0_11_57 x0_12 x0_13_57 x0_14 x0_15 x0_16 x0_17 x0_19 x0_20 x0_27 x0_28 x0_29 x0_30 x0_31 x0_32 x0_35 x0_36 x0_37 x0_44 x0_49 x0_50 a1 a2) → va_S A s.heap H locs → ∀ ls : Array Slot, lv_has ls 4 [(0, .ref h0), (1, .int c57_1), (2, .int c57_2), (3, .int u57_3)] → W p l e ({ frames := 1, cells := 0, slots := 0, locals := 23 } : Room) s m (List.toArray [.ref h0]) below meth c H locs 0 0 (MQ below (QvS G A (wW_X11_scanWord G h0 h1 h2 y0_0 y0_1 y0_2 y0_3 y0_4 y0_21 y0_22 y0_23 y0_24 y0_25 y0_26 y0_33 y0_34 y0_38 y0_39 y0_40 y0_41 y0_42 y0_43 y0_45 y0_46 y0_47 y0_48 x0_5 x0_7 x0_8 e_x0_9 x0_10 e_x0_11 x0_12 e_x0_13 x0_14 x0_15 x0_16 x0_17 x0_19 x0_20 x0_27 x0_28 x0_29 x0_30 x0_31 x0_32 x0_35 x0_36 x0_37 x0_44 x0_49 x0_50 a1 a2)) (List.toArray [.ref h0]) s 0 0 A) (F0 m 57 ls []) := by
        intro c57_1 c57_2 n57
        induction n57 with
        | zero =>
          intro u57_3 x0_9_57 x0_11_57 x0_13_57 hf
          cases hf
        | succ n57 ih57 =>
          intro u57_3 x0_9_57 x0_11_57 x0_13_57 hf H locs hP hD hS ls hl
          have hf : p_X11_scanWord_L57b F x0_8 x0_10 a1 a2 c57_1 c57_2 (p_X11_scanWord_L49 F x0_8 x0_10 a1 a2 n49) (p_X11_scanWord_L57 F x0_8 x0_10 a1 a2 c57_1 c57_2 (p_X11_scanWord_L49 F x0_8 x0_10 a1 a2 n49) n57) u57_3 x0_9_57 x0_11_57 x0_13_57 = some (e_x0_9, e_x0_11, e_x0_13) := hf
          refine lv_aload_n hx hb dX11_scanWord_57 rfl (lv_at hl 0 rfl) ?_
          refine va_get (ci := 11) (v := .ref h2) (C := RX11) (T := TX11) (N := 51) hx hb ht0 iX11 hown hK hP 0 rfl rfl 18 (by decide) (ht0 _ wd_1424) (fun _ h9 => h9) rfl dX11_scanWord_58 ?_
          refine lv_iload_n hx hb dX11_scanWord_61 rfl (lv_at hl 3 rfl) ?_
          obtain ⟨g1, hf⟩ := of_grd hf
          refine va_bald hx hb hK hP 2 2 rfl rfl g1 dX11_scanWord_62 ?_
          refine lv_bipush (v := (32 : Int32)) hx hb dX11_scanWord_63 (by decide) ?_
          refine lv_icmp_eq (tgt := 74) hx hb dX11_scanWord_65 (by decide) (fun c2 => ?_) (fun c2 => ?_)
          · have hf := of_pos hf c2
            refine lv_aload_n hx hb dX11_scanWord_74 rfl (lv_at hl 0 rfl) ?_
            refine lv_iload_n hx hb dX11_scanWord_75 rfl (lv_at hl 1 rfl) ?_
            refine lv_iload_n hx hb dX11_scanWord_76 rfl (lv_at hl 3 rfl) ?_
            obtain ⟨r_77_2, hc_r_77_2, hf⟩ := of_bnd hf
            refine cl_Vi (w2 := (wW_X11_scanWord G h0 h1 h2 y0_0 y0_1 y0_2 y0_3 y0_4 y0_21 y0_22 y0_23 y0_24 y0_25 y0_26 y0_33 y0_34 y0_38 y0_39 y0_40 y0_41 y0_42 y0_43 y0_45 y0_46 y0_47 y0_48 x0_5 x0_7 x0_8 x0_9_57 x0_10 x0_11_57 x0_12 x0_13_57 x0_14 x0_15 x0_16 x0_17 x0_19 x0_20 x0_27 x0_28 x0_29 x0_30 x0_31 x0_32 x0_35 x0_36 x0_37 x0_44 x0_49 x0_50 a1 a2)) (As := [.int c57_1, .int u57_3]) (rest := []) ⟨hx, hb, hml, hown, ht0⟩ (c_X11_isSame l G h0 h1 h2 y0_0 y0_1 y0_2 y0_3 y0_4 y0_21 y0_22 y0_23 y0_24 y0_25 y0_26 y0_33 y0_34 y0_38 y0_39 y0_40 y0_41 y0_42 y0_43 y0_45 y0_46 y0_47 y0_48 _ x0_5 x0_7 x0_8 x0_9_57 x0_10 x0_11_57 x0_12 x0_13_57 x0_14 x0_15 x0_16 x0_17 x0_19 x0_20 x0_27 x0_28 x0_29 x0_30 x0_31 x0_32 x0_35 x0_36 x0_37 x0_44 x0_49 x0_50 a1 a2 F c57_1 u57_3 _ hc_r_77_2) yk_X11_isSame wd_1289 ⟨rfl, rfl, by decide, by decide⟩ ⟨Nat.le_refl _, Nat.le_refl _⟩ hX hK hP hD hS hA [0, 1, 2] [] [0, 1, 2] (va_recv hK hP (ci := 11) (q0 := 0) rfl rfl) rfl rfl (by decide) rfl rfl rfl rfl rfl hl.1 rfl (Nat.le_of_ble_eq_true rfl) dX11_scanWord_77 (fun H locs hP hD hS => ?_)
            refine lv_if_eq (tgt := 88) hx hb dX11_scanWord_80 (by decide) (fun c4 => ?_) (fun c4 => ?_)
            · have hf := of_pos hf c4
              exact kJ88 _ _ _ _ _ hf _ _ hP hD hS _ (lv_sub hl [0, 2, 3] rfl)
            · have hf := of_neg hf c4
              refine lv_aload_n hx hb dX11_scanWord_83 rfl (lv_at hl 0 rfl) ?_
              refine lv_iload_n hx hb dX11_scanWord_84 rfl (lv_at hl 2 rfl) ?_
              refine va_put (ci := 11) (v := .int c57_2) (ty := .int) (C := RX11) (T := TX11) (N := 51) hx hb ht0 iX11 tyX11 tyX11_ok nmX11 hown hK hP hD hS 0 rfl rfl 13 (by decide) (ht0 _ wd_1419) (fun _ h9 => h9) rfl rfl rfl rfl (Nat.le_of_ble_eq_true rfl) dX11_scanWord_85 (fun H locs hP hD hS => ?_)
              have hP : va_P G.1 vwCl (wW_X11_scanWord G h0 h1 h2 y0_0 y0_1 y0_2 y0_3 y0_4 y0_21 y0_22 y0_23 y0_24 y0_25 y0_26 y0_33 y0_34 y0_38 y0_39 y0_40 y0_41 y0_42 y0_43 y0_45 y0_46 y0_47 y0_48 x0_5 x0_7 x0_8 x0_9_57 x0_10 x0_11_57 x0_12 c57_2 x0_14 x0_15 x0_16 x0_17 x0_19 x0_20 x0_27 x0_28 x0_29 x0_30 x0_31 x0_32 x0_35 x0_36 x0_37 x0_44 x0_49 x0_50 a1 a2) H := hP
              have hD : va_D A (wW_X11_scanWord G h0 h1 h2 y0_0 y0_1 y0_2 y0_3 y0_4 y0_21 y0_22 y0_23 y0_24 y0_25 y0_26 y0_33 y0_34 y0_38 y0_39 y0_40 y0_41 y0_42 y0_43 y0_45 y0_46 y0_47 y0_48 x0_5 x0_7 x0_8 x0_9_57 x0_10 x0_11_57 x0_12 c57_2 x0_14 x0_15 x0_16 x0_17 x0_19 x0_20 x0_27 x0_28 x0_29 x0_30 x0_31 x0_32 x0_35 x0_36 x0_37 x0_44 x0_49 x0_50 a1 a2) := hD
              exact kJ88 _ _ _ _ _ hf _ _ hP hD hS _ (lv_sub hl [0, 2, 3] rfl)
          · have hf := of_neg hf c2
            refine lv_iinc (v := u57_3 + (1 : Int32)) (lv' := [(3, .int (u57_3 + (1 : Int32))), (0, .ref h0), (1, .int c57_1), (2, .int c57_2)]) hx hb dX11_scanWord_68 hl (k := 3) rfl (by rfl) (by decide) rfl (fun ls hl => ?_)
            refine lv_goto (tgt := 57) hx hb dX11_scanWord_71 (by decide) ?_
            exact ih57 _ _ _ _ hf _ _ hP hD hS _ (lv_sub hl [1, 2, 3, 0] rfl)
      intro u49_1 u49_2 x0_9_49 x0_11_49 x0_13_49 hf H locs hP hD hS ls hl
      have hf : p_X11_scanWord_L49b F x0_8 x0_10 a1 a2 (p_X11_scanWord_L49 F x0_8 x0_10 a1 a2 n49) u49_1 u49_2 x0_9_49 x0_11_49 x0_13_49 = some (e_x0_9, e_x0_11, e_x0_13) := hf
      refine lv_iload_n hx hb dX11_scanWord_49 rfl (lv_at hl 2 rfl) ?_
      refine lv_bipush (v := (9 : Int32)) hx hb dX11_scanWord_50 (by decide) ?_
      refine lv_icmp_ge (tgt := 98) hx hb dX11_scanWord_52 (by decide) (fun c5 => ?_) (fun c5 => ?_)
      · have hf := of_pos hf c5
        cases hf
        exact ret_v hx hb hr hlk hK hP hD hS dX11_scanWord_98
      · have hf := of_neg hf c5
        refine lv_iload_n hx hb dX11_scanWord_55 rfl (lv_at hl 1 rfl) ?_
        refine lv_istore_n (lv' := [(3, .int u49_1), (0, .ref h0), (1, .int u49_1), (2, .int u49_2)]) hx hb dX11_scanWord_56 rfl hl (by decide) rfl (fun ls hl => ?_)
        exact kL57 _ _ _ _ _ _ _ hf _ _ hP hD hS _ (lv_sub hl [1, 2, 3, 0] rfl)
  have kL13 : ∀ (n13 : Nat) (x0_9_13 : Int32) (x0_11_13 : Int32) (x0_13_13 : Int32), p_X11_scanWord_L13 F x0_8 x0_10 a1 a2 n13 x0_9_13 x0_11_13 x0_13_13 = some (e_x0_9, e_x0_11, e_x0_13) → ∀ (H : Heap) (locs : List Loc), va_P G.1 vwCl (wW_X11_scanWord G h0 h1 h2 y0_0 y0_1 y0_2 y0_3 y0_4 y0_21 y0_22 y0_23 y0_24 y0_25 y0_26 y0_33 y0_34 y0_38 y0_39 y0_40 y0_41 y0_42 y0_43 y0_45 y0_46 y0_47 y0_48 x0_5 x0_7 x0_8 x0_9_13 x0_10 x0_11_13 x0_12 x0_13_13 x0_14 x0_15 x0_16 x0_17 x0_19 x0_20 x0_27 x0_28 x0_29 x0_30 x0_31 x0_32 x0_35 x0_36 x0_37 x0_44 x0_49 x0_50 a1 a2) H → va_D A (wW_X11_scanWord G h0 h1 h2 y0_0 y0_1 y0_2 y0_3 y0_4 y0_21 y0_22 y0_23 y0_24 y0_25 y0_26 y0_33 y0_34 y0_38 y0_39 y0_40 y0_41 y0_42 y0_43 y0_45 y0_46 y0_47 y0_48 x0_5 x0_7 x0_8 x0_9_13 x0_10 x0_11_13 x0_12 x0_13_13 x0_14 x0_15 x0_16 x0_17 x0_19 x0_20 x0_27 x0_28 x0_29 x0_30 x0_31 x0_32 x0_35 x0_36 x0_37 x0_44 x0_49 x0_50 a1 a2) → va_S A s.heap H locs → ∀ ls : Array Slot, lv_has ls 4 [(0, .ref h0)] → W p l e ({ frames := 1, cells := 0, slots := 0, locals := 23 } : Room) s m (List.toArray [.ref h0]) below meth c H locs 0 0 (MQ below (QvS G A (wW_X11_scanWord G h0 h1 h2 y0_0 y0_1 y0_2 y0_3 y0_4 y0_21 y0_22 y0_23 y0_24 y0_25 y0_26 y0_33 y0_34 y0_38 y0_39 y0_40 y0_41 y0_42 y0_43 y0_45 y0_46 y0_47 y0_48 x0_5 x0_7 x0_8 e_x0_9 x0_10 e_x0_11 x0_12 e_x0_13 x0_14 x0_15 x0_16 x0_17 x0_19 x0_20 x0_27 x0_28 x0_29 x0_30 x0_31 x0_32 x0_35 x0_36 x0_37 x0_44 x0_49 x0_50 a1 a2)) (List.toArray [.ref h0]) s 0 0 A) (F0 m 13 ls []) := by
    intro n13
    induction n13 with
    | zero =>
      intro x0_9_13 x0_11_13 x0_13_13 hf
      cases hf
    | succ n13 ih13 =>
      intro x0_9_13 x0_11_13 x0_13_13 hf H locs hP hD hS ls hl
      have hf : p_X11_scanWord_L13b F x0_8 x0_10 a1 a2 (p_X11_scanWord_L13 F x0_8 x0_10 a1 a2 n13) x0_9_13 x0_11_13 x0_13_13 = some (e_x0_9, e_x0_11, e_x0_13) := hf
      refine lv_aload_n hx hb dX11_scanWord_13 rfl (lv_at hl 0 rfl) ?_
      refine lv_aload_n hx hb dX11_scanWord_14 rfl (lv_at hl 0 rfl) ?_
      refine va_get (ci := 11) (v := .int x0_9_13) (C := RX11) (T := TX11) (N := 51) hx hb ht0 iX11 hown hK hP 0 rfl rfl 9 (by decide) (ht0 _ wd_1415) (fun _ h9 => h9) rfl dX11_scanWord_15 ?_
      obtain ⟨r_18_5, hc_r_18_5, hf⟩ := of_bnd hf
      refine cl_Vi (w2 := (wW_X11_scanWord G h0 h1 h2 y0_0 y0_1 y0_2 y0_3 y0_4 y0_21 y0_22 y0_23 y0_24 y0_25 y0_26 y0_33 y0_34 y0_38 y0_39 y0_40 y0_41 y0_42 y0_43 y0_45 y0_46 y0_47 y0_48 x0_5 x0_7 x0_8 x0_9_13 x0_10 x0_11_13 x0_12 x0_13_13 x0_14 x0_15 x0_16 x0_17 x0_19 x0_20 x0_27 x0_28 x0_29 x0_30 x0_31 x0_32 x0_35 x0_36 x0_37 x0_44 x0_49 x0_50 a1 a2)) (As := [.int x0_9_13]) (rest := []) ⟨hx, hb, hml, hown, ht0⟩ (c_X11_signAt l G h0 h1 y0_0 y0_1 y0_2 y0_3 y0_4 h2 y0_21 y0_22 y0_23 y0_24 y0_25 y0_26 y0_33 y0_34 y0_38 y0_39 y0_40 y0_41 y0_42 y0_43 y0_45 y0_46 y0_47 y0_48 _ x0_5 x0_7 x0_8 x0_9_13 x0_10 x0_11_13 x0_12 x0_13_13 x0_14 x0_15 x0_16 x0_17 x0_19 x0_20 x0_27 x0_28 x0_29 x0_30 x0_31 x0_32 x0_35 x0_36 x0_37 x0_44 x0_49 x0_50 a1 F x0_9_13 _ hc_r_18_5) yk_X11_signAt wd_1278 ⟨rfl, rfl, by decide, by decide⟩ ⟨Nat.le_refl _, Nat.le_refl _⟩ hX hK hP hD hS hA [0, 1] [2] [1, 2, 0] (va_recv hK hP (ci := 11) (q0 := 0) rfl rfl) rfl rfl (by decide) rfl rfl rfl rfl rfl hl.1 rfl (Nat.le_of_ble_eq_true rfl) dX11_scanWord_18 (fun H locs hP hD hS => ?_)
      obtain ⟨r_21_6, hc_r_21_6, hf⟩ := of_bnd hf
      refine cl_Si (w2 := (wW_X11_scanWord G h0 h1 h2 y0_0 y0_1 y0_2 y0_3 y0_4 y0_21 y0_22 y0_23 y0_24 y0_25 y0_26 y0_33 y0_34 y0_38 y0_39 y0_40 y0_41 y0_42 y0_43 y0_45 y0_46 y0_47 y0_48 x0_5 x0_7 x0_8 x0_9_13 x0_10 x0_11_13 x0_12 x0_13_13 x0_14 x0_15 x0_16 x0_17 x0_19 x0_20 x0_27 x0_28 x0_29 x0_30 x0_31 x0_32 x0_35 x0_36 x0_37 x0_44 x0_49 x0_50 a1 a2)) (As := [.int r_18_5]) (rest := []) ⟨hx, hb, hml, hown, ht0⟩ (c_X11_isLetter l G _ F r_18_5 _ hc_r_21_6) yk_X11_isLetter wd_1282 ⟨rfl, rfl, by decide, by decide⟩ ⟨Nat.le_refl _, Nat.le_refl _⟩ hX hK hP hD hS hA [] [0, 1, 2] [0, 1, 2] rfl rfl (by decide) rfl rfl rfl rfl rfl hl.1 rfl (Nat.le_of_ble_eq_true rfl) dX11_scanWord_21 (fun H locs hP hD hS => ?_)
      refine lv_if_eq (tgt := 40) hx hb dX11_scanWord_24 (by decide) (fun c8 => ?_) (fun c8 => ?_)
      · have hf := of_pos hf c8
        refine lv_aload_n hx hb dX11_scanWord_40 rfl (lv_at hl 0 rfl) ?_
        refine lv_iconst (v := (-1 : Int32)) hx hb dX11_scanWord_41 (by decide) ?_
        refine va_put (ci := 11) (v := .int (-1 : Int32)) (ty := .int) (C := RX11) (T := TX11) (N := 51) hx hb ht0 iX11 tyX11 tyX11_ok nmX11 hown hK hP hD hS 0 rfl rfl 13 (by decide) (ht0 _ wd_1419) (fun _ h9 => h9) rfl rfl rfl rfl (Nat.le_of_ble_eq_true rfl) dX11_scanWord_42 (fun H locs hP hD hS => ?_)
        have hP : va_P G.1 vwCl (wW_X11_scanWord G h0 h1 h2 y0_0 y0_1 y0_2 y0_3 y0_4 y0_21 y0_22 y0_23 y0_24 y0_25 y0_26 y0_33 y0_34 y0_38 y0_39 y0_40 y0_41 y0_42 y0_43 y0_45 y0_46 y0_47 y0_48 x0_5 x0_7 x0_8 x0_9_13 x0_10 x0_11_13 x0_12 (-1 : Int32) x0_14 x0_15 x0_16 x0_17 x0_19 x0_20 x0_27 x0_28 x0_29 x0_30 x0_31 x0_32 x0_35 x0_36 x0_37 x0_44 x0_49 x0_50 a1 a2) H := hP
        have hD : va_D A (wW_X11_scanWord G h0 h1 h2 y0_0 y0_1 y0_2 y0_3 y0_4 y0_21 y0_22 y0_23 y0_24 y0_25 y0_26 y0_33 y0_34 y0_38 y0_39 y0_40 y0_41 y0_42 y0_43 y0_45 y0_46 y0_47 y0_48 x0_5 x0_7 x0_8 x0_9_13 x0_10 x0_11_13 x0_12 (-1 : Int32) x0_14 x0_15 x0_16 x0_17 x0_19 x0_20 x0_27 x0_28 x0_29 x0_30 x0_31 x0_32 x0_35 x0_36 x0_37 x0_44 x0_49 x0_50 a1 a2) := hD
        refine lv_iconst (v := (0 : Int32)) hx hb dX11_scanWord_45 (by decide) ?_
        refine lv_istore_n (lv' := [(1, .int (0 : Int32)), (0, .ref h0)]) hx hb dX11_scanWord_46 rfl hl (by decide) rfl (fun ls hl => ?_)
        refine lv_iconst (v := (0 : Int32)) hx hb dX11_scanWord_47 (by decide) ?_
        refine lv_istore_n (lv' := [(2, .int (0 : Int32)), (1, .int (0 : Int32)), (0, .ref h0)]) hx hb dX11_scanWord_48 rfl hl (by decide) rfl (fun ls hl => ?_)
        exact kL49 _ _ _ _ _ _ hf _ _ hP hD hS _ (lv_sub hl [2, 1, 0] rfl)
      · have hf := of_neg hf c8
        refine lv_aload_n hx hb dX11_scanWord_27 rfl (lv_at hl 0 rfl) ?_
        refine lv_dup hx hb dX11_scanWord_28 rfl ?_
        refine va_get (ci := 11) (v := .int x0_9_13) (C := RX11) (T := TX11) (N := 51) hx hb ht0 iX11 hown hK hP 0 rfl rfl 9 (by decide) (ht0 _ wd_1415) (fun _ h9 => h9) rfl dX11_scanWord_29 ?_
        refine lv_iconst (v := (1 : Int32)) hx hb dX11_scanWord_32 (by decide) ?_
        refine lv_iadd hx hb dX11_scanWord_33 ?_
        refine va_put (ci := 11) (v := .int (x0_9_13 + (1 : Int32))) (ty := .int) (C := RX11) (T := TX11) (N := 51) hx hb ht0 iX11 tyX11 tyX11_ok nmX11 hown hK hP hD hS 0 rfl rfl 9 (by decide) (ht0 _ wd_1415) (fun _ h9 => h9) rfl rfl rfl rfl (Nat.le_of_ble_eq_true rfl) dX11_scanWord_34 (fun H locs hP hD hS => ?_)
        have hP : va_P G.1 vwCl (wW_X11_scanWord G h0 h1 h2 y0_0 y0_1 y0_2 y0_3 y0_4 y0_21 y0_22 y0_23 y0_24 y0_25 y0_26 y0_33 y0_34 y0_38 y0_39 y0_40 y0_41 y0_42 y0_43 y0_45 y0_46 y0_47 y0_48 x0_5 x0_7 x0_8 (x0_9_13 + (1 : Int32)) x0_10 x0_11_13 x0_12 x0_13_13 x0_14 x0_15 x0_16 x0_17 x0_19 x0_20 x0_27 x0_28 x0_29 x0_30 x0_31 x0_32 x0_35 x0_36 x0_37 x0_44 x0_49 x0_50 a1 a2) H := hP
        have hD : va_D A (wW_X11_scanWord G h0 h1 h2 y0_0 y0_1 y0_2 y0_3 y0_4 y0_21 y0_22 y0_23 y0_24 y0_25 y0_26 y0_33 y0_34 y0_38 y0_39 y0_40 y0_41 y0_42 y0_43 y0_45 y0_46 y0_47 y0_48 x0_5 x0_7 x0_8 (x0_9_13 + (1 : Int32)) x0_10 x0_11_13 x0_12 x0_13_13 x0_14 x0_15 x0_16 x0_17 x0_19 x0_20 x0_27 x0_28 x0_29 x0_30 x0_31 x0_32 x0_35 x0_36 x0_37 x0_44 x0_49 x0_50 a1 a2) := hD
        refine lv_goto (tgt := 13) hx hb dX11_scanWord_37 (by decide) ?_
        exact ih13 _ _ _ hf _ _ hP hD hS _ (lv_sub hl [0] rfl)
  refine lv_aload_n hx hb dX11_scanWord_0 rfl (lv_at hl 0 rfl) ?_
  refine lv_iconst (v := (2 : Int32)) hx hb dX11_scanWord_1 (by decide) ?_
  refine va_put (ci := 11) (v := .int (2 : Int32)) (ty := .int) (C := RX11) (T := TX11) (N := 51) hx hb ht0 iX11 tyX11 tyX11_ok nmX11 hown hK hP hD hS 0 rfl rfl 11 (by decide) (ht0 _ wd_1417) (fun _ h9 => h9) rfl rfl rfl rfl (Nat.le_of_ble_eq_true rfl) dX11_scanWord_2 (fun H locs hP hD hS => ?_)
  have hP : va_P G.1 vwCl (wW_X11_scanWord G h0 h1 h2 y0_0 y0_1 y0_2 y0_3 y0_4 y0_21 y0_22 y0_23 y0_24 y0_25 y0_26 y0_33 y0_34 y0_38 y0_39 y0_40 y0_41 y0_42 y0_43 y0_45 y0_46 y0_47 y0_48 x0_5 x0_7 x0_8 x0_9 x0_10 (2 : Int32) x0_12 x0_13 x0_14 x0_15 x0_16 x0_17 x0_19 x0_20 x0_27 x0_28 x0_29 x0_30 x0_31 x0_32 x0_35 x0_36 x0_37 x0_44 x0_49 x0_50 a1 a2) H := hP
  have hD : va_D A (wW_X11_scanWord G h0 h1 h2 y0_0 y0_1 y0_2 y0_3 y0_4 y0_21 y0_22 y0_23 y0_24 y0_25 y0_26 y0_33 y0_34 y0_38 y0_39 y0_40 y0_41 y0_42 y0_43 y0_45 y0_46 y0_47 y0_48 x0_5 x0_7 x0_8 x0_9 x0_10 (2 : Int32) x0_12 x0_13 x0_14 x0_15 x0_16 x0_17 x0_19 x0_20 x0_27 x0_28 x0_29 x0_30 x0_31 x0_32 x0_35 x0_36 x0_37 x0_44 x0_49 x0_50 a1 a2) := hD
  refine lv_aload_n hx hb dX11_scanWord_5 rfl (lv_at hl 0 rfl) ?_
  refine lv_aload_n hx hb dX11_scanWord_6 rfl (lv_at hl 0 rfl) ?_
  refine va_get (ci := 11) (v := .int x0_10) (C := RX11) (T := TX11) (N := 51) hx hb ht0 iX11 hown hK hP 0 rfl rfl 10 (by decide) (ht0 _ wd_1416) (fun _ h9 => h9) rfl dX11_scanWord_7 ?_
  refine va_put (ci := 11) (v := .int x0_10) (ty := .int) (C := RX11) (T := TX11) (N := 51) hx hb ht0 iX11 tyX11 tyX11_ok nmX11 hown hK hP hD hS 0 rfl rfl 9 (by decide) (ht0 _ wd_1415) (fun _ h9 => h9) rfl rfl rfl rfl (Nat.le_of_ble_eq_true rfl) dX11_scanWord_10 (fun H locs hP hD hS => ?_)
  have hP : va_P G.1 vwCl (wW_X11_scanWord G h0 h1 h2 y0_0 y0_1 y0_2 y0_3 y0_4 y0_21 y0_22 y0_23 y0_24 y0_25 y0_26 y0_33 y0_34 y0_38 y0_39 y0_40 y0_41 y0_42 y0_43 y0_45 y0_46 y0_47 y0_48 x0_5 x0_7 x0_8 x0_10 x0_10 (2 : Int32) x0_12 x0_13 x0_14 x0_15 x0_16 x0_17 x0_19 x0_20 x0_27 x0_28 x0_29 x0_30 x0_31 x0_32 x0_35 x0_36 x0_37 x0_44 x0_49 x0_50 a1 a2) H := hP
  have hD : va_D A (wW_X11_scanWord G h0 h1 h2 y0_0 y0_1 y0_2 y0_3 y0_4 y0_21 y0_22 y0_23 y0_24 y0_25 y0_26 y0_33 y0_34 y0_38 y0_39 y0_40 y0_41 y0_42 y0_43 y0_45 y0_46 y0_47 y0_48 x0_5 x0_7 x0_8 x0_10 x0_10 (2 : Int32) x0_12 x0_13 x0_14 x0_15 x0_16 x0_17 x0_19 x0_20 x0_27 x0_28 x0_29 x0_30 x0_31 x0_32 x0_35 x0_36 x0_37 x0_44 x0_49 x0_50 a1 a2) := hD
  exact kL13 _ _ _ _ hf _ _ hP hD hS _ (lv_sub hl [0] rfl)
theorem yk_X11_scanWord : ykV yX11_scanWord RX11 cX11_scanWord 4 none 0 := ⟨wd_1287, wd_44, wd_142, wd_1288, rfl, by decide +kernel, by decide +kernel, by decide +kernel⟩
theorem dX11_scanNumber_0 : decode cX11_scanNumber 0 = .ok (.aload_n 0, 1) := by decide +kernel
theorem dX11_scanNumber_1 : decode cX11_scanNumber 1 = .ok (.iconst 3, 1) := by decide +kernel
theorem dX11_scanNumber_2 : decode cX11_scanNumber 2 = .ok (.putfield 134, 3) := by decide +kernel
theorem dX11_scanNumber_5 : decode cX11_scanNumber 5 = .ok (.aload_n 0, 1) := by decide +kernel
theorem dX11_scanNumber_6 : decode cX11_scanNumber 6 = .ok (.iconst 0, 1) := by decide +kernel
theorem dX11_scanNumber_7 : decode cX11_scanNumber 7 = .ok (.putfield 156, 3) := by decide +kernel
theorem dX11_scanNumber_10 : decode cX11_scanNumber 10 = .ok (.aload_n 0, 1) := by decide +kernel
theorem dX11_scanNumber_11 : decode cX11_scanNumber 11 = .ok (.aload_n 0, 1) := by decide +kernel
theorem dX11_scanNumber_12 : decode cX11_scanNumber 12 = .ok (.getfield 123, 3) := by decide +kernel
theorem dX11_scanNumber_15 : decode cX11_scanNumber 15 = .ok (.putfield 120, 3) := by decide +kernel
theorem dX11_scanNumber_18 : decode cX11_scanNumber 18 = .ok (.aload_n 0, 1) := by decide +kernel
theorem dX11_scanNumber_19 : decode cX11_scanNumber 19 = .ok (.aload_n 0, 1) := by decide +kernel
theorem dX11_scanNumber_20 : decode cX11_scanNumber 20 = .ok (.getfield 120, 3) := by decide +kernel
theorem dX11_scanNumber_23 : decode cX11_scanNumber 23 = .ok (.invokevirtual 130, 3) := by decide +kernel
theorem dX11_scanNumber_26 : decode cX11_scanNumber 26 = .ok (.invokestatic 143, 3) := by decide +kernel
theorem dX11_scanNumber_29 : decode cX11_scanNumber 29 = .ok (.ifCond .eq 55, 3) := by decide +kernel
theorem dX11_scanNumber_32 : decode cX11_scanNumber 32 = .ok (.aload_n 0, 1) := by decide +kernel
theorem dX11_scanNumber_33 : decode cX11_scanNumber 33 = .ok (.aload_n 0, 1) := by decide +kernel
theorem dX11_scanNumber_34 : decode cX11_scanNumber 34 = .ok (.getfield 156, 3) := by decide +kernel
theorem dX11_scanNumber_37 : decode cX11_scanNumber 37 = .ok (.ldc 159, 2) := by decide +kernel
theorem dX11_scanNumber_39 : decode cX11_scanNumber 39 = .ok (.if_icmp .le 10, 3) := by decide +kernel
theorem dX11_scanNumber_42 : decode cX11_scanNumber 42 = .ok (.aload_n 0, 1) := by decide +kernel
theorem dX11_scanNumber_43 : decode cX11_scanNumber 43 = .ok (.getfield 156, 3) := by decide +kernel
theorem dX11_scanNumber_46 : decode cX11_scanNumber 46 = .ok (.goto 22, 3) := by decide +kernel
theorem dX11_scanNumber_49 : decode cX11_scanNumber 49 = .ok (.bipush 10, 2) := by decide +kernel
theorem dX11_scanNumber_51 : decode cX11_scanNumber 51 = .ok (.aload_n 0, 1) := by decide +kernel
theorem dX11_scanNumber_52 : decode cX11_scanNumber 52 = .ok (.getfield 156, 3) := by decide +kernel
theorem dX11_scanNumber_55 : decode cX11_scanNumber 55 = .ok (.imul, 1) := by decide +kernel
theorem dX11_scanNumber_56 : decode cX11_scanNumber 56 = .ok (.aload_n 0, 1) := by decide +kernel
theorem dX11_scanNumber_57 : decode cX11_scanNumber 57 = .ok (.aload_n 0, 1) := by decide +kernel
theorem dX11_scanNumber_58 : decode cX11_scanNumber 58 = .ok (.getfield 120, 3) := by decide +kernel
theorem dX11_scanNumber_61 : decode cX11_scanNumber 61 = .ok (.invokevirtual 130, 3) := by decide +kernel
theorem dX11_scanNumber_64 : decode cX11_scanNumber 64 = .ok (.iadd, 1) := by decide +kernel
theorem dX11_scanNumber_65 : decode cX11_scanNumber 65 = .ok (.bipush 48, 2) := by decide +kernel
theorem dX11_scanNumber_67 : decode cX11_scanNumber 67 = .ok (.isub, 1) := by decide +kernel
theorem dX11_scanNumber_68 : decode cX11_scanNumber 68 = .ok (.putfield 156, 3) := by decide +kernel
theorem dX11_scanNumber_71 : decode cX11_scanNumber 71 = .ok (.aload_n 0, 1) := by decide +kernel
theorem dX11_scanNumber_72 : decode cX11_scanNumber 72 = .ok (.dup, 1) := by decide +kernel
theorem dX11_scanNumber_73 : decode cX11_scanNumber 73 = .ok (.getfield 120, 3) := by decide +kernel
theorem dX11_scanNumber_76 : decode cX11_scanNumber 76 = .ok (.iconst 1, 1) := by decide +kernel
theorem dX11_scanNumber_77 : decode cX11_scanNumber 77 = .ok (.iadd, 1) := by decide +kernel
theorem dX11_scanNumber_78 : decode cX11_scanNumber 78 = .ok (.putfield 120, 3) := by decide +kernel
theorem dX11_scanNumber_81 : decode cX11_scanNumber 81 = .ok (.goto (-63), 3) := by decide +kernel
theorem dX11_scanNumber_84 : decode cX11_scanNumber 84 = .ok (.return_, 1) := by decide +kernel
def wW_X11_scanNumber (G : GG) (h0 h1 y0_0 y0_1 y0_2 y0_3 y0_4 y0_18 y0_21 y0_22 y0_23 y0_24 y0_25 y0_26 y0_33 y0_34 y0_38 y0_39 y0_40 y0_41 y0_42 y0_43 y0_45 y0_46 y0_47 y0_48 : Nat) (x0_5 : Int32) (x0_7 : Int32) (x0_8 : Int32) (x0_9 : Int32) (x0_10 : Int32) (x0_11 : Int32) (x0_12 : Int32) (x0_13 : Int32) (x0_14 : Int32) (x0_15 : Int32) (x0_16 : Int32) (x0_17 : Int32) (x0_19 : Int32) (x0_20 : Int32) (x0_27 : Int32) (x0_28 : Int32) (x0_29 : Int32) (x0_30 : Int32) (x0_31 : Int32) (x0_32 : Int32) (x0_35 : Int32) (x0_36 : Int32) (x0_37 : Int32) (x0_44 : Int32) (x0_49 : Int32) (x0_50 : Int32) (a1 : Nat → Int32) : va_W := [(h0, .inr (11, [.ref y0_0, .ref y0_1, .ref y0_2, .ref y0_3, .ref y0_4, .int x0_5, .ref h1, .int x0_7, .int x0_8, .int x0_9, .int x0_10, .int x0_11, .int x0_12, .int x0_13, .int x0_14, .int x0_15, .int x0_16, .int x0_17, .ref y0_18, .int x0_19, .int x0_20, .ref y0_21, .ref y0_22, .ref y0_23, .ref y0_24, .ref y0_25, .ref y0_26, .int x0_27, .int x0_28, .int x0_29, .int x0_30, .int x0_31, .int x0_32, .ref y0_33, .ref y0_34, .int x0_35, .int x0_36, .int x0_37, .ref y0_38, .ref y0_39, .ref y0_40, .ref y0_41, .ref y0_42, .ref y0_43, .int x0_44, .ref y0_45, .ref y0_46, .ref y0_47, .ref y0_48, .int x0_49, .int x0_50])), (h1, .inl (G.2.2.2.1, 600, .inl a1))]
set_option maxHeartbeats 4000000 in
set_option maxRecDepth 100000 in
theorem c_X11_scanNumber (l : Launch) (G : GG) (h0 h1 y0_0 y0_1 y0_2 y0_3 y0_4 y0_18 y0_21 y0_22 y0_23 y0_24 y0_25 y0_26 y0_33 y0_34 y0_38 y0_39 y0_40 y0_41 y0_42 y0_43 y0_45 y0_46 y0_47 y0_48 : Nat) (sz : Nat) (x0_5 : Int32) (x0_7 : Int32) (x0_8 : Int32) (x0_9 : Int32) (x0_10 : Int32) (x0_11 : Int32) (x0_12 : Int32) (x0_13 : Int32) (x0_14 : Int32) (x0_15 : Int32) (x0_16 : Int32) (x0_17 : Int32) (x0_19 : Int32) (x0_20 : Int32) (x0_27 : Int32) (x0_28 : Int32) (x0_29 : Int32) (x0_30 : Int32) (x0_31 : Int32) (x0_32 : Int32) (x0_35 : Int32) (x0_36 : Int32) (x0_37 : Int32) (x0_44 : Int32) (x0_49 : Int32) (x0_50 : Int32) (a1 : Nat → Int32) (F : Nat)   (e_x0_9 : Int32) (e_x0_11 : Int32) (e_x0_12 : Int32) (hf : p_X11_scanNumber F x0_8 x0_9 x0_10 x0_11 x0_12 a1  = some (e_x0_9, e_x0_11, e_x0_12)) : Met l yX11_scanNumber (.code yX11_scanNumber cX11_scanNumber 1 none :: gtbl) ({ frames := 1, cells := 0, slots := 0, locals := 21 } : Room) (PcS G [.ref h0] (wW_X11_scanNumber G h0 h1 y0_0 y0_1 y0_2 y0_3 y0_4 y0_18 y0_21 y0_22 y0_23 y0_24 y0_25 y0_26 y0_33 y0_34 y0_38 y0_39 y0_40 y0_41 y0_42 y0_43 y0_45 y0_46 y0_47 y0_48 x0_5 x0_7 x0_8 x0_9 x0_10 x0_11 x0_12 x0_13 x0_14 x0_15 x0_16 x0_17 x0_19 x0_20 x0_27 x0_28 x0_29 x0_30 x0_31 x0_32 x0_35 x0_36 x0_37 x0_44 x0_49 x0_50 a1) sz) (QvS G (va_A (wW_X11_scanNumber G h0 h1 y0_0 y0_1 y0_2 y0_3 y0_4 y0_18 y0_21 y0_22 y0_23 y0_24 y0_25 y0_26 y0_33 y0_34 y0_38 y0_39 y0_40 y0_41 y0_42 y0_43 y0_45 y0_46 y0_47 y0_48 x0_5 x0_7 x0_8 x0_9 x0_10 x0_11 x0_12 x0_13 x0_14 x0_15 x0_16 x0_17 x0_19 x0_20 x0_27 x0_28 x0_29 x0_30 x0_31 x0_32 x0_35 x0_36 x0_37 x0_44 x0_49 x0_50 a1) sz) (wW_X11_scanNumber G h0 h1 y0_0 y0_1 y0_2 y0_3 y0_4 y0_18 y0_21 y0_22 y0_23 y0_24 y0_25 y0_26 y0_33 y0_34 y0_38 y0_39 y0_40 y0_41 y0_42 y0_43 y0_45 y0_46 y0_47 y0_48 x0_5 x0_7 x0_8 e_x0_9 x0_10 e_x0_11 e_x0_12 x0_13 x0_14 x0_15 x0_16 x0_17 x0_19 x0_20 x0_27 x0_28 x0_29 x0_30 x0_31 x0_32 x0_35 x0_36 x0_37 x0_44 x0_49 x0_50 a1)) 0 0 (va_A (wW_X11_scanNumber G h0 h1 y0_0 y0_1 y0_2 y0_3 y0_4 y0_18 y0_21 y0_22 y0_23 y0_24 y0_25 y0_26 y0_33 y0_34 y0_38 y0_39 y0_40 y0_41 y0_42 y0_43 y0_45 y0_46 y0_47 y0_48 x0_5 x0_7 x0_8 x0_9 x0_10 x0_11 x0_12 x0_13 x0_14 x0_15 x0_16 x0_17 x0_19 x0_20 x0_27 x0_28 x0_29 x0_30 x0_31 x0_32 x0_35 x0_36 x0_37 x0_44 x0_49 x0_50 a1) sz) := by
  refine met_start (by decide) (Nat.le_of_ble_eq_true rfl) ?_
  intro p e s m below meth c hC hr hlk hnm hK hP hD hA hS hX ls hl
  obtain ⟨hx, hb, hml, hown, ht0⟩ := hC
  have hown : s.vm.findClass RX11 = some m.cls := hown
  generalize va_A (wW_X11_scanNumber G h0 h1 y0_0 y0_1 y0_2 y0_3 y0_4 y0_18 y0_21 y0_22 y0_23 y0_24 y0_25 y0_26 y0_33 y0_34 y0_38 y0_39 y0_40 y0_41 y0_42 y0_43 y0_45 y0_46 y0_47 y0_48 x0_5 x0_7 x0_8 x0_9 x0_10 x0_11 x0_12 x0_13 x0_14 x0_15 x0_16 x0_17 x0_19 x0_20 x0_27 x0_28 x0_29 x0_30 x0_31 x0_32 x0_35 x0_36 x0_37 x0_44 x0_49 x0_50 a1) sz = A at hD hA hS hX ⊢
  have hl : lv_has ls 1 [(0, .ref h0)] := hl
  have hf : p_X11_scanNumber F x0_8 x0_9 x0_10 x0_11 x0_12 a1  = some (e_x0_9, e_x0_11, e_x0_12) := hf
  have kL18 : ∀ (n18 : Nat) (x0_9_18 : Int32) (x0_11_18 : Int32) (x0_12_18 : Int32), p_X11_scanNumber_L18 F x0_8 x0_10 a1 n18 x0_9_18 x0_11_18 x0_12_18 = some (e_x0_9, e_x0_11, e_x0_12) → ∀ (H : Heap) (locs : List Loc), va_P G.1 vwCl (wW_X11_scanNumber G h0 h1 y0_0 y0_1 y0_2 y0_3 y0_4 y0_18 y0_21 y0_22 y0_23 y0_24 y0_25 y0_26 y0_33 y0_34 y0_38 y0_39 y0_40 y0_41 y0_42 y0_43 y0_45 y0_46 y0_47 y0_48 x0_5 x0_7 x0_8 x0_9_18 x0_10 x0_11_18 x0_12_18 x0_13 x0_14 x0_15 x0_16 x0_17 x0_19 x0_20 x0_27 x0_28 x0_29 x0_30 x0_31 x0_32 x0_35 x0_36 x0_37 x0_44 x0_49 x0_50 a1) H → va_D A (wW_X11_scanNumber G h0 h1 y0_0 y0_1 y0_2 y0_3 y0_4 y0_18 y0_21 y0_22 y0_23 y0_24 y0_25 y0_26 y0_33 y0_34 y0_38 y0_39 y0_40 y0_41 y0_42 y0_43 y0_45 y0_46 y0_47 y0_48 x0_5 x0_7 x0_8 x0_9_18 x0_10 x0_11_18 x0_12_18 x0_13 x0_14 x0_15 x0_16 x0_17 x0_19 x0_20 x0_27 x0_28 x0_29 x0_30 x0_31 x0_32 x0_35 x0_36 x0_37 x0_44 x0_49 x0_50 a1) → va_S A s.heap H locs → ∀ ls : Array Slot, lv_has ls 1 [(0, .ref h0)] → W p l e ({ frames := 1, cells := 0, slots := 0, locals := 21 } : Room) s m (List.toArray [.ref h0]) below meth c H locs 0 0 (MQ below (QvS G A (wW_X11_scanNumber G h0 h1 y0_0 y0_1 y0_2 y0_3 y0_4 y0_18 y0_21 y0_22 y0_23 y0_24 y0_25 y0_26 y0_33 y0_34 y0_38 y0_39 y0_40 y0_41 y0_42 y0_43 y0_45 y0_46 y0_47 y0_48 x0_5 x0_7 x0_8 e_x0_9 x0_10 e_x0_11 e_x0_12 x0_13 x0_14 x0_15 x0_16 x0_17 x0_19 x0_20 x0_27 x0_28 x0_29 x0_30 x0_31 x0_32 x0_35 x0_36 x0_37 x0_44 x0_49 x0_50 a1)) (List.toArray [.ref h0]) s 0 0 A) (F0 m 18 ls []) := by
    intro n18
    induction n18 with
    | zero =>
      intro x0_9_18 x0_11_18 x0_12_18 hf
      cases hf
    | succ n18 ih18 =>
      have kJ68 : ∀ (s68_1 : Int32) (x0_9_68 : Int32) (x0_11_68 : Int32) (x0_12_68 : Int32), p_X11_scanNumber_J68 F x0_8 x0_10 a1 (p_X11_scanNumber_L18 F x0_8 x0_10 a1 n18) s68_1 x0_9_68 x0_11_68 x0_12_68 = some (e_x0_9, e_x0_11, e_x0_12) → ∀ (H : Heap) (locs : List Loc), va_P G.1 vwCl (wW_X11_scanNumber G h0 h1 y0_0 y0_1 y0_2 y0_3 y0_4 y0_18 y0_21 y0_22 y0_23 y0_24 y0_25 y0_26 y0_33 y0_34 y0_38 y0_39 y0_40 y0_41 y0_42 y0_43 y0_45 y0_46 y0_47 y0_48 x0_5 x0_7 x0_8 x0_9_68 x0_10 x0_11_68 x0_12_68 x0_13 x0_14 x0_15 x0_16 x0_17 x0_19 x0_20 x0_27 x0_28 x0_29 x0_30 x0_31 x0_32 x0_35 x0_36 x0_37 x0_44 x0_49 x0_50 a1) H → va_D A (wW_X11_scanNumber G h0 h1 y0_0 y0_1 y0_2 y0_3 y0_4 y0_18 y0_21 y0_22 y0_23 y0_24 y0_25 y0_26 y0_33 y0_34 y0_38 y0_39 y0_40 y0_41 y0_42 y0_43 y0_45 y0_46 y0_47 y0_48 x0_5 x0_7 x0_8 x0_9_68 x0_10 x0_11_68 x0_12_68 x0_13 x0_14 x0_15 x0_16 x0_17 x0_19 x0_20 x0_27 x0_28 x0_29 x0_30 x0_31 x0_32 x0_35 x0_36 x0_37 x0_44 x0_49 x0_50 a1) → va_S A s.heap H locs → ∀ ls : Array Slot, lv_has ls 1 [(0, .ref h0)] → W p l e ({ frames := 1, cells := 0, slots := 0, locals := 21 } : Room) s m (List.toArray [.ref h0]) below meth c H locs 0 0 (MQ below (QvS G A (wW_X11_scanNumber G h0 h1 y0_0 y0_1 y0_2 y0_3 y0_4 y0_18 y0_21 y0_22 y0_23 y0_24 y0_25 y0_26 y0_33 y0_34 y0_38 y0_39 y0_40 y0_41 y0_42 y0_43 y0_45 y0_46 y0_47 y0_48 x0_5 x0_7 x0_8 e_x0_9 x0_10 e_x0_11 e_x0_12 x0_13 x0_14 x0_15 x0_16 x0_17 x0_19 x0_20 x0_27 x0_28 x0_29 x0_30 x0_31 x0_32 x0_35 x0_36 x0_37 x0_44 x0_49 x0_50 a1)) (List.toArray [.ref h0]) s 0 0 A) (F0 m 68 ls [.int s68_1, .ref h0]) := by
        intro s68_1 x0_9_68 x0_11_68 x0_12_68 hf H locs hP hD hS ls hl
        refine va_put (ci := 11) (v := .int s68_1) (ty := .int) (C := RX11) (T := TX11) (N := 51) hx hb ht0 iX11 tyX11 tyX11_ok nmX11 hown hK hP hD hS 0 rfl rfl 12 (by decide) (ht0 _ wd_1418) (fun _ h9 => h9) rfl rfl rfl rfl (Nat.le_of_ble_eq_true rfl) dX11_scanNumber_68 (fun H locs hP hD hS => ?_)
        have hP : va_P G.1 vwCl (wW_X11_scanNumber G h0 h1 y0_0 y0_1 y0_2 y0_3 y0_4 y0_18 y0_21 y0_22 y0_23 y0_24 y0_25 y0_26 y0_33 y0_34 y0_38 y0_39 y0_40 y0_41 y0_42 y0_43 y0_45 y0_46 y0_47 y0_48 x0_5 x0_7 x0_8 x0_9_68 x0_10 x0_11_68 s68_1 x0_13 x0_14 x0_15 x0_16 x0_17 x0_19 x0_20 x0_27 x0_28 x0_29 x0_30 x0_31 x0_32 x0_35 x0_36 x0_37 x0_44 x0_49 x0_50 a1) H := hP
        have hD : va_D A (wW_X11_scanNumber G h0 h1 y0_0 y0_1 y0_2 y0_3 y0_4 y0_18 y0_21 y0_22 y0_23 y0_24 y0_25 y0_26 y0_33 y0_34 y0_38 y0_39 y0_40 y0_41 y0_42 y0_43 y0_45 y0_46 y0_47 y0_48 x0_5 x0_7 x0_8 x0_9_68 x0_10 x0_11_68 s68_1 x0_13 x0_14 x0_15 x0_16 x0_17 x0_19 x0_20 x0_27 x0_28 x0_29 x0_30 x0_31 x0_32 x0_35 x0_36 x0_37 x0_44 x0_49 x0_50 a1) := hD
        refine lv_aload_n hx hb dX11_scanNumber_71 rfl (lv_at hl 0 rfl) ?_
        refine lv_dup hx hb dX11_scanNumber_72 rfl ?_
        refine va_get (ci := 11) (v := .int x0_9_68) (C := RX11) (T := TX11) (N := 51) hx hb ht0 iX11 hown hK hP 0 rfl rfl 9 (by decide) (ht0 _ wd_1415) (fun _ h9 => h9) rfl dX11_scanNumber_73 ?_
        refine lv_iconst (v := (1 : Int32)) hx hb dX11_scanNumber_76 (by decide) ?_
        refine lv_iadd hx hb dX11_scanNumber_77 ?_
        refine va_put (ci := 11) (v := .int (x0_9_68 + (1 : Int32))) (ty := .int) (C := RX11) (T := TX11) (N := 51) hx hb ht0 iX11 tyX11 tyX11_ok nmX11 hown hK hP hD hS 0 rfl rfl 9 (by decide) (ht0 _ wd_1415) (fun _ h9 => h9) rfl rfl rfl rfl (Nat.le_of_ble_eq_true rfl) dX11_scanNumber_78 (fun H locs hP hD hS => ?_)
        have hP : va_P G.1 vwCl (wW_X11_scanNumber G h0 h1 y0_0 y0_1 y0_2 y0_3 y0_4 y0_18 y0_21 y0_22 y0_23 y0_24 y0_25 y0_26 y0_33 y0_34 y0_38 y0_39 y0_40 y0_41 y0_42 y0_43 y0_45 y0_46 y0_47 y0_48 x0_5 x0_7 x0_8 (x0_9_68 + (1 : Int32)) x0_10 x0_11_68 s68_1 x0_13 x0_14 x0_15 x0_16 x0_17 x0_19 x0_20 x0_27 x0_28 x0_29 x0_30 x0_31 x0_32 x0_35 x0_36 x0_37 x0_44 x0_49 x0_50 a1) H := hP
        have hD : va_D A (wW_X11_scanNumber G h0 h1 y0_0 y0_1 y0_2 y0_3 y0_4 y0_18 y0_21 y0_22 y0_23 y0_24 y0_25 y0_26 y0_33 y0_34 y0_38 y0_39 y0_40 y0_41 y0_42 y0_43 y0_45 y0_46 y0_47 y0_48 x0_5 x0_7 x0_8 (x0_9_68 + (1 : Int32)) x0_10 x0_11_68 s68_1 x0_13 x0_14 x0_15 x0_16 x0_17 x0_19 x0_20 x0_27 x0_28 x0_29 x0_30 x0_31 x0_32 x0_35 x0_36 x0_37 x0_44 x0_49 x0_50 a1) := hD
        refine lv_goto (tgt := 18) hx hb dX11_scanNumber_81 (by decide) ?_
        exact ih18 _ _ _ hf _ _ hP hD hS _ (lv_sub hl [0] rfl)
      intro x0_9_18 x0_11_18 x0_12_18 hf H locs hP hD hS ls hl
      have hf : p_X11_scanNumber_L18b F x0_8 x0_10 a1 (p_X11_scanNumber_L18 F x0_8 x0_10 a1 n18) x0_9_18 x0_11_18 x0_12_18 = some (e_x0_9, e_x0_11, e_x0_12) := hf
      refine lv_aload_n hx hb dX11_scanNumber_18 rfl (lv_at hl 0 rfl) ?_
      refine lv_aload_n hx hb dX11_scanNumber_19 rfl (lv_at hl 0 rfl) ?_
      refine va_get (ci := 11) (v := .int x0_9_18) (C := RX11) (T := TX11) (N := 51) hx hb ht0 iX11 hown hK hP 0 rfl rfl 9 (by decide) (ht0 _ wd_1415) (fun _ h9 => h9) rfl dX11_scanNumber_20 ?_
      obtain ⟨r_23_0, hc_r_23_0, hf⟩ := of_bnd hf
      refine cl_Vi (w2 := (wW_X11_scanNumber G h0 h1 y0_0 y0_1 y0_2 y0_3 y0_4 y0_18 y0_21 y0_22 y0_23 y0_24 y0_25 y0_26 y0_33 y0_34 y0_38 y0_39 y0_40 y0_41 y0_42 y0_43 y0_45 y0_46 y0_47 y0_48 x0_5 x0_7 x0_8 x0_9_18 x0_10 x0_11_18 x0_12_18 x0_13 x0_14 x0_15 x0_16 x0_17 x0_19 x0_20 x0_27 x0_28 x0_29 x0_30 x0_31 x0_32 x0_35 x0_36 x0_37 x0_44 x0_49 x0_50 a1)) (As := [.int x0_9_18]) (rest := []) ⟨hx, hb, hml, hown, ht0⟩ (c_X11_signAt l G h0 h1 y0_0 y0_1 y0_2 y0_3 y0_4 y0_18 y0_21 y0_22 y0_23 y0_24 y0_25 y0_26 y0_33 y0_34 y0_38 y0_39 y0_40 y0_41 y0_42 y0_43 y0_45 y0_46 y0_47 y0_48 _ x0_5 x0_7 x0_8 x0_9_18 x0_10 x0_11_18 x0_12_18 x0_13 x0_14 x0_15 x0_16 x0_17 x0_19 x0_20 x0_27 x0_28 x0_29 x0_30 x0_31 x0_32 x0_35 x0_36 x0_37 x0_44 x0_49 x0_50 a1 F x0_9_18 _ hc_r_23_0) yk_X11_signAt wd_1278 ⟨rfl, rfl, by decide, by decide⟩ ⟨Nat.le_refl _, Nat.le_refl _⟩ hX hK hP hD hS hA [0, 1] [] [0, 1] (va_recv hK hP (ci := 11) (q0 := 0) rfl rfl) rfl rfl (by decide) rfl rfl rfl rfl rfl hl.1 rfl (Nat.le_of_ble_eq_true rfl) dX11_scanNumber_23 (fun H locs hP hD hS => ?_)
      obtain ⟨r_26_1, hc_r_26_1, hf⟩ := of_bnd hf
      refine cl_Si (w2 := (wW_X11_scanNumber G h0 h1 y0_0 y0_1 y0_2 y0_3 y0_4 y0_18 y0_21 y0_22 y0_23 y0_24 y0_25 y0_26 y0_33 y0_34 y0_38 y0_39 y0_40 y0_41 y0_42 y0_43 y0_45 y0_46 y0_47 y0_48 x0_5 x0_7 x0_8 x0_9_18 x0_10 x0_11_18 x0_12_18 x0_13 x0_14 x0_15 x0_16 x0_17 x0_19 x0_20 x0_27 x0_28 x0_29 x0_30 x0_31 x0_32 x0_35 x0_36 x0_37 x0_44 x0_49 x0_50 a1)) (As := [.int r_23_0]) (rest := []) ⟨hx, hb, hml, hown, ht0⟩ (c_X11_isDigit l G _ F r_23_0 _ hc_r_26_1) yk_X11_isDigit wd_1293 ⟨rfl, rfl, by decide, by decide⟩ ⟨Nat.le_refl _, Nat.le_refl _⟩ hX hK hP hD hS hA [] [0, 1] [0, 1] rfl rfl (by decide) rfl rfl rfl rfl rfl hl.1 rfl (Nat.le_of_ble_eq_true rfl) dX11_scanNumber_26 (fun H locs hP hD hS => ?_)
      refine lv_if_eq (tgt := 84) hx hb dX11_scanNumber_29 (by decide) (fun c3 => ?_) (fun c3 => ?_)
      · have hf := of_pos hf c3
        cases hf
        exact ret_v hx hb hr hlk hK hP hD hS dX11_scanNumber_84
      · have hf := of_neg hf c3
        refine lv_aload_n hx hb dX11_scanNumber_32 rfl (lv_at hl 0 rfl) ?_
        refine lv_aload_n hx hb dX11_scanNumber_33 rfl (lv_at hl 0 rfl) ?_
        refine va_get (ci := 11) (v := .int x0_12_18) (C := RX11) (T := TX11) (N := 51) hx hb ht0 iX11 hown hK hP 0 rfl rfl 12 (by decide) (ht0 _ wd_1418) (fun _ h9 => h9) rfl dX11_scanNumber_34 ?_
        refine lv_ldc (v := (99999999 : Int32)) hx hb hown (ht0 _ wd_1300) dX11_scanNumber_37 ?_
        refine lv_icmp_le (tgt := 49) hx hb dX11_scanNumber_39 (by decide) (fun c4 => ?_) (fun c4 => ?_)
        · have hf := of_pos hf c4
          refine lv_bipush (v := (10 : Int32)) hx hb dX11_scanNumber_49 (by decide) ?_
          refine lv_aload_n hx hb dX11_scanNumber_51 rfl (lv_at hl 0 rfl) ?_
          refine va_get (ci := 11) (v := .int x0_12_18) (C := RX11) (T := TX11) (N := 51) hx hb ht0 iX11 hown hK hP 0 rfl rfl 12 (by decide) (ht0 _ wd_1418) (fun _ h9 => h9) rfl dX11_scanNumber_52 ?_
          refine lv_imul hx hb dX11_scanNumber_55 ?_
          refine lv_aload_n hx hb dX11_scanNumber_56 rfl (lv_at hl 0 rfl) ?_
          refine lv_aload_n hx hb dX11_scanNumber_57 rfl (lv_at hl 0 rfl) ?_
          refine va_get (ci := 11) (v := .int x0_9_18) (C := RX11) (T := TX11) (N := 51) hx hb ht0 iX11 hown hK hP 0 rfl rfl 9 (by decide) (ht0 _ wd_1415) (fun _ h9 => h9) rfl dX11_scanNumber_58 ?_
          obtain ⟨r_61_4, hc_r_61_4, hf⟩ := of_bnd hf
          refine cl_Vi (w2 := (wW_X11_scanNumber G h0 h1 y0_0 y0_1 y0_2 y0_3 y0_4 y0_18 y0_21 y0_22 y0_23 y0_24 y0_25 y0_26 y0_33 y0_34 y0_38 y0_39 y0_40 y0_41 y0_42 y0_43 y0_45 y0_46 y0_47 y0_48 x0_5 x0_7 x0_8 x0_9_18 x0_10 x0_11_18 x0_12_18 x0_13 x0_14 x0_15 x0_16 x0_17 x0_19 x0_20 x0_27 x0_28 x0_29 x0_30 x0_31 x0_32 x0_35 x0_36 x0_37 x0_44 x0_49 x0_50 a1)) (As := [.int x0_9_18]) (rest := [.int ((10 : Int32) * x0_12_18), .ref h0]) ⟨hx, hb, hml, hown, ht0⟩ (c_X11_signAt l G h0 h1 y0_0 y0_1 y0_2 y0_3 y0_4 y0_18 y0_21 y0_22 y0_23 y0_24 y0_25 y0_26 y0_33 y0_34 y0_38 y0_39 y0_40 y0_41 y0_42 y0_43 y0_45 y0_46 y0_47 y0_48 _ x0_5 x0_7 x0_8 x0_9_18 x0_10 x0_11_18 x0_12_18 x0_13 x0_14 x0_15 x0_16 x0_17 x0_19 x0_20 x0_27 x0_28 x0_29 x0_30 x0_31 x0_32 x0_35 x0_36 x0_37 x0_44 x0_49 x0_50 a1 F x0_9_18 _ hc_r_61_4) yk_X11_signAt wd_1278 ⟨rfl, rfl, by decide, by decide⟩ ⟨Nat.le_refl _, Nat.le_refl _⟩ hX hK hP hD hS hA [0, 1] [] [0, 1] (va_recv hK hP (ci := 11) (q0 := 0) rfl rfl) rfl rfl (by decide) rfl rfl rfl rfl rfl hl.1 rfl (Nat.le_of_ble_eq_true rfl) dX11_scanNumber_61 (fun H locs hP hD hS => ?_)
          refine lv_iadd hx hb dX11_scanNumber_64 ?_
          refine lv_bipush (v := (48 : Int32)) hx hb dX11_scanNumber_65 (by decide) ?_
          refine lv_isub hx hb dX11_scanNumber_67 ?_
          exact kJ68 _ _ _ _ hf _ _ hP hD hS _ (lv_sub hl [0] rfl)
        · have hf := of_neg hf c4
          refine lv_aload_n hx hb dX11_scanNumber_42 rfl (lv_at hl 0 rfl) ?_
          refine va_get (ci := 11) (v := .int x0_12_18) (C := RX11) (T := TX11) (N := 51) hx hb ht0 iX11 hown hK hP 0 rfl rfl 12 (by decide) (ht0 _ wd_1418) (fun _ h9 => h9) rfl dX11_scanNumber_43 ?_
          refine lv_goto (tgt := 68) hx hb dX11_scanNumber_46 (by decide) ?_
          exact kJ68 _ _ _ _ hf _ _ hP hD hS _ (lv_sub hl [0] rfl)
  refine lv_aload_n hx hb dX11_scanNumber_0 rfl (lv_at hl 0 rfl) ?_
  refine lv_iconst (v := (3 : Int32)) hx hb dX11_scanNumber_1 (by decide) ?_
  refine va_put (ci := 11) (v := .int (3 : Int32)) (ty := .int) (C := RX11) (T := TX11) (N := 51) hx hb ht0 iX11 tyX11 tyX11_ok nmX11 hown hK hP hD hS 0 rfl rfl 11 (by decide) (ht0 _ wd_1417) (fun _ h9 => h9) rfl rfl rfl rfl (Nat.le_of_ble_eq_true rfl) dX11_scanNumber_2 (fun H locs hP hD hS => ?_)
  have hP : va_P G.1 vwCl (wW_X11_scanNumber G h0 h1 y0_0 y0_1 y0_2 y0_3 y0_4 y0_18 y0_21 y0_22 y0_23 y0_24 y0_25 y0_26 y0_33 y0_34 y0_38 y0_39 y0_40 y0_41 y0_42 y0_43 y0_45 y0_46 y0_47 y0_48 x0_5 x0_7 x0_8 x0_9 x0_10 (3 : Int32) x0_12 x0_13 x0_14 x0_15 x0_16 x0_17 x0_19 x0_20 x0_27 x0_28 x0_29 x0_30 x0_31 x0_32 x0_35 x0_36 x0_37 x0_44 x0_49 x0_50 a1) H := hP
  have hD : va_D A (wW_X11_scanNumber G h0 h1 y0_0 y0_1 y0_2 y0_3 y0_4 y0_18 y0_21 y0_22 y0_23 y0_24 y0_25 y0_26 y0_33 y0_34 y0_38 y0_39 y0_40 y0_41 y0_42 y0_43 y0_45 y0_46 y0_47 y0_48 x0_5 x0_7 x0_8 x0_9 x0_10 (3 : Int32) x0_12 x0_13 x0_14 x0_15 x0_16 x0_17 x0_19 x0_20 x0_27 x0_28 x0_29 x0_30 x0_31 x0_32 x0_35 x0_36 x0_37 x0_44 x0_49 x0_50 a1) := hD
  refine lv_aload_n hx hb dX11_scanNumber_5 rfl (lv_at hl 0 rfl) ?_
  refine lv_iconst (v := (0 : Int32)) hx hb dX11_scanNumber_6 (by decide) ?_
  refine va_put (ci := 11) (v := .int (0 : Int32)) (ty := .int) (C := RX11) (T := TX11) (N := 51) hx hb ht0 iX11 tyX11 tyX11_ok nmX11 hown hK hP hD hS 0 rfl rfl 12 (by decide) (ht0 _ wd_1418) (fun _ h9 => h9) rfl rfl rfl rfl (Nat.le_of_ble_eq_true rfl) dX11_scanNumber_7 (fun H locs hP hD hS => ?_)
  have hP : va_P G.1 vwCl (wW_X11_scanNumber G h0 h1 y0_0 y0_1 y0_2 y0_3 y0_4 y0_18 y0_21 y0_22 y0_23 y0_24 y0_25 y0_26 y0_33 y0_34 y0_38 y0_39 y0_40 y0_41 y0_42 y0_43 y0_45 y0_46 y0_47 y0_48 x0_5 x0_7 x0_8 x0_9 x0_10 (3 : Int32) (0 : Int32) x0_13 x0_14 x0_15 x0_16 x0_17 x0_19 x0_20 x0_27 x0_28 x0_29 x0_30 x0_31 x0_32 x0_35 x0_36 x0_37 x0_44 x0_49 x0_50 a1) H := hP
  have hD : va_D A (wW_X11_scanNumber G h0 h1 y0_0 y0_1 y0_2 y0_3 y0_4 y0_18 y0_21 y0_22 y0_23 y0_24 y0_25 y0_26 y0_33 y0_34 y0_38 y0_39 y0_40 y0_41 y0_42 y0_43 y0_45 y0_46 y0_47 y0_48 x0_5 x0_7 x0_8 x0_9 x0_10 (3 : Int32) (0 : Int32) x0_13 x0_14 x0_15 x0_16 x0_17 x0_19 x0_20 x0_27 x0_28 x0_29 x0_30 x0_31 x0_32 x0_35 x0_36 x0_37 x0_44 x0_49 x0_50 a1) := hD
  refine lv_aload_n hx hb dX11_scanNumber_10 rfl (lv_at hl 0 rfl) ?_
  refine lv_aload_n hx hb dX11_scanNumber_11 rfl (lv_at hl 0 rfl) ?_
  refine va_get (ci := 11) (v := .int x0_10) (C := RX11) (T := TX11) (N := 51) hx hb ht0 iX11 hown hK hP 0 rfl rfl 10 (by decide) (ht0 _ wd_1416) (fun _ h9 => h9) rfl dX11_scanNumber_12 ?_
  refine va_put (ci := 11) (v := .int x0_10) (ty := .int) (C := RX11) (T := TX11) (N := 51) hx hb ht0 iX11 tyX11 tyX11_ok nmX11 hown hK hP hD hS 0 rfl rfl 9 (by decide) (ht0 _ wd_1415) (fun _ h9 => h9) rfl rfl rfl rfl (Nat.le_of_ble_eq_true rfl) dX11_scanNumber_15 (fun H locs hP hD hS => ?_)
  have hP : va_P G.1 vwCl (wW_X11_scanNumber G h0 h1 y0_0 y0_1 y0_2 y0_3 y0_4 y0_18 y0_21 y0_22 y0_23 y0_24 y0_25 y0_26 y0_33 y0_34 y0_38 y0_39 y0_40 y0_41 y0_42 y0_43 y0_45 y0_46 y0_47 y0_48 x0_5 x0_7 x0_8 x0_10 x0_10 (3 : Int32) (0 : Int32) x0_13 x0_14 x0_15 x0_16 x0_17 x0_19 x0_20 x0_27 x0_28 x0_29 x0_30 x0_31 x0_32 x0_35 x0_36 x0_37 x0_44 x0_49 x0_50 a1) H := hP
  have hD : va_D A (wW_X11_scanNumber G h0 h1 y0_0 y0_1 y0_2 y0_3 y0_4 y0_18 y0_21 y0_22 y0_23 y0_24 y0_25 y0_26 y0_33 y0_34 y0_38 y0_39 y0_40 y0_41 y0_42 y0_43 y0_45 y0_46 y0_47 y0_48 x0_5 x0_7 x0_8 x0_10 x0_10 (3 : Int32) (0 : Int32) x0_13 x0_14 x0_15 x0_16 x0_17 x0_19 x0_20 x0_27 x0_28 x0_29 x0_30 x0_31 x0_32 x0_35 x0_36 x0_37 x0_44 x0_49 x0_50 a1) := hD
  exact kL18 _ _ _ _ hf _ _ hP hD hS _ (lv_sub hl [0] rfl)
theorem yk_X11_scanNumber : ykV yX11_scanNumber RX11 cX11_scanNumber 1 none 0 := ⟨wd_1298, wd_46, wd_142, wd_1299, rfl, by decide +kernel, by decide +kernel, by decide +kernel⟩
theorem dX11_scan_0 : decode cX11_scan 0 = .ok (.aload_n 0, 1) := by decide +kernel
theorem dX11_scan_1 : decode cX11_scan 1 = .ok (.aload_n 0, 1) := by decide +kernel
theorem dX11_scan_2 : decode cX11_scan 2 = .ok (.getfield 120, 3) := by decide +kernel
theorem dX11_scan_5 : decode cX11_scan 5 = .ok (.putfield 123, 3) := by decide +kernel
theorem dX11_scan_8 : decode cX11_scan 8 = .ok (.aload_n 0, 1) := by decide +kernel
theorem dX11_scan_9 : decode cX11_scan 9 = .ok (.aload_n 0, 1) := by decide +kernel
theorem dX11_scan_10 : decode cX11_scan 10 = .ok (.getfield 123, 3) := by decide +kernel
theorem dX11_scan_13 : decode cX11_scan 13 = .ok (.invokevirtual 126, 3) := by decide +kernel
theorem dX11_scan_16 : decode cX11_scan 16 = .ok (.ifCond .eq 16, 3) := by decide +kernel
theorem dX11_scan_19 : decode cX11_scan 19 = .ok (.aload_n 0, 1) := by decide +kernel
theorem dX11_scan_20 : decode cX11_scan 20 = .ok (.dup, 1) := by decide +kernel
theorem dX11_scan_21 : decode cX11_scan 21 = .ok (.getfield 123, 3) := by decide +kernel
theorem dX11_scan_24 : decode cX11_scan 24 = .ok (.iconst 1, 1) := by decide +kernel
theorem dX11_scan_25 : decode cX11_scan 25 = .ok (.iadd, 1) := by decide +kernel
theorem dX11_scan_26 : decode cX11_scan 26 = .ok (.putfield 123, 3) := by decide +kernel
theorem dX11_scan_29 : decode cX11_scan 29 = .ok (.goto (-21), 3) := by decide +kernel
theorem dX11_scan_32 : decode cX11_scan 32 = .ok (.aload_n 0, 1) := by decide +kernel
theorem dX11_scan_33 : decode cX11_scan 33 = .ok (.aload_n 0, 1) := by decide +kernel
theorem dX11_scan_34 : decode cX11_scan 34 = .ok (.getfield 123, 3) := by decide +kernel
theorem dX11_scan_37 : decode cX11_scan 37 = .ok (.iconst 1, 1) := by decide +kernel
theorem dX11_scan_38 : decode cX11_scan 38 = .ok (.iadd, 1) := by decide +kernel
theorem dX11_scan_39 : decode cX11_scan 39 = .ok (.putfield 120, 3) := by decide +kernel
theorem dX11_scan_42 : decode cX11_scan 42 = .ok (.aload_n 0, 1) := by decide +kernel
theorem dX11_scan_43 : decode cX11_scan 43 = .ok (.aload_n 0, 1) := by decide +kernel
theorem dX11_scan_44 : decode cX11_scan 44 = .ok (.getfield 123, 3) := by decide +kernel
theorem dX11_scan_47 : decode cX11_scan 47 = .ok (.invokevirtual 130, 3) := by decide +kernel
theorem dX11_scan_50 : decode cX11_scan 50 = .ok (.istore_n 1, 1) := by decide +kernel
theorem dX11_scan_51 : decode cX11_scan 51 = .ok (.aload_n 0, 1) := by decide +kernel
theorem dX11_scan_52 : decode cX11_scan 52 = .ok (.getfield 123, 3) := by decide +kernel
theorem dX11_scan_55 : decode cX11_scan 55 = .ok (.aload_n 0, 1) := by decide +kernel
theorem dX11_scan_56 : decode cX11_scan 56 = .ok (.getfield 95, 3) := by decide +kernel
theorem dX11_scan_59 : decode cX11_scan 59 = .ok (.if_icmp .lt 19, 3) := by decide +kernel
theorem dX11_scan_62 : decode cX11_scan 62 = .ok (.aload_n 0, 1) := by decide +kernel
theorem dX11_scan_63 : decode cX11_scan 63 = .ok (.aload_n 0, 1) := by decide +kernel
theorem dX11_scan_64 : decode cX11_scan 64 = .ok (.getfield 123, 3) := by decide +kernel
theorem dX11_scan_67 : decode cX11_scan 67 = .ok (.putfield 120, 3) := by decide +kernel
theorem dX11_scan_70 : decode cX11_scan 70 = .ok (.aload_n 0, 1) := by decide +kernel
theorem dX11_scan_71 : decode cX11_scan 71 = .ok (.iconst 0, 1) := by decide +kernel
theorem dX11_scan_72 : decode cX11_scan 72 = .ok (.putfield 134, 3) := by decide +kernel
theorem dX11_scan_75 : decode cX11_scan 75 = .ok (.goto 46, 3) := by decide +kernel
theorem dX11_scan_78 : decode cX11_scan 78 = .ok (.iload_n 1, 1) := by decide +kernel
theorem dX11_scan_79 : decode cX11_scan 79 = .ok (.invokestatic 137, 3) := by decide +kernel
theorem dX11_scan_82 : decode cX11_scan 82 = .ok (.ifCond .eq 10, 3) := by decide +kernel
theorem dX11_scan_85 : decode cX11_scan 85 = .ok (.aload_n 0, 1) := by decide +kernel
theorem dX11_scan_86 : decode cX11_scan 86 = .ok (.invokevirtual 140, 3) := by decide +kernel
theorem dX11_scan_89 : decode cX11_scan 89 = .ok (.goto 32, 3) := by decide +kernel
theorem dX11_scan_92 : decode cX11_scan 92 = .ok (.iload_n 1, 1) := by decide +kernel
theorem dX11_scan_93 : decode cX11_scan 93 = .ok (.invokestatic 143, 3) := by decide +kernel
theorem dX11_scan_96 : decode cX11_scan 96 = .ok (.ifCond .eq 10, 3) := by decide +kernel
theorem dX11_scan_99 : decode cX11_scan 99 = .ok (.aload_n 0, 1) := by decide +kernel
theorem dX11_scan_100 : decode cX11_scan 100 = .ok (.invokevirtual 146, 3) := by decide +kernel
theorem dX11_scan_103 : decode cX11_scan 103 = .ok (.goto 18, 3) := by decide +kernel
theorem dX11_scan_106 : decode cX11_scan 106 = .ok (.aload_n 0, 1) := by decide +kernel
theorem dX11_scan_107 : decode cX11_scan 107 = .ok (.iload_n 1, 1) := by decide +kernel
theorem dX11_scan_108 : decode cX11_scan 108 = .ok (.bipush 59, 2) := by decide +kernel
theorem dX11_scan_110 : decode cX11_scan 110 = .ok (.if_icmp .ne 7, 3) := by decide +kernel
theorem dX11_scan_113 : decode cX11_scan 113 = .ok (.iconst 4, 1) := by decide +kernel
theorem dX11_scan_114 : decode cX11_scan 114 = .ok (.goto 4, 3) := by decide +kernel
theorem dX11_scan_117 : decode cX11_scan 117 = .ok (.iconst 1, 1) := by decide +kernel
theorem dX11_scan_118 : decode cX11_scan 118 = .ok (.putfield 134, 3) := by decide +kernel
theorem dX11_scan_121 : decode cX11_scan 121 = .ok (.return_, 1) := by decide +kernel
def wW_X11_scan (G : GG) (h0 h1 h2 y0_0 y0_1 y0_2 y0_3 y0_4 y0_21 y0_22 y0_23 y0_24 y0_25 y0_26 y0_33 y0_34 y0_38 y0_39 y0_40 y0_41 y0_42 y0_43 y0_45 y0_46 y0_47 y0_48 : Nat) (x0_5 : Int32) (x0_7 : Int32) (x0_8 : Int32) (x0_9 : Int32) (x0_10 : Int32) (x0_11 : Int32) (x0_12 : Int32) (x0_13 : Int32) (x0_14 : Int32) (x0_15 : Int32) (x0_16 : Int32) (x0_17 : Int32) (x0_19 : Int32) (x0_20 : Int32) (x0_27 : Int32) (x0_28 : Int32) (x0_29 : Int32) (x0_30 : Int32) (x0_31 : Int32) (x0_32 : Int32) (x0_35 : Int32) (x0_36 : Int32) (x0_37 : Int32) (x0_44 : Int32) (x0_49 : Int32) (x0_50 : Int32) (a1 : Nat → Int32) (a2 : Nat → Int32) : va_W := [(h0, .inr (11, [.ref y0_0, .ref y0_1, .ref y0_2, .ref y0_3, .ref y0_4, .int x0_5, .ref h1, .int x0_7, .int x0_8, .int x0_9, .int x0_10, .int x0_11, .int x0_12, .int x0_13, .int x0_14, .int x0_15, .int x0_16, .int x0_17, .ref h2, .int x0_19, .int x0_20, .ref y0_21, .ref y0_22, .ref y0_23, .ref y0_24, .ref y0_25, .ref y0_26, .int x0_27, .int x0_28, .int x0_29, .int x0_30, .int x0_31, .int x0_32, .ref y0_33, .ref y0_34, .int x0_35, .int x0_36, .int x0_37, .ref y0_38, .ref y0_39, .ref y0_40, .ref y0_41, .ref y0_42, .ref y0_43, .int x0_44, .ref y0_45, .ref y0_46, .ref y0_47, .ref y0_48, .int x0_49, .int x0_50])), (h1, .inl (G.2.2.2.1, 600, .inl a1)), (h2, .inl (G.2.2.2.1, 56, .inl a2))]
set_option maxHeartbeats 4000000 in
set_option maxRecDepth 100000 in
theorem c_X11_scan (l : Launch) (G : GG) (h0 h1 h2 y0_0 y0_1 y0_2 y0_3 y0_4 y0_21 y0_22 y0_23 y0_24 y0_25 y0_26 y0_33 y0_34 y0_38 y0_39 y0_40 y0_41 y0_42 y0_43 y0_45 y0_46 y0_47 y0_48 : Nat) (sz : Nat) (x0_5 : Int32) (x0_7 : Int32) (x0_8 : Int32) (x0_9 : Int32) (x0_10 : Int32) (x0_11 : Int32) (x0_12 : Int32) (x0_13 : Int32) (x0_14 : Int32) (x0_15 : Int32) (x0_16 : Int32) (x0_17 : Int32) (x0_19 : Int32) (x0_20 : Int32) (x0_27 : Int32) (x0_28 : Int32) (x0_29 : Int32) (x0_30 : Int32) (x0_31 : Int32) (x0_32 : Int32) (x0_35 : Int32) (x0_36 : Int32) (x0_37 : Int32) (x0_44 : Int32) (x0_49 : Int32) (x0_50 : Int32) (a1 : Nat → Int32) (a2 : Nat → Int32) (F : Nat)   (e_x0_9 : Int32) (e_x0_10 : Int32) (e_x0_11 : Int32) (e_x0_12 : Int32) (e_x0_13 : Int32) (hf : p_X11_scan F x0_8 x0_9 x0_10 x0_11 x0_12 x0_13 a1 a2  = some (e_x0_9, e_x0_10, e_x0_11, e_x0_12, e_x0_13)) : Met l yX11_scan (.code yX11_scan cX11_scan 2 none :: gtbl) ({ frames := 2, cells := 0, slots := 0, locals := 46 } : Room) (PcS G [.ref h0] (wW_X11_scan G h0 h1 h2 y0_0 y0_1 y0_2 y0_3 y0_4 y0_21 y0_22 y0_23 y0_24 y0_25 y0_26 y0_33 y0_34 y0_38 y0_39 y0_40 y0_41 y0_42 y0_43 y0_45 y0_46 y0_47 y0_48 x0_5 x0_7 x0_8 x0_9 x0_10 x0_11 x0_12 x0_13 x0_14 x0_15 x0_16 x0_17 x0_19 x0_20 x0_27 x0_28 x0_29 x0_30 x0_31 x0_32 x0_35 x0_36 x0_37 x0_44 x0_49 x0_50 a1 a2) sz) (QvS G (va_A (wW_X11_scan G h0 h1 h2 y0_0 y0_1 y0_2 y0_3 y0_4 y0_21 y0_22 y0_23 y0_24 y0_25 y0_26 y0_33 y0_34 y0_38 y0_39 y0_40 y0_41 y0_42 y0_43 y0_45 y0_46 y0_47 y0_48 x0_5 x0_7 x0_8 x0_9 x0_10 x0_11 x0_12 x0_13 x0_14 x0_15 x0_16 x0_17 x0_19 x0_20 x0_27 x0_28 x0_29 x0_30 x0_31 x0_32 x0_35 x0_36 x0_37 x0_44 x0_49 x0_50 a1 a2) sz) (wW_X11_scan G h0 h1 h2 y0_0 y0_1 y0_2 y0_3 y0_4 y0_21 y0_22 y0_23 y0_24 y0_25 y0_26 y0_33 y0_34 y0_38 y0_39 y0_40 y0_41 y0_42 y0_43 y0_45 y0_46 y0_47 y0_48 x0_5 x0_7 x0_8 e_x0_9 e_x0_10 e_x0_11 e_x0_12 e_x0_13 x0_14 x0_15 x0_16 x0_17 x0_19 x0_20 x0_27 x0_28 x0_29 x0_30 x0_31 x0_32 x0_35 x0_36 x0_37 x0_44 x0_49 x0_50 a1 a2)) 0 0 (va_A (wW_X11_scan G h0 h1 h2 y0_0 y0_1 y0_2 y0_3 y0_4 y0_21 y0_22 y0_23 y0_24 y0_25 y0_26 y0_33 y0_34 y0_38 y0_39 y0_40 y0_41 y0_42 y0_43 y0_45 y0_46 y0_47 y0_48 x0_5 x0_7 x0_8 x0_9 x0_10 x0_11 x0_12 x0_13 x0_14 x0_15 x0_16 x0_17 x0_19 x0_20 x0_27 x0_28 x0_29 x0_30 x0_31 x0_32 x0_35 x0_36 x0_37 x0_44 x0_49 x0_50 a1 a2) sz) := by
  refine met_start (by decide) (Nat.le_of_ble_eq_true rfl) ?_
  intro p e s m below meth c hC hr hlk hnm hK hP hD hA hS hX ls hl
  obtain ⟨hx, hb, hml, hown, ht0⟩ := hC
  have hown : s.vm.findClass RX11 = some m.cls := hown
  generalize va_A (wW_X11_scan G h0 h1 h2 y0_0 y0_1 y0_2 y0_3 y0_4 y0_21 y0_22 y0_23 y0_24 y0_25 y0_26 y0_33 y0_34 y0_38 y0_39 y0_40 y0_41 y0_42 y0_43 y0_45 y0_46 y0_47 y0_48 x0_5 x0_7 x0_8 x0_9 x0_10 x0_11 x0_12 x0_13 x0_14 x0_15 x0_16 x0_17 x0_19 x0_20 x0_27 x0_28 x0_29 x0_30 x0_31 x0_32 x0_35 x0_36 x0_37 x0_44 x0_49 x0_50 a1 a2) sz = A at hD hA hS hX ⊢
  have hl : lv_has ls 2 [(0, .ref h0)] := hl
  have hf : p_X11_scan F x0_8 x0_9 x0_10 x0_11 x0_12 x0_13 a1 a2  = some (e_x0_9, e_x0_10, e_x0_11, e_x0_12, e_x0_13) := hf
  have kJ118 : ∀ (s118_1 : Int32) (x0_9_118 : Int32) (x0_10_118 : Int32) (x0_11_118 : Int32) (x0_12_118 : Int32) (x0_13_118 : Int32), p_X11_scan_J118 F x0_8 a1 a2 s118_1 x0_9_118 x0_10_118 x0_11_118 x0_12_118 x0_13_118 = some (e_x0_9, e_x0_10, e_x0_11, e_x0_12, e_x0_13) → ∀ (H : Heap) (locs : List Loc), va_P G.1 vwCl (wW_X11_scan G h0 h1 h2 y0_0 y0_1 y0_2 y0_3 y0_4 y0_21 y0_22 y0_23 y0_24 y0_25 y0_26 y0_33 y0_34 y0_38 y0_39 y0_40 y0_41 y0_42 y0_43 y0_45 y0_46 y0_47 y0_48 x0_5 x0_7 x0_8 x0_9_118 x0_10_118 x0_11_118 x0_12_118 x0_13_118 x0_14 x0_15 x0_16 x0_17 x0_19 x0_20 x0_27 x0_28 x0_29 x0_30 x0_31 x0_32 x0_35 x0_36 x0_37 x0_44 x0_49 x0_50 a1 a2) H → va_D A (wW_X11_scan G h0 h1 h2 y0_0 y0_1 y0_2 y0_3 y0_4 y0_21 y0_22 y0_23 y0_24 y0_25 y0_26 y0_33 y0_34 y0_38 y0_39 y0_40 y0_41 y0_42 y0_43 y0_45 y0_46 y0_47 y0_48 x0_5 x0_7 x0_8 x0_9_118 x0_10_118 x0_11_118 x0_12_118 x0_13_118 x0_14 x0_15 x0_16 x0_17 x0_19 x0_20 x0_27 x0_28 x0_29 x0_30 x0_31 x0_32 x0_35 x0_36 x0_37 x0_44 x0_49 x0_50 a1 a2) → va_S A s.heap H locs → ∀ ls : Array Slot, lv_has ls 2 [] → W p l e ({ frames := 2, cells := 0, slots := 0, locals := 46 } : Room) s m (List.toArray [.ref h0]) below meth c H locs 0 0 (MQ below (QvS G A (wW_X11_scan G h0 h1 h2 y0_0 y0_1 y0_2 y0_3 y0_4 y0_21 y0_22 y0_23 y0_24 y0_25 y0_26 y0_33 y0_34 y0_38 y0_39 y0_40 y0_41 y0_42 y0_43 y0_45 y0_46 y0_47 y0_48 x0_5 x0_7 x0_8 e_x0_9 e_x0_10 e_x0_11 e_x0_12 e_x0_13 x0_14 x0_15 x0_16 x0_17 x0_19 x0_20 x0_27 x0_28 x0_29 x0_30 x0_31 x0_32 x0_35 x0_36 x0_37 x0_44 x0_49 x0_50 a1 a2)) (List.toArray [.ref h0]) s 0 0 A) (F0 m 118 ls [.int s118_1, .ref h0]) := by
    intro s118_1 x0_9_118 x0_10_118 x0_11_118 x0_12_118 x0_13_118 hf H locs hP hD hS ls hl
    refine va_put (ci := 11) (v := .int s118_1) (ty := .int) (C := RX11) (T := TX11) (N := 51) hx hb ht0 iX11 tyX11 tyX11_ok nmX11 hown hK hP hD hS 0 rfl rfl 11 (by decide) (ht0 _ wd_1417) (fun _ h9 => h9) rfl rfl rfl rfl (Nat.le_of_ble_eq_true rfl) dX11_scan_118 (fun H locs hP hD hS => ?_)
    have hP : va_P G.1 vwCl (wW_X11_scan G h0 h1 h2 y0_0 y0_1 y0_2 y0_3 y0_4 y0_21 y0_22 y0_23 y0_24 y0_25 y0_26 y0_33 y0_34 y0_38 y0_39 y0_40 y0_41 y0_42 y0_43 y0_45 y0_46 y0_47 y0_48 x0_5 x0_7 x0_8 x0_9_118 x0_10_118 s118_1 x0_12_118 x0_13_118 x0_14 x0_15 x0_16 x0_17 x0_19 x0_20 x0_27 x0_28 x0_29 x0_30 x0_31 x0_32 x0_35 x0_36 x0_37 x0_44 x0_49 x0_50 a1 a2) H := hP
    have hD : va_D A (wW_X11_scan G h0 h1 h2 y0_0 y0_1 y0_2 y0_3 y0_4 y0_21 y0_22 y0_23 y0_24 y0_25 y0_26 y0_33 y0_34 y0_38 y0_39 y0_40 y0_41 y0_42 y0_43 y0_45 y0_46 y0_47 y0_48 x0_5 x0_7 x0_8 x0_9_118 x0_10_118 s118_1 x0_12_118 x0_13_118 x0_14 x0_15 x0_16 x0_17 x0_19 x0_20 x0_27 x0_28 x0_29 x0_30 x0_31 x0_32 x0_35 x0_36 x0_37 x0_44 x0_49 x0_50 a1 a2) := hD
    cases hf
    exact ret_v hx hb hr hlk hK hP hD hS dX11_scan_121
  have kL8 : ∀ (n8 : Nat) (x0_9_8 : Int32) (x0_10_8 : Int32) (x0_11_8 : Int32) (x0_12_8 : Int32) (x0_13_8 : Int32), p_X11_scan_L8 F x0_8 a1 a2 n8 x0_9_8 x0_10_8 x0_11_8 x0_12_8 x0_13_8 = some (e_x0_9, e_x0_10, e_x0_11, e_x0_12, e_x0_13) → ∀ (H : Heap) (locs : List Loc), va_P G.1 vwCl (wW_X11_scan G h0 h1 h2 y0_0 y0_1 y0_2 y0_3 y0_4 y0_21 y0_22 y0_23 y0_24 y0_25 y0_26 y0_33 y0_34 y0_38 y0_39 y0_40 y0_41 y0_42 y0_43 y0_45 y0_46 y0_47 y0_48 x0_5 x0_7 x0_8 x0_9_8 x0_10_8 x0_11_8 x0_12_8 x0_13_8 x0_14 x0_15 x0_16 x0_17 x0_19 x0_20 x0_27 x0_28 x0_29 x0_30 x0_31 x0_32 x0_35 x0_36 x0_37 x0_44 x0_49 x0_50 a1 a2) H → va_D A (wW_X11_scan G h0 h1 h2 y0_0 y0_1 y0_2 y0_3 y0_4 y0_21 y0_22 y0_23 y0_24 y0_25 y0_26 y0_33 y0_34 y0_38 y0_39 y0_40 y0_41 y0_42 y0_43 y0_45 y0_46 y0_47 y0_48 x0_5 x0_7 x0_8 x0_9_8 x0_10_8 x0_11_8 x0_12_8 x0_13_8 x0_14 x0_15 x0_16 x0_17 x0_19 x0_20 x0_27 x0_28 x0_29 x0_30 x0_31 x0_32 x0_35 x0_36 x0_37 x0_44 x0_49 x0_50 a1 a2) → va_S A s.heap H locs → ∀ ls : Array Slot, lv_has ls 2 [(0, .ref h0)] → W p l e ({ frames := 2, cells := 0, slots := 0, locals := 46 } : Room) s m (List.toArray [.ref h0]) below meth c H locs 0 0 (MQ below (QvS G A (wW_X11_scan G h0 h1 h2 y0_0 y0_1 y0_2 y0_3 y0_4 y0_21 y0_22 y0_23 y0_24 y0_25 y0_26 y0_33 y0_34 y0_38 y0_39 y0_40 y0_41 y0_42 y0_43 y0_45 y0_46 y0_47 y0_48 x0_5 x0_7 x0_8 e_x0_9 e_x0_10 e_x0_11 e_x0_12 e_x0_13 x0_14 x0_15 x0_16 x0_17 x0_19 x0_20 x0_27 x0_28 x0_29 x0_30 x0_31 x0_32 x0_35 x0_36 x0_37 x0_44 x0_49 x0_50 a1 a2)) (List.toArray [.ref h0]) s 0 0 A) (F0 m 8 ls []) := by
    intro n8
    induction n8 with
    | zero =>
      intro x0_9_8 x0_10_8 x0_11_8 x0_12_8 x0_13_8 hf
      cases hf
    | succ n8 ih8 =>
      intro x0_9_8 x0_10_8 x0_11_8 x0_12_8 x0_13_8 hf H locs hP hD hS ls hl
      have hf : p_X11_scan_L8b F x0_8 a1 a2 (p_X11_scan_L8 F x0_8 a1 a2 n8) x0_9_8 x0_10_8 x0_11_8 x0_12_8 x0_13_8 = some (e_x0_9, e_x0_10, e_x0_11, e_x0_12, e_x0_13) := hf
      refine lv_aload_n hx hb dX11_scan_8 rfl (lv_at hl 0 rfl) ?_
      refine lv_aload_n hx hb dX11_scan_9 rfl (lv_at hl 0 rfl) ?_
      refine va_get (ci := 11) (v := .int x0_10_8) (C := RX11) (T := TX11) (N := 51) hx hb ht0 iX11 hown hK hP 0 rfl rfl 10 (by decide) (ht0 _ wd_1416) (fun _ h9 => h9) rfl dX11_scan_10 ?_
      obtain ⟨r_13_0, hc_r_13_0, hf⟩ := of_bnd hf
      refine cl_Vi (w2 := (wW_X11_scan G h0 h1 h2 y0_0 y0_1 y0_2 y0_3 y0_4 y0_21 y0_22 y0_23 y0_24 y0_25 y0_26 y0_33 y0_34 y0_38 y0_39 y0_40 y0_41 y0_42 y0_43 y0_45 y0_46 y0_47 y0_48 x0_5 x0_7 x0_8 x0_9_8 x0_10_8 x0_11_8 x0_12_8 x0_13_8 x0_14 x0_15 x0_16 x0_17 x0_19 x0_20 x0_27 x0_28 x0_29 x0_30 x0_31 x0_32 x0_35 x0_36 x0_37 x0_44 x0_49 x0_50 a1 a2)) (As := [.int x0_10_8]) (rest := []) ⟨hx, hb, hml, hown, ht0⟩ (c_X11_isBlank l G h0 h1 y0_0 y0_1 y0_2 y0_3 y0_4 h2 y0_21 y0_22 y0_23 y0_24 y0_25 y0_26 y0_33 y0_34 y0_38 y0_39 y0_40 y0_41 y0_42 y0_43 y0_45 y0_46 y0_47 y0_48 _ x0_5 x0_7 x0_8 x0_9_8 x0_10_8 x0_11_8 x0_12_8 x0_13_8 x0_14 x0_15 x0_16 x0_17 x0_19 x0_20 x0_27 x0_28 x0_29 x0_30 x0_31 x0_32 x0_35 x0_36 x0_37 x0_44 x0_49 x0_50 a1 F x0_10_8 _ hc_r_13_0) yk_X11_isBlank wd_1274 ⟨rfl, rfl, by decide, by decide⟩ ⟨Nat.le_refl _, Nat.le_refl _⟩ hX hK hP hD hS hA [0, 1] [2] [1, 2, 0] (va_recv hK hP (ci := 11) (q0 := 0) rfl rfl) rfl rfl (by decide) rfl rfl rfl rfl rfl hl.1 rfl (Nat.le_of_ble_eq_true rfl) dX11_scan_13 (fun H locs hP hD hS => ?_)
      refine lv_if_eq (tgt := 32) hx hb dX11_scan_16 (by decide) (fun c2 => ?_) (fun c2 => ?_)
      · have hf := of_pos hf c2
        refine lv_aload_n hx hb dX11_scan_32 rfl (lv_at hl 0 rfl) ?_
        refine lv_aload_n hx hb dX11_scan_33 rfl (lv_at hl 0 rfl) ?_
        refine va_get (ci := 11) (v := .int x0_10_8) (C := RX11) (T := TX11) (N := 51) hx hb ht0 iX11 hown hK hP 0 rfl rfl 10 (by decide) (ht0 _ wd_1416) (fun _ h9 => h9) rfl dX11_scan_34 ?_
        refine lv_iconst (v := (1 : Int32)) hx hb dX11_scan_37 (by decide) ?_
        refine lv_iadd hx hb dX11_scan_38 ?_
        refine va_put (ci := 11) (v := .int (x0_10_8 + (1 : Int32))) (ty := .int) (C := RX11) (T := TX11) (N := 51) hx hb ht0 iX11 tyX11 tyX11_ok nmX11 hown hK hP hD hS 0 rfl rfl 9 (by decide) (ht0 _ wd_1415) (fun _ h9 => h9) rfl rfl rfl rfl (Nat.le_of_ble_eq_true rfl) dX11_scan_39 (fun H locs hP hD hS => ?_)
        have hP : va_P G.1 vwCl (wW_X11_scan G h0 h1 h2 y0_0 y0_1 y0_2 y0_3 y0_4 y0_21 y0_22 y0_23 y0_24 y0_25 y0_26 y0_33 y0_34 y0_38 y0_39 y0_40 y0_41 y0_42 y0_43 y0_45 y0_46 y0_47 y0_48 x0_5 x0_7 x0_8 (x0_10_8 + (1 : Int32)) x0_10_8 x0_11_8 x0_12_8 x0_13_8 x0_14 x0_15 x0_16 x0_17 x0_19 x0_20 x0_27 x0_28 x0_29 x0_30 x0_31 x0_32 x0_35 x0_36 x0_37 x0_44 x0_49 x0_50 a1 a2) H := hP
        have hD : va_D A (wW_X11_scan G h0 h1 h2 y0_0 y0_1 y0_2 y0_3 y0_4 y0_21 y0_22 y0_23 y0_24 y0_25 y0_26 y0_33 y0_34 y0_38 y0_39 y0_40 y0_41 y0_42 y0_43 y0_45 y0_46 y0_47 y0_48 x0_5 x0_7 x0_8 (x0_10_8 + (1 : Int32)) x0_10_8 x0_11_8 x0_12_8 x0_13_8 x0_14 x0_15 x0_16 x0_17 x0_19 x0_20 x0_27 x0_28 x0_29 x0_30 x0_31 x0_32 x0_35 x0_36 x0_37 x0_44 x0_49 x0_50 a1 a2) := hD
        refine lv_aload_n hx hb dX11_scan_42 rfl (lv_at hl 0 rfl) ?_
        refine lv_aload_n hx hb dX11_scan_43 rfl (lv_at hl 0 rfl) ?_
        refine va_get (ci := 11) (v := .int x0_10_8) (C := RX11) (T := TX11) (N := 51) hx hb ht0 iX11 hown hK hP 0 rfl rfl 10 (by decide) (ht0 _ wd_1416) (fun _ h9 => h9) rfl dX11_scan_44 ?_
        obtain ⟨r_47_2, hc_r_47_2, hf⟩ := of_bnd hf
        refine cl_Vi (w2 := (wW_X11_scan G h0 h1 h2 y0_0 y0_1 y0_2 y0_3 y0_4 y0_21 y0_22 y0_23 y0_24 y0_25 y0_26 y0_33 y0_34 y0_38 y0_39 y0_40 y0_41 y0_42 y0_43 y0_45 y0_46 y0_47 y0_48 x0_5 x0_7 x0_8 (x0_10_8 + (1 : Int32)) x0_10_8 x0_11_8 x0_12_8 x0_13_8 x0_14 x0_15 x0_16 x0_17 x0_19 x0_20 x0_27 x0_28 x0_29 x0_30 x0_31 x0_32 x0_35 x0_36 x0_37 x0_44 x0_49 x0_50 a1 a2)) (As := [.int x0_10_8]) (rest := []) ⟨hx, hb, hml, hown, ht0⟩ (c_X11_signAt l G h0 h1 y0_0 y0_1 y0_2 y0_3 y0_4 h2 y0_21 y0_22 y0_23 y0_24 y0_25 y0_26 y0_33 y0_34 y0_38 y0_39 y0_40 y0_41 y0_42 y0_43 y0_45 y0_46 y0_47 y0_48 _ x0_5 x0_7 x0_8 (x0_10_8 + (1 : Int32)) x0_10_8 x0_11_8 x0_12_8 x0_13_8 x0_14 x0_15 x0_16 x0_17 x0_19 x0_20 x0_27 x0_28 x0_29 x0_30 x0_31 x0_32 x0_35 x0_36 x0_37 x0_44 x0_49 x0_50 a1 F x0_10_8 _ hc_r_47_2) yk_X11_signAt wd_1278 ⟨rfl, rfl, by decide, by decide⟩ ⟨Nat.le_refl _, Nat.le_refl _⟩ hX hK hP hD hS hA [0, 1] [2] [1, 2, 0] (va_recv hK hP (ci := 11) (q0 := 0) rfl rfl) rfl rfl (by decide) rfl rfl rfl rfl rfl hl.1 rfl (Nat.le_of_ble_eq_true rfl) dX11_scan_47 (fun H locs hP hD hS => ?_)
        refine lv_istore_n (lv' := [(1, .int r_47_2), (0, .ref h0)]) hx hb dX11_scan_50 rfl hl (by decide) rfl (fun ls hl => ?_)
        refine lv_aload_n hx hb dX11_scan_51 rfl (lv_at hl 1 rfl) ?_
        refine va_get (ci := 11) (v := .int x0_10_8) (C := RX11) (T := TX11) (N := 51) hx hb ht0 iX11 hown hK hP 0 rfl rfl 10 (by decide) (ht0 _ wd_1416) (fun _ h9 => h9) rfl dX11_scan_52 ?_
        refine lv_aload_n hx hb dX11_scan_55 rfl (lv_at hl 1 rfl) ?_
        refine va_get (ci := 11) (v := .int x0_8) (C := RX11) (T := TX11) (N := 51) hx hb ht0 iX11 hown hK hP 0 rfl rfl 8 (by decide) (ht0 _ wd_1414) (fun _ h9 => h9) rfl dX11_scan_56 ?_
        refine lv_icmp_lt (tgt := 78) hx hb dX11_scan_59 (by decide) (fun c4 => ?_) (fun c4 => ?_)
        · have hf := of_pos hf c4
          refine lv_iload_n hx hb dX11_scan_78 rfl (lv_at hl 0 rfl) ?_
          obtain ⟨r_79_4, hc_r_79_4, hf⟩ := of_bnd hf
          refine cl_Si (w2 := (wW_X11_scan G h0 h1 h2 y0_0 y0_1 y0_2 y0_3 y0_4 y0_21 y0_22 y0_23 y0_24 y0_25 y0_26 y0_33 y0_34 y0_38 y0_39 y0_40 y0_41 y0_42 y0_43 y0_45 y0_46 y0_47 y0_48 x0_5 x0_7 x0_8 (x0_10_8 + (1 : Int32)) x0_10_8 x0_11_8 x0_12_8 x0_13_8 x0_14 x0_15 x0_16 x0_17 x0_19 x0_20 x0_27 x0_28 x0_29 x0_30 x0_31 x0_32 x0_35 x0_36 x0_37 x0_44 x0_49 x0_50 a1 a2)) (As := [.int r_47_2]) (rest := []) ⟨hx, hb, hml, hown, ht0⟩ (c_X11_isLetter l G _ F r_47_2 _ hc_r_79_4) yk_X11_isLetter wd_1282 ⟨rfl, rfl, by decide, by decide⟩ ⟨Nat.le_refl _, Nat.le_refl _⟩ hX hK hP hD hS hA [] [0, 1, 2] [0, 1, 2] rfl rfl (by decide) rfl rfl rfl rfl rfl hl.1 rfl (Nat.le_of_ble_eq_true rfl) dX11_scan_79 (fun H locs hP hD hS => ?_)
          refine lv_if_eq (tgt := 92) hx hb dX11_scan_82 (by decide) (fun c6 => ?_) (fun c6 => ?_)
          · have hf := of_pos hf c6
            refine lv_iload_n hx hb dX11_scan_92 rfl (lv_at hl 0 rfl) ?_
            obtain ⟨r_93_6, hc_r_93_6, hf⟩ := of_bnd hf
            refine cl_Si (w2 := (wW_X11_scan G h0 h1 h2 y0_0 y0_1 y0_2 y0_3 y0_4 y0_21 y0_22 y0_23 y0_24 y0_25 y0_26 y0_33 y0_34 y0_38 y0_39 y0_40 y0_41 y0_42 y0_43 y0_45 y0_46 y0_47 y0_48 x0_5 x0_7 x0_8 (x0_10_8 + (1 : Int32)) x0_10_8 x0_11_8 x0_12_8 x0_13_8 x0_14 x0_15 x0_16 x0_17 x0_19 x0_20 x0_27 x0_28 x0_29 x0_30 x0_31 x0_32 x0_35 x0_36 x0_37 x0_44 x0_49 x0_50 a1 a2)) (As := [.int r_47_2]) (rest := []) ⟨hx, hb, hml, hown, ht0⟩ (c_X11_isDigit l G _ F r_47_2 _ hc_r_93_6) yk_X11_isDigit wd_1293 ⟨rfl, rfl, by decide, by decide⟩ ⟨Nat.le_refl _, Nat.le_refl _⟩ hX hK hP hD hS hA [] [0, 1, 2] [0, 1, 2] rfl rfl (by decide) rfl rfl rfl rfl rfl hl.1 rfl (Nat.le_of_ble_eq_true rfl) dX11_scan_93 (fun H locs hP hD hS => ?_)
            refine lv_if_eq (tgt := 106) hx hb dX11_scan_96 (by decide) (fun c8 => ?_) (fun c8 => ?_)
            · have hf := of_pos hf c8
              refine lv_aload_n hx hb dX11_scan_106 rfl (lv_at hl 1 rfl) ?_
              refine lv_iload_n hx hb dX11_scan_107 rfl (lv_at hl 0 rfl) ?_
              refine lv_bipush (v := (59 : Int32)) hx hb dX11_scan_108 (by decide) ?_
              refine lv_icmp_ne (tgt := 117) hx hb dX11_scan_110 (by decide) (fun c9 => ?_) (fun c9 => ?_)
              · have hf := of_neg hf c9
                refine lv_iconst (v := (1 : Int32)) hx hb dX11_scan_117 (by decide) ?_
                exact kJ118 _ _ _ _ _ _ hf _ _ hP hD hS _ (lv_sub hl [] rfl)
              · have hf := of_pos hf c9
                refine lv_iconst (v := (4 : Int32)) hx hb dX11_scan_113 (by decide) ?_
                refine lv_goto (tgt := 118) hx hb dX11_scan_114 (by decide) ?_
                exact kJ118 _ _ _ _ _ _ hf _ _ hP hD hS _ (lv_sub hl [] rfl)
            · have hf := of_neg hf c8
              refine lv_aload_n hx hb dX11_scan_99 rfl (lv_at hl 1 rfl) ?_
              obtain ⟨⟨r_100_9_x0_9, r_100_9_x0_11, r_100_9_x0_12⟩, hc_r_100_9, hf⟩ := of_bnd hf
              refine cl_Vv (w2 := (wW_X11_scan G h0 h1 h2 y0_0 y0_1 y0_2 y0_3 y0_4 y0_21 y0_22 y0_23 y0_24 y0_25 y0_26 y0_33 y0_34 y0_38 y0_39 y0_40 y0_41 y0_42 y0_43 y0_45 y0_46 y0_47 y0_48 x0_5 x0_7 x0_8 r_100_9_x0_9 x0_10_8 r_100_9_x0_11 r_100_9_x0_12 x0_13_8 x0_14 x0_15 x0_16 x0_17 x0_19 x0_20 x0_27 x0_28 x0_29 x0_30 x0_31 x0_32 x0_35 x0_36 x0_37 x0_44 x0_49 x0_50 a1 a2)) (As := []) (rest := []) ⟨hx, hb, hml, hown, ht0⟩ (c_X11_scanNumber l G h0 h1 y0_0 y0_1 y0_2 y0_3 y0_4 h2 y0_21 y0_22 y0_23 y0_24 y0_25 y0_26 y0_33 y0_34 y0_38 y0_39 y0_40 y0_41 y0_42 y0_43 y0_45 y0_46 y0_47 y0_48 _ x0_5 x0_7 x0_8 (x0_10_8 + (1 : Int32)) x0_10_8 x0_11_8 x0_12_8 x0_13_8 x0_14 x0_15 x0_16 x0_17 x0_19 x0_20 x0_27 x0_28 x0_29 x0_30 x0_31 x0_32 x0_35 x0_36 x0_37 x0_44 x0_49 x0_50 a1 F _ _ _ hc_r_100_9) yk_X11_scanNumber wd_1296 ⟨rfl, rfl, by decide, by decide⟩ ⟨Nat.le_refl _, Nat.le_refl _⟩ hX hK hP hD hS hA [0, 1] [2] [1, 2, 0] (va_recv hK hP (ci := 11) (q0 := 0) rfl rfl) rfl rfl (by decide) rfl rfl rfl rfl rfl hl.1 rfl (Nat.le_of_ble_eq_true rfl) dX11_scan_100 (fun H locs hP hD hS => ?_)
              refine lv_goto (tgt := 121) hx hb dX11_scan_103 (by decide) ?_
              cases hf
              exact ret_v hx hb hr hlk hK hP hD hS dX11_scan_121
          · have hf := of_neg hf c6
            refine lv_aload_n hx hb dX11_scan_85 rfl (lv_at hl 1 rfl) ?_
            obtain ⟨⟨r_86_10_x0_9, r_86_10_x0_11, r_86_10_x0_13⟩, hc_r_86_10, hf⟩ := of_bnd hf
            refine cl_Vv (w2 := (wW_X11_scan G h0 h1 h2 y0_0 y0_1 y0_2 y0_3 y0_4 y0_21 y0_22 y0_23 y0_24 y0_25 y0_26 y0_33 y0_34 y0_38 y0_39 y0_40 y0_41 y0_42 y0_43 y0_45 y0_46 y0_47 y0_48 x0_5 x0_7 x0_8 r_86_10_x0_9 x0_10_8 r_86_10_x0_11 x0_12_8 r_86_10_x0_13 x0_14 x0_15 x0_16 x0_17 x0_19 x0_20 x0_27 x0_28 x0_29 x0_30 x0_31 x0_32 x0_35 x0_36 x0_37 x0_44 x0_49 x0_50 a1 a2)) (As := []) (rest := []) ⟨hx, hb, hml, hown, ht0⟩ (c_X11_scanWord l G h0 h1 h2 y0_0 y0_1 y0_2 y0_3 y0_4 y0_21 y0_22 y0_23 y0_24 y0_25 y0_26 y0_33 y0_34 y0_38 y0_39 y0_40 y0_41 y0_42 y0_43 y0_45 y0_46 y0_47 y0_48 _ x0_5 x0_7 x0_8 (x0_10_8 + (1 : Int32)) x0_10_8 x0_11_8 x0_12_8 x0_13_8 x0_14 x0_15 x0_16 x0_17 x0_19 x0_20 x0_27 x0_28 x0_29 x0_30 x0_31 x0_32 x0_35 x0_36 x0_37 x0_44 x0_49 x0_50 a1 a2 F _ _ _ hc_r_86_10) yk_X11_scanWord wd_1285 ⟨rfl, rfl, by decide, by decide⟩ ⟨Nat.le_refl _, Nat.le_refl _⟩ hX hK hP hD hS hA [0, 1, 2] [] [0, 1, 2] (va_recv hK hP (ci := 11) (q0 := 0) rfl rfl) rfl rfl (by decide) rfl rfl rfl rfl rfl hl.1 rfl (Nat.le_of_ble_eq_true rfl) dX11_scan_86 (fun H locs hP hD hS => ?_)
            refine lv_goto (tgt := 121) hx hb dX11_scan_89 (by decide) ?_
            cases hf
            exact ret_v hx hb hr hlk hK hP hD hS dX11_scan_121
        · have hf := of_neg hf c4
          refine lv_aload_n hx hb dX11_scan_62 rfl (lv_at hl 1 rfl) ?_
          refine lv_aload_n hx hb dX11_scan_63 rfl (lv_at hl 1 rfl) ?_
          refine va_get (ci := 11) (v := .int x0_10_8) (C := RX11) (T := TX11) (N := 51) hx hb ht0 iX11 hown hK hP 0 rfl rfl 10 (by decide) (ht0 _ wd_1416) (fun _ h9 => h9) rfl dX11_scan_64 ?_
          refine va_put (ci := 11) (v := .int x0_10_8) (ty := .int) (C := RX11) (T := TX11) (N := 51) hx hb ht0 iX11 tyX11 tyX11_ok nmX11 hown hK hP hD hS 0 rfl rfl 9 (by decide) (ht0 _ wd_1415) (fun _ h9 => h9) rfl rfl rfl rfl (Nat.le_of_ble_eq_true rfl) dX11_scan_67 (fun H locs hP hD hS => ?_)
          have hP : va_P G.1 vwCl (wW_X11_scan G h0 h1 h2 y0_0 y0_1 y0_2 y0_3 y0_4 y0_21 y0_22 y0_23 y0_24 y0_25 y0_26 y0_33 y0_34 y0_38 y0_39 y0_40 y0_41 y0_42 y0_43 y0_45 y0_46 y0_47 y0_48 x0_5 x0_7 x0_8 x0_10_8 x0_10_8 x0_11_8 x0_12_8 x0_13_8 x0_14 x0_15 x0_16 x0_17 x0_19 x0_20 x0_27 x0_28 x0_29 x0_30 x0_31 x0_32 x0_35 x0_36 x0_37 x0_44 x0_49 x0_50 a1 a2) H := hP
          have hD : va_D A (wW_X11_scan G h0 h1 h2 y0_0 y0_1 y0_2 y0_3 y0_4 y0_21 y0_22 y0_23 y0_24 y0_25 y0_26 y0_33 y0_34 y0_38 y0_39 y0_40 y0_41 y0_42 y0_43 y0_45 y0_46 y0_47 y0_48 x0_5 x0_7 x0_8 x0_10_8 x0_10_8 x0_11_8 x0_12_8 x0_13_8 x0_14 x0_15 x0_16 x0_17 x0_19 x0_20 x0_27 x0_28 x0_29 x0_30 x0_31 x0_32 x0_35 x0_36 x0_37 x0_44 x0_49 x0_50 a1 a2) := hD
          refine lv_aload_n hx hb dX11_scan_70 rfl (lv_at hl 1 rfl) ?_
          refine lv_iconst (v := (0 : Int32)) hx hb dX11_scan_71 (by decide) ?_
          refine va_put (ci := 11) (v := .int (0 : Int32)) (ty := .int) (C := RX11) (T := TX11) (N := 51) hx hb ht0 iX11 tyX11 tyX11_ok nmX11 hown hK hP hD hS 0 rfl rfl 11 (by decide) (ht0 _ wd_1417) (fun _ h9 => h9) rfl rfl rfl rfl (Nat.le_of_ble_eq_true rfl) dX11_scan_72 (fun H locs hP hD hS => ?_)
          have hP : va_P G.1 vwCl (wW_X11_scan G h0 h1 h2 y0_0 y0_1 y0_2 y0_3 y0_4 y0_21 y0_22 y0_23 y0_24 y0_25 y0_26 y0_33 y0_34 y0_38 y0_39 y0_40 y0_41 y0_42 y0_43 y0_45 y0_46 y0_47 y0_48 x0_5 x0_7 x0_8 x0_10_8 x0_10_8 (0 : Int32) x0_12_8 x0_13_8 x0_14 x0_15 x0_16 x0_17 x0_19 x0_20 x0_27 x0_28 x0_29 x0_30 x0_31 x0_32 x0_35 x0_36 x0_37 x0_44 x0_49 x0_50 a1 a2) H := hP
          have hD : va_D A (wW_X11_scan G h0 h1 h2 y0_0 y0_1 y0_2 y0_3 y0_4 y0_21 y0_22 y0_23 y0_24 y0_25 y0_26 y0_33 y0_34 y0_38 y0_39 y0_40 y0_41 y0_42 y0_43 y0_45 y0_46 y0_47 y0_48 x0_5 x0_7 x0_8 x0_10_8 x0_10_8 (0 : Int32) x0_12_8 x0_13_8 x0_14 x0_15 x0_16 x0_17 x0_19 x0_20 x0_27 x0_28 x0_29 x0_30 x0_31 x0_32 x0_35 x0_36 x0_37 x0_44 x0_49 x0_50 a1 a2) := hD
          refine lv_goto (tgt := 121) hx hb dX11_scan_75 (by decide) ?_
          cases hf
          exact ret_v hx hb hr hlk hK hP hD hS dX11_scan_121
      · have hf := of_neg hf c2
        refine lv_aload_n hx hb dX11_scan_19 rfl (lv_at hl 0 rfl) ?_
        refine lv_dup hx hb dX11_scan_20 rfl ?_
        refine va_get (ci := 11) (v := .int x0_10_8) (C := RX11) (T := TX11) (N := 51) hx hb ht0 iX11 hown hK hP 0 rfl rfl 10 (by decide) (ht0 _ wd_1416) (fun _ h9 => h9) rfl dX11_scan_21 ?_
        refine lv_iconst (v := (1 : Int32)) hx hb dX11_scan_24 (by decide) ?_
        refine lv_iadd hx hb dX11_scan_25 ?_
        refine va_put (ci := 11) (v := .int (x0_10_8 + (1 : Int32))) (ty := .int) (C := RX11) (T := TX11) (N := 51) hx hb ht0 iX11 tyX11 tyX11_ok nmX11 hown hK hP hD hS 0 rfl rfl 10 (by decide) (ht0 _ wd_1416) (fun _ h9 => h9) rfl rfl rfl rfl (Nat.le_of_ble_eq_true rfl) dX11_scan_26 (fun H locs hP hD hS => ?_)
        have hP : va_P G.1 vwCl (wW_X11_scan G h0 h1 h2 y0_0 y0_1 y0_2 y0_3 y0_4 y0_21 y0_22 y0_23 y0_24 y0_25 y0_26 y0_33 y0_34 y0_38 y0_39 y0_40 y0_41 y0_42 y0_43 y0_45 y0_46 y0_47 y0_48 x0_5 x0_7 x0_8 x0_9_8 (x0_10_8 + (1 : Int32)) x0_11_8 x0_12_8 x0_13_8 x0_14 x0_15 x0_16 x0_17 x0_19 x0_20 x0_27 x0_28 x0_29 x0_30 x0_31 x0_32 x0_35 x0_36 x0_37 x0_44 x0_49 x0_50 a1 a2) H := hP
        have hD : va_D A (wW_X11_scan G h0 h1 h2 y0_0 y0_1 y0_2 y0_3 y0_4 y0_21 y0_22 y0_23 y0_24 y0_25 y0_26 y0_33 y0_34 y0_38 y0_39 y0_40 y0_41 y0_42 y0_43 y0_45 y0_46 y0_47 y0_48 x0_5 x0_7 x0_8 x0_9_8 (x0_10_8 + (1 : Int32)) x0_11_8 x0_12_8 x0_13_8 x0_14 x0_15 x0_16 x0_17 x0_19 x0_20 x0_27 x0_28 x0_29 x0_30 x0_31 x0_32 x0_35 x0_36 x0_37 x0_44 x0_49 x0_50 a1 a2) := hD
        refine lv_goto (tgt := 8) hx hb dX11_scan_29 (by decide) ?_
        exact ih8 _ _ _ _ _ hf _ _ hP hD hS _ (lv_sub hl [0] rfl)
  refine lv_aload_n hx hb dX11_scan_0 rfl (lv_at hl 0 rfl) ?_
  refine lv_aload_n hx hb dX11_scan_1 rfl (lv_at hl 0 rfl) ?_
  refine va_get (ci := 11) (v := .int x0_9) (C := RX11) (T := TX11) (N := 51) hx hb ht0 iX11 hown hK hP 0 rfl rfl 9 (by decide) (ht0 _ wd_1415) (fun _ h9 => h9) rfl dX11_scan_2 ?_
  refine va_put (ci := 11) (v := .int x0_9) (ty := .int) (C := RX11) (T := TX11) (N := 51) hx hb ht0 iX11 tyX11 tyX11_ok nmX11 hown hK hP hD hS 0 rfl rfl 10 (by decide) (ht0 _ wd_1416) (fun _ h9 => h9) rfl rfl rfl rfl (Nat.le_of_ble_eq_true rfl) dX11_scan_5 (fun H locs hP hD hS => ?_)
  have hP : va_P G.1 vwCl (wW_X11_scan G h0 h1 h2 y0_0 y0_1 y0_2 y0_3 y0_4 y0_21 y0_22 y0_23 y0_24 y0_25 y0_26 y0_33 y0_34 y0_38 y0_39 y0_40 y0_41 y0_42 y0_43 y0_45 y0_46 y0_47 y0_48 x0_5 x0_7 x0_8 x0_9 x0_9 x0_11 x0_12 x0_13 x0_14 x0_15 x0_16 x0_17 x0_19 x0_20 x0_27 x0_28 x0_29 x0_30 x0_31 x0_32 x0_35 x0_36 x0_37 x0_44 x0_49 x0_50 a1 a2) H := hP
  have hD : va_D A (wW_X11_scan G h0 h1 h2 y0_0 y0_1 y0_2 y0_3 y0_4 y0_21 y0_22 y0_23 y0_24 y0_25 y0_26 y0_33 y0_34 y0_38 y0_39 y0_40 y0_41 y0_42 y0_43 y0_45 y0_46 y0_47 y0_48 x0_5 x0_7 x0_8 x0_9 x0_9 x0_11 x0_12 x0_13 x0_14 x0_15 x0_16 x0_17 x0_19 x0_20 x0_27 x0_28 x0_29 x0_30 x0_31 x0_32 x0_35 x0_36 x0_37 x0_44 x0_49 x0_50 a1 a2) := hD
  exact kL8 _ _ _ _ _ _ hf _ _ hP hD hS _ (lv_sub hl [0] rfl)
theorem yk_X11_scan : ykV yX11_scan RX11 cX11_scan 2 none 0 := ⟨wd_1272, wd_41, wd_142, wd_1273, rfl, by decide +kernel, by decide +kernel, by decide +kernel⟩
theorem dX11_fail_0 : decode cX11_fail 0 = .ok (.aload_n 0, 1) := by decide +kernel
theorem dX11_fail_1 : decode cX11_fail 1 = .ok (.getfield 111, 3) := by decide +kernel
theorem dX11_fail_4 : decode cX11_fail 4 = .ok (.ifCond .le 4, 3) := by decide +kernel
theorem dX11_fail_7 : decode cX11_fail 7 = .ok (.return_, 1) := by decide +kernel
theorem dX11_fail_8 : decode cX11_fail 8 = .ok (.aload_n 0, 1) := by decide +kernel
theorem dX11_fail_9 : decode cX11_fail 9 = .ok (.iload_n 1, 1) := by decide +kernel
theorem dX11_fail_10 : decode cX11_fail 10 = .ok (.putfield 111, 3) := by decide +kernel
theorem dX11_fail_13 : decode cX11_fail 13 = .ok (.aload_n 0, 1) := by decide +kernel
theorem dX11_fail_14 : decode cX11_fail 14 = .ok (.aload_n 0, 1) := by decide +kernel
theorem dX11_fail_15 : decode cX11_fail 15 = .ok (.getfield 123, 3) := by decide +kernel
theorem dX11_fail_18 : decode cX11_fail 18 = .ok (.putfield 114, 3) := by decide +kernel
theorem dX11_fail_21 : decode cX11_fail 21 = .ok (.return_, 1) := by decide +kernel
def wW_X11_fail (G : GG) (h0 y0_0 y0_1 y0_2 y0_3 y0_4 y0_6 y0_18 y0_21 y0_22 y0_23 y0_24 y0_25 y0_26 y0_33 y0_34 y0_38 y0_39 y0_40 y0_41 y0_42 y0_43 y0_45 y0_46 y0_47 y0_48 : Nat) (x0_5 : Int32) (x0_7 : Int32) (x0_8 : Int32) (x0_9 : Int32) (x0_10 : Int32) (x0_11 : Int32) (x0_12 : Int32) (x0_13 : Int32) (x0_14 : Int32) (x0_15 : Int32) (x0_16 : Int32) (x0_17 : Int32) (x0_19 : Int32) (x0_20 : Int32) (x0_27 : Int32) (x0_28 : Int32) (x0_29 : Int32) (x0_30 : Int32) (x0_31 : Int32) (x0_32 : Int32) (x0_35 : Int32) (x0_36 : Int32) (x0_37 : Int32) (x0_44 : Int32) (x0_49 : Int32) (x0_50 : Int32) : va_W := [(h0, .inr (11, [.ref y0_0, .ref y0_1, .ref y0_2, .ref y0_3, .ref y0_4, .int x0_5, .ref y0_6, .int x0_7, .int x0_8, .int x0_9, .int x0_10, .int x0_11, .int x0_12, .int x0_13, .int x0_14, .int x0_15, .int x0_16, .int x0_17, .ref y0_18, .int x0_19, .int x0_20, .ref y0_21, .ref y0_22, .ref y0_23, .ref y0_24, .ref y0_25, .ref y0_26, .int x0_27, .int x0_28, .int x0_29, .int x0_30, .int x0_31, .int x0_32, .ref y0_33, .ref y0_34, .int x0_35, .int x0_36, .int x0_37, .ref y0_38, .ref y0_39, .ref y0_40, .ref y0_41, .ref y0_42, .ref y0_43, .int x0_44, .ref y0_45, .ref y0_46, .ref y0_47, .ref y0_48, .int x0_49, .int x0_50]))]
set_option maxHeartbeats 4000000 in
set_option maxRecDepth 100000 in
theorem c_X11_fail (l : Launch) (G : GG) (h0 y0_0 y0_1 y0_2 y0_3 y0_4 y0_6 y0_18 y0_21 y0_22 y0_23 y0_24 y0_25 y0_26 y0_33 y0_34 y0_38 y0_39 y0_40 y0_41 y0_42 y0_43 y0_45 y0_46 y0_47 y0_48 : Nat) (sz : Nat) (x0_5 : Int32) (x0_7 : Int32) (x0_8 : Int32) (x0_9 : Int32) (x0_10 : Int32) (x0_11 : Int32) (x0_12 : Int32) (x0_13 : Int32) (x0_14 : Int32) (x0_15 : Int32) (x0_16 : Int32) (x0_17 : Int32) (x0_19 : Int32) (x0_20 : Int32) (x0_27 : Int32) (x0_28 : Int32) (x0_29 : Int32) (x0_30 : Int32) (x0_31 : Int32) (x0_32 : Int32) (x0_35 : Int32) (x0_36 : Int32) (x0_37 : Int32) (x0_44 : Int32) (x0_49 : Int32) (x0_50 : Int32) (F : Nat) (b1 : Int32)  (e_x0_14 : Int32) (e_x0_15 : Int32) (hf : p_X11_fail F x0_10 x0_14 x0_15 b1 = some (e_x0_14, e_x0_15)) : Met l yX11_fail (.code yX11_fail cX11_fail 2 none :: gtbl) ({ frames := 0, cells := 0, slots := 0, locals := 0 } : Room) (PcS G [.ref h0, .int b1] (wW_X11_fail G h0 y0_0 y0_1 y0_2 y0_3 y0_4 y0_6 y0_18 y0_21 y0_22 y0_23 y0_24 y0_25 y0_26 y0_33 y0_34 y0_38 y0_39 y0_40 y0_41 y0_42 y0_43 y0_45 y0_46 y0_47 y0_48 x0_5 x0_7 x0_8 x0_9 x0_10 x0_11 x0_12 x0_13 x0_14 x0_15 x0_16 x0_17 x0_19 x0_20 x0_27 x0_28 x0_29 x0_30 x0_31 x0_32 x0_35 x0_36 x0_37 x0_44 x0_49 x0_50) sz) (QvS G (va_A (wW_X11_fail G h0 y0_0 y0_1 y0_2 y0_3 y0_4 y0_6 y0_18 y0_21 y0_22 y0_23 y0_24 y0_25 y0_26 y0_33 y0_34 y0_38 y0_39 y0_40 y0_41 y0_42 y0_43 y0_45 y0_46 y0_47 y0_48 x0_5 x0_7 x0_8 x0_9 x0_10 x0_11 x0_12 x0_13 x0_14 x0_15 x0_16 x0_17 x0_19 x0_20 x0_27 x0_28 x0_29 x0_30 x0_31 x0_32 x0_35 x0_36 x0_37 x0_44 x0_49 x0_50) sz) (wW_X11_fail G h0 y0_0 y0_1 y0_2 y0_3 y0_4 y0_6 y0_18 y0_21 y0_22 y0_23 y0_24 y0_25 y0_26 y0_33 y0_34 y0_38 y0_39 y0_40 y0_41 y0_42 y0_43 y0_45 y0_46 y0_47 y0_48 x0_5 x0_7 x0_8 x0_9 x0_10 x0_11 x0_12 x0_13 e_x0_14 e_x0_15 x0_16 x0_17 x0_19 x0_20 x0_27 x0_28 x0_29 x0_30 x0_31 x0_32 x0_35 x0_36 x0_37 x0_44 x0_49 x0_50)) 0 0 (va_A (wW_X11_fail G h0 y0_0 y0_1 y0_2 y0_3 y0_4 y0_6 y0_18 y0_21 y0_22 y0_23 y0_24 y0_25 y0_26 y0_33 y0_34 y0_38 y0_39 y0_40 y0_41 y0_42 y0_43 y0_45 y0_46 y0_47 y0_48 x0_5 x0_7 x0_8 x0_9 x0_10 x0_11 x0_12 x0_13 x0_14 x0_15 x0_16 x0_17 x0_19 x0_20 x0_27 x0_28 x0_29 x0_30 x0_31 x0_32 x0_35 x0_36 x0_37 x0_44 x0_49 x0_50) sz) := by
  refine met_start (by decide) (Nat.le_of_ble_eq_true rfl) ?_
  intro p e s m below meth c hC hr hlk hnm hK hP hD hA hS hX ls hl
  obtain ⟨hx, hb, hml, hown, ht0⟩ := hC
  have hown : s.vm.findClass RX11 = some m.cls := hown
  generalize va_A (wW_X11_fail G h0 y0_0 y0_1 y0_2 y0_3 y0_4 y0_6 y0_18 y0_21 y0_22 y0_23 y0_24 y0_25 y0_26 y0_33 y0_34 y0_38 y0_39 y0_40 y0_41 y0_42 y0_43 y0_45 y0_46 y0_47 y0_48 x0_5 x0_7 x0_8 x0_9 x0_10 x0_11 x0_12 x0_13 x0_14 x0_15 x0_16 x0_17 x0_19 x0_20 x0_27 x0_28 x0_29 x0_30 x0_31 x0_32 x0_35 x0_36 x0_37 x0_44 x0_49 x0_50) sz = A at hD hA hS hX ⊢
  have hl : lv_has ls 2 [(0, .ref h0), (1, .int b1)] := hl
  have hf : p_X11_fail F x0_10 x0_14 x0_15 b1 = some (e_x0_14, e_x0_15) := hf
  refine lv_aload_n hx hb dX11_fail_0 rfl (lv_at hl 0 rfl) ?_
  refine va_get (ci := 11) (v := .int x0_14) (C := RX11) (T := TX11) (N := 51) hx hb ht0 iX11 hown hK hP 0 rfl rfl 14 (by decide) (ht0 _ wd_1420) (fun _ h9 => h9) rfl dX11_fail_1 ?_
  refine lv_if_le (tgt := 8) hx hb dX11_fail_4 (by decide) (fun c1 => ?_) (fun c1 => ?_)
  · have hf := of_pos hf c1
    refine lv_aload_n hx hb dX11_fail_8 rfl (lv_at hl 0 rfl) ?_
    refine lv_iload_n hx hb dX11_fail_9 rfl (lv_at hl 1 rfl) ?_
    refine va_put (ci := 11) (v := .int b1) (ty := .int) (C := RX11) (T := TX11) (N := 51) hx hb ht0 iX11 tyX11 tyX11_ok nmX11 hown hK hP hD hS 0 rfl rfl 14 (by decide) (ht0 _ wd_1420) (fun _ h9 => h9) rfl rfl rfl rfl (Nat.le_of_ble_eq_true rfl) dX11_fail_10 (fun H locs hP hD hS => ?_)
    have hP : va_P G.1 vwCl (wW_X11_fail G h0 y0_0 y0_1 y0_2 y0_3 y0_4 y0_6 y0_18 y0_21 y0_22 y0_23 y0_24 y0_25 y0_26 y0_33 y0_34 y0_38 y0_39 y0_40 y0_41 y0_42 y0_43 y0_45 y0_46 y0_47 y0_48 x0_5 x0_7 x0_8 x0_9 x0_10 x0_11 x0_12 x0_13 b1 x0_15 x0_16 x0_17 x0_19 x0_20 x0_27 x0_28 x0_29 x0_30 x0_31 x0_32 x0_35 x0_36 x0_37 x0_44 x0_49 x0_50) H := hP
    have hD : va_D A (wW_X11_fail G h0 y0_0 y0_1 y0_2 y0_3 y0_4 y0_6 y0_18 y0_21 y0_22 y0_23 y0_24 y0_25 y0_26 y0_33 y0_34 y0_38 y0_39 y0_40 y0_41 y0_42 y0_43 y0_45 y0_46 y0_47 y0_48 x0_5 x0_7 x0_8 x0_9 x0_10 x0_11 x0_12 x0_13 b1 x0_15 x0_16 x0_17 x0_19 x0_20 x0_27 x0_28 x0_29 x0_30 x0_31 x0_32 x0_35 x0_36 x0_37 x0_44 x0_49 x0_50) := hD
    refine lv_aload_n hx hb dX11_fail_13 rfl (lv_at hl 0 rfl) ?_
    refine lv_aload_n hx hb dX11_fail_14 rfl (lv_at hl 0 rfl) ?_
    refine va_get (ci := 11) (v := .int x0_10) (C := RX11) (T := TX11) (N := 51) hx hb ht0 iX11 hown hK hP 0 rfl rfl 10 (by decide) (ht0 _ wd_1416) (fun _ h9 => h9) rfl dX11_fail_15 ?_
    refine va_put (ci := 11) (v := .int x0_10) (ty := .int) (C := RX11) (T := TX11) (N := 51) hx hb ht0 iX11 tyX11 tyX11_ok nmX11 hown hK hP hD hS 0 rfl rfl 15 (by decide) (ht0 _ wd_1421) (fun _ h9 => h9) rfl rfl rfl rfl (Nat.le_of_ble_eq_true rfl) dX11_fail_18 (fun H locs hP hD hS => ?_)
    have hP : va_P G.1 vwCl (wW_X11_fail G h0 y0_0 y0_1 y0_2 y0_3 y0_4 y0_6 y0_18 y0_21 y0_22 y0_23 y0_24 y0_25 y0_26 y0_33 y0_34 y0_38 y0_39 y0_40 y0_41 y0_42 y0_43 y0_45 y0_46 y0_47 y0_48 x0_5 x0_7 x0_8 x0_9 x0_10 x0_11 x0_12 x0_13 b1 x0_10 x0_16 x0_17 x0_19 x0_20 x0_27 x0_28 x0_29 x0_30 x0_31 x0_32 x0_35 x0_36 x0_37 x0_44 x0_49 x0_50) H := hP
    have hD : va_D A (wW_X11_fail G h0 y0_0 y0_1 y0_2 y0_3 y0_4 y0_6 y0_18 y0_21 y0_22 y0_23 y0_24 y0_25 y0_26 y0_33 y0_34 y0_38 y0_39 y0_40 y0_41 y0_42 y0_43 y0_45 y0_46 y0_47 y0_48 x0_5 x0_7 x0_8 x0_9 x0_10 x0_11 x0_12 x0_13 b1 x0_10 x0_16 x0_17 x0_19 x0_20 x0_27 x0_28 x0_29 x0_30 x0_31 x0_32 x0_35 x0_36 x0_37 x0_44 x0_49 x0_50) := hD
    cases hf
    exact ret_v hx hb hr hlk hK hP hD hS dX11_fail_21
  · have hf := of_neg hf c1
    cases hf
    exact ret_v hx hb hr hlk hK hP hD hS dX11_fail_7
theorem yk_X11_fail : ykV yX11_fail RX11 cX11_fail 2 none 1 := ⟨wd_1315, wd_50, wd_142, wd_1316, rfl, by decide +kernel, by decide +kernel, by decide +kernel⟩
theorem dX11_isWord_0 : decode cX11_isWord 0 = .ok (.aload_n 0, 1) := by decide +kernel
theorem dX11_isWord_1 : decode cX11_isWord 1 = .ok (.getfield 111, 3) := by decide +kernel
theorem dX11_isWord_4 : decode cX11_isWord 4 = .ok (.ifCond .ne 23, 3) := by decide +kernel
theorem dX11_isWord_7 : decode cX11_isWord 7 = .ok (.aload_n 0, 1) := by decide +kernel
theorem dX11_isWord_8 : decode cX11_isWord 8 = .ok (.getfield 134, 3) := by decide +kernel
theorem dX11_isWord_11 : decode cX11_isWord 11 = .ok (.iconst 2, 1) := by decide +kernel
theorem dX11_isWord_12 : decode cX11_isWord 12 = .ok (.if_icmp .ne 15, 3) := by decide +kernel
theorem dX11_isWord_15 : decode cX11_isWord 15 = .ok (.aload_n 0, 1) := by decide +kernel
theorem dX11_isWord_16 : decode cX11_isWord 16 = .ok (.getfield 149, 3) := by decide +kernel
theorem dX11_isWord_19 : decode cX11_isWord 19 = .ok (.iload_n 1, 1) := by decide +kernel
theorem dX11_isWord_20 : decode cX11_isWord 20 = .ok (.if_icmp .ne 7, 3) := by decide +kernel
theorem dX11_isWord_23 : decode cX11_isWord 23 = .ok (.iconst 1, 1) := by decide +kernel
theorem dX11_isWord_24 : decode cX11_isWord 24 = .ok (.goto 4, 3) := by decide +kernel
theorem dX11_isWord_27 : decode cX11_isWord 27 = .ok (.iconst 0, 1) := by decide +kernel
theorem dX11_isWord_28 : decode cX11_isWord 28 = .ok (.ireturn, 1) := by decide +kernel
def wW_X11_isWord (G : GG) (h0 y0_0 y0_1 y0_2 y0_3 y0_4 y0_6 y0_18 y0_21 y0_22 y0_23 y0_24 y0_25 y0_26 y0_33 y0_34 y0_38 y0_39 y0_40 y0_41 y0_42 y0_43 y0_45 y0_46 y0_47 y0_48 : Nat) (x0_5 : Int32) (x0_7 : Int32) (x0_8 : Int32) (x0_9 : Int32) (x0_10 : Int32) (x0_11 : Int32) (x0_12 : Int32) (x0_13 : Int32) (x0_14 : Int32) (x0_15 : Int32) (x0_16 : Int32) (x0_17 : Int32) (x0_19 : Int32) (x0_20 : Int32) (x0_27 : Int32) (x0_28 : Int32) (x0_29 : Int32) (x0_30 : Int32) (x0_31 : Int32) (x0_32 : Int32) (x0_35 : Int32) (x0_36 : Int32) (x0_37 : Int32) (x0_44 : Int32) (x0_49 : Int32) (x0_50 : Int32) : va_W := [(h0, .inr (11, [.ref y0_0, .ref y0_1, .ref y0_2, .ref y0_3, .ref y0_4, .int x0_5, .ref y0_6, .int x0_7, .int x0_8, .int x0_9, .int x0_10, .int x0_11, .int x0_12, .int x0_13, .int x0_14, .int x0_15, .int x0_16, .int x0_17, .ref y0_18, .int x0_19, .int x0_20, .ref y0_21, .ref y0_22, .ref y0_23, .ref y0_24, .ref y0_25, .ref y0_26, .int x0_27, .int x0_28, .int x0_29, .int x0_30, .int x0_31, .int x0_32, .ref y0_33, .ref y0_34, .int x0_35, .int x0_36, .int x0_37, .ref y0_38, .ref y0_39, .ref y0_40, .ref y0_41, .ref y0_42, .ref y0_43, .int x0_44, .ref y0_45, .ref y0_46, .ref y0_47, .ref y0_48, .int x0_49, .int x0_50]))]
set_option maxHeartbeats 4000000 in
set_option maxRecDepth 100000 in
theorem c_X11_isWord (l : Launch) (G : GG) (h0 y0_0 y0_1 y0_2 y0_3 y0_4 y0_6 y0_18 y0_21 y0_22 y0_23 y0_24 y0_25 y0_26 y0_33 y0_34 y0_38 y0_39 y0_40 y0_41 y0_42 y0_43 y0_45 y0_46 y0_47 y0_48 : Nat) (sz : Nat) (x0_5 : Int32) (x0_7 : Int32) (x0_8 : Int32) (x0_9 : Int32) (x0_10 : Int32) (x0_11 : Int32) (x0_12 : Int32) (x0_13 : Int32) (x0_14 : Int32) (x0_15 : Int32) (x0_16 : Int32) (x0_17 : Int32) (x0_19 : Int32) (x0_20 : Int32) (x0_27 : Int32) (x0_28 : Int32) (x0_29 : Int32) (x0_30 : Int32) (x0_31 : Int32) (x0_32 : Int32) (x0_35 : Int32) (x0_36 : Int32) (x0_37 : Int32) (x0_44 : Int32) (x0_49 : Int32) (x0_50 : Int32) (F : Nat) (b1 : Int32)  (r0 : Int32) (hf : p_X11_isWord F x0_11 x0_13 x0_14 b1 = some r0) : Met l yX11_isWord (.code yX11_isWord cX11_isWord 2 (some .boolean) :: gtbl) ({ frames := 0, cells := 0, slots := 0, locals := 0 } : Room) (PcS G [.ref h0, .int b1] (wW_X11_isWord G h0 y0_0 y0_1 y0_2 y0_3 y0_4 y0_6 y0_18 y0_21 y0_22 y0_23 y0_24 y0_25 y0_26 y0_33 y0_34 y0_38 y0_39 y0_40 y0_41 y0_42 y0_43 y0_45 y0_46 y0_47 y0_48 x0_5 x0_7 x0_8 x0_9 x0_10 x0_11 x0_12 x0_13 x0_14 x0_15 x0_16 x0_17 x0_19 x0_20 x0_27 x0_28 x0_29 x0_30 x0_31 x0_32 x0_35 x0_36 x0_37 x0_44 x0_49 x0_50) sz) (QiS G r0 (va_A (wW_X11_isWord G h0 y0_0 y0_1 y0_2 y0_3 y0_4 y0_6 y0_18 y0_21 y0_22 y0_23 y0_24 y0_25 y0_26 y0_33 y0_34 y0_38 y0_39 y0_40 y0_41 y0_42 y0_43 y0_45 y0_46 y0_47 y0_48 x0_5 x0_7 x0_8 x0_9 x0_10 x0_11 x0_12 x0_13 x0_14 x0_15 x0_16 x0_17 x0_19 x0_20 x0_27 x0_28 x0_29 x0_30 x0_31 x0_32 x0_35 x0_36 x0_37 x0_44 x0_49 x0_50) sz) (wW_X11_isWord G h0 y0_0 y0_1 y0_2 y0_3 y0_4 y0_6 y0_18 y0_21 y0_22 y0_23 y0_24 y0_25 y0_26 y0_33 y0_34 y0_38 y0_39 y0_40 y0_41 y0_42 y0_43 y0_45 y0_46 y0_47 y0_48 x0_5 x0_7 x0_8 x0_9 x0_10 x0_11 x0_12 x0_13 x0_14 x0_15 x0_16 x0_17 x0_19 x0_20 x0_27 x0_28 x0_29 x0_30 x0_31 x0_32 x0_35 x0_36 x0_37 x0_44 x0_49 x0_50)) 0 0 (va_A (wW_X11_isWord G h0 y0_0 y0_1 y0_2 y0_3 y0_4 y0_6 y0_18 y0_21 y0_22 y0_23 y0_24 y0_25 y0_26 y0_33 y0_34 y0_38 y0_39 y0_40 y0_41 y0_42 y0_43 y0_45 y0_46 y0_47 y0_48 x0_5 x0_7 x0_8 x0_9 x0_10 x0_11 x0_12 x0_13 x0_14 x0_15 x0_16 x0_17 x0_19 x0_20 x0_27 x0_28 x0_29 x0_30 x0_31 x0_32 x0_35 x0_36 x0_37 x0_44 x0_49 x0_50) sz) := by
  refine met_start (by decide) (Nat.le_of_ble_eq_true rfl) ?_
  intro p e s m below meth c hC hr hlk hnm hK hP hD hA hS hX ls hl
  obtain ⟨hx, hb, hml, hown, ht0⟩ := hC
  have hown : s.vm.findClass RX11 = some m.cls := hown
  generalize va_A (wW_X11_isWord G h0 y0_0 y0_1 y0_2 y0_3 y0_4 y0_6 y0_18 y0_21 y0_22 y0_23 y0_24 y0_25 y0_26 y0_33 y0_34 y0_38 y0_39 y0_40 y0_41 y0_42 y0_43 y0_45 y0_46 y0_47 y0_48 x0_5 x0_7 x0_8 x0_9 x0_10 x0_11 x0_12 x0_13 x0_14 x0_15 x0_16 x0_17 x0_19 x0_20 x0_27 x0_28 x0_29 x0_30 x0_31 x0_32 x0_35 x0_36 x0_37 x0_44 x0_49 x0_50) sz = A at hD hA hS hX ⊢
  have hl : lv_has ls 2 [(0, .ref h0), (1, .int b1)] := hl
  have hf : p_X11_isWord F x0_11 x0_13 x0_14 b1 = some r0 := hf
  refine lv_aload_n hx hb dX11_isWord_0 rfl (lv_at hl 0 rfl) ?_
  refine va_get (ci := 11) (v := .int x0_14) (C := RX11) (T := TX11) (N := 51) hx hb ht0 iX11 hown hK hP 0 rfl rfl 14 (by decide) (ht0 _ wd_1420) (fun _ h9 => h9) rfl dX11_isWord_1 ?_
  refine lv_if_ne (tgt := 27) hx hb dX11_isWord_4 (by decide) (fun c1 => ?_) (fun c1 => ?_)
  · have hf := of_neg hf c1
    refine lv_iconst (v := (0 : Int32)) hx hb dX11_isWord_27 (by decide) ?_
    cases hf
    exact ret_z hx hb hr hlk hK hP hD hS (by decide) dX11_isWord_28
  · have hf := of_pos hf c1
    refine lv_aload_n hx hb dX11_isWord_7 rfl (lv_at hl 0 rfl) ?_
    refine va_get (ci := 11) (v := .int x0_11) (C := RX11) (T := TX11) (N := 51) hx hb ht0 iX11 hown hK hP 0 rfl rfl 11 (by decide) (ht0 _ wd_1417) (fun _ h9 => h9) rfl dX11_isWord_8 ?_
    refine lv_iconst (v := (2 : Int32)) hx hb dX11_isWord_11 (by decide) ?_
    refine lv_icmp_ne (tgt := 27) hx hb dX11_isWord_12 (by decide) (fun c2 => ?_) (fun c2 => ?_)
    · have hf := of_neg hf c2
      refine lv_iconst (v := (0 : Int32)) hx hb dX11_isWord_27 (by decide) ?_
      cases hf
      exact ret_z hx hb hr hlk hK hP hD hS (by decide) dX11_isWord_28
    · have hf := of_pos hf c2
      refine lv_aload_n hx hb dX11_isWord_15 rfl (lv_at hl 0 rfl) ?_
      refine va_get (ci := 11) (v := .int x0_13) (C := RX11) (T := TX11) (N := 51) hx hb ht0 iX11 hown hK hP 0 rfl rfl 13 (by decide) (ht0 _ wd_1419) (fun _ h9 => h9) rfl dX11_isWord_16 ?_
      refine lv_iload_n hx hb dX11_isWord_19 rfl (lv_at hl 1 rfl) ?_
      refine lv_icmp_ne (tgt := 27) hx hb dX11_isWord_20 (by decide) (fun c3 => ?_) (fun c3 => ?_)
      · have hf := of_neg hf c3
        refine lv_iconst (v := (0 : Int32)) hx hb dX11_isWord_27 (by decide) ?_
        cases hf
        exact ret_z hx hb hr hlk hK hP hD hS (by decide) dX11_isWord_28
      · have hf := of_pos hf c3
        refine lv_iconst (v := (1 : Int32)) hx hb dX11_isWord_23 (by decide) ?_
        refine lv_goto (tgt := 28) hx hb dX11_isWord_24 (by decide) ?_
        cases hf
        exact ret_z hx hb hr hlk hK hP hD hS (by decide) dX11_isWord_28
theorem yk_X11_isWord : ykV yX11_isWord RX11 cX11_isWord 2 (some .boolean) 1 := ⟨wd_1307, wd_48, wd_142, wd_1308, rfl, by decide +kernel, by decide +kernel, by decide +kernel⟩
theorem dX11_isStop_0 : decode cX11_isStop 0 = .ok (.aload_n 0, 1) := by decide +kernel
theorem dX11_isStop_1 : decode cX11_isStop 1 = .ok (.getfield 111, 3) := by decide +kernel
theorem dX11_isStop_4 : decode cX11_isStop 4 = .ok (.ifCond .ne 15, 3) := by decide +kernel
theorem dX11_isStop_7 : decode cX11_isStop 7 = .ok (.aload_n 0, 1) := by decide +kernel
theorem dX11_isStop_8 : decode cX11_isStop 8 = .ok (.getfield 134, 3) := by decide +kernel
theorem dX11_isStop_11 : decode cX11_isStop 11 = .ok (.iconst 4, 1) := by decide +kernel
theorem dX11_isStop_12 : decode cX11_isStop 12 = .ok (.if_icmp .ne 7, 3) := by decide +kernel
theorem dX11_isStop_15 : decode cX11_isStop 15 = .ok (.iconst 1, 1) := by decide +kernel
theorem dX11_isStop_16 : decode cX11_isStop 16 = .ok (.goto 4, 3) := by decide +kernel
theorem dX11_isStop_19 : decode cX11_isStop 19 = .ok (.iconst 0, 1) := by decide +kernel
theorem dX11_isStop_20 : decode cX11_isStop 20 = .ok (.ireturn, 1) := by decide +kernel
def wW_X11_isStop (G : GG) (h0 y0_0 y0_1 y0_2 y0_3 y0_4 y0_6 y0_18 y0_21 y0_22 y0_23 y0_24 y0_25 y0_26 y0_33 y0_34 y0_38 y0_39 y0_40 y0_41 y0_42 y0_43 y0_45 y0_46 y0_47 y0_48 : Nat) (x0_5 : Int32) (x0_7 : Int32) (x0_8 : Int32) (x0_9 : Int32) (x0_10 : Int32) (x0_11 : Int32) (x0_12 : Int32) (x0_13 : Int32) (x0_14 : Int32) (x0_15 : Int32) (x0_16 : Int32) (x0_17 : Int32) (x0_19 : Int32) (x0_20 : Int32) (x0_27 : Int32) (x0_28 : Int32) (x0_29 : Int32) (x0_30 : Int32) (x0_31 : Int32) (x0_32 : Int32) (x0_35 : Int32) (x0_36 : Int32) (x0_37 : Int32) (x0_44 : Int32) (x0_49 : Int32) (x0_50 : Int32) : va_W := [(h0, .inr (11, [.ref y0_0, .ref y0_1, .ref y0_2, .ref y0_3, .ref y0_4, .int x0_5, .ref y0_6, .int x0_7, .int x0_8, .int x0_9, .int x0_10, .int x0_11, .int x0_12, .int x0_13, .int x0_14, .int x0_15, .int x0_16, .int x0_17, .ref y0_18, .int x0_19, .int x0_20, .ref y0_21, .ref y0_22, .ref y0_23, .ref y0_24, .ref y0_25, .ref y0_26, .int x0_27, .int x0_28, .int x0_29, .int x0_30, .int x0_31, .int x0_32, .ref y0_33, .ref y0_34, .int x0_35, .int x0_36, .int x0_37, .ref y0_38, .ref y0_39, .ref y0_40, .ref y0_41, .ref y0_42, .ref y0_43, .int x0_44, .ref y0_45, .ref y0_46, .ref y0_47, .ref y0_48, .int x0_49, .int x0_50]))]
set_option maxHeartbeats 4000000 in
set_option maxRecDepth 100000 in
theorem c_X11_isStop (l : Launch) (G : GG) (h0 y0_0 y0_1 y0_2 y0_3 y0_4 y0_6 y0_18 y0_21 y0_22 y0_23 y0_24 y0_25 y0_26 y0_33 y0_34 y0_38 y0_39 y0_40 y0_41 y0_42 y0_43 y0_45 y0_46 y0_47 y0_48 : Nat) (sz : Nat) (x0_5 : Int32) (x0_7 : Int32) (x0_8 : Int32) (x0_9 : Int32) (x0_10 : Int32) (x0_11 : Int32) (x0_12 : Int32) (x0_13 : Int32) (x0_14 : Int32) (x0_15 : Int32) (x0_16 : Int32) (x0_17 : Int32) (x0_19 : Int32) (x0_20 : Int32) (x0_27 : Int32) (x0_28 : Int32) (x0_29 : Int32) (x0_30 : Int32) (x0_31 : Int32) (x0_32 : Int32) (x0_35 : Int32) (x0_36 : Int32) (x0_37 : Int32) (x0_44 : Int32) (x0_49 : Int32) (x0_50 : Int32) (F : Nat)   (r0 : Int32) (hf : p_X11_isStop F x0_11 x0_14  = some r0) : Met l yX11_isStop (.code yX11_isStop cX11_isStop 1 (some .boolean) :: gtbl) ({ frames := 0, cells := 0, slots := 0, locals := 0 } : Room) (PcS G [.ref h0] (wW_X11_isStop G h0 y0_0 y0_1 y0_2 y0_3 y0_4 y0_6 y0_18 y0_21 y0_22 y0_23 y0_24 y0_25 y0_26 y0_33 y0_34 y0_38 y0_39 y0_40 y0_41 y0_42 y0_43 y0_45 y0_46 y0_47 y0_48 x0_5 x0_7 x0_8 x0_9 x0_10 x0_11 x0_12 x0_13 x0_14 x0_15 x0_16 x0_17 x0_19 x0_20 x0_27 x0_28 x0_29 x0_30 x0_31 x0_32 x0_35 x0_36 x0_37 x0_44 x0_49 x0_50) sz) (QiS G r0 (va_A (wW_X11_isStop G h0 y0_0 y0_1 y0_2 y0_3 y0_4 y0_6 y0_18 y0_21 y0_22 y0_23 y0_24 y0_25 y0_26 y0_33 y0_34 y0_38 y0_39 y0_40 y0_41 y0_42 y0_43 y0_45 y0_46 y0_47 y0_48 x0_5 x0_7 x0_8 x0_9 x0_10 x0_11 x0_12 x0_13 x0_14 x0_15 x0_16 x0_17 x0_19 x0_20 x0_27 x0_28 x0_29 x0_30 x0_31 x0_32 x0_35 x0_36 x0_37 x0_44 x0_49 x0_50) sz) (wW_X11_isStop G h0 y0_0 y0_1 y0_2 y0_3 y0_4 y0_6 y0_18 y0_21 y0_22 y0_23 y0_24 y0_25 y0_26 y0_33 y0_34 y0_38 y0_39 y0_40 y0_41 y0_42 y0_43 y0_45 y0_46 y0_47 y0_48 x0_5 x0_7 x0_8 x0_9 x0_10 x0_11 x0_12 x0_13 x0_14 x0_15 x0_16 x0_17 x0_19 x0_20 x0_27 x0_28 x0_29 x0_30 x0_31 x0_32 x0_35 x0_36 x0_37 x0_44 x0_49 x0_50)) 0 0 (va_A (wW_X11_isStop G h0 y0_0 y0_1 y0_2 y0_3 y0_4 y0_6 y0_18 y0_21 y0_22 y0_23 y0_24 y0_25 y0_26 y0_33 y0_34 y0_38 y0_39 y0_40 y0_41 y0_42 y0_43 y0_45 y0_46 y0_47 y0_48 x0_5 x0_7 x0_8 x0_9 x0_10 x0_11 x0_12 x0_13 x0_14 x0_15 x0_16 x0_17 x0_19 x0_20 x0_27 x0_28 x0_29 x0_30 x0_31 x0_32 x0_35 x0_36 x0_37 x0_44 x0_49 x0_50) sz) := by
  refine met_start (by decide) (Nat.le_of_ble_eq_true rfl) ?_
  intro p e s m below meth c hC hr hlk hnm hK hP hD hA hS hX ls hl
  obtain ⟨hx, hb, hml, hown, ht0⟩ := hC
  have hown : s.vm.findClass RX11 = some m.cls := hown
  generalize va_A (wW_X11_isStop G h0 y0_0 y0_1 y0_2 y0_3 y0_4 y0_6 y0_18 y0_21 y0_22 y0_23 y0_24 y0_25 y0_26 y0_33 y0_34 y0_38 y0_39 y0_40 y0_41 y0_42 y0_43 y0_45 y0_46 y0_47 y0_48 x0_5 x0_7 x0_8 x0_9 x0_10 x0_11 x0_12 x0_13 x0_14 x0_15 x0_16 x0_17 x0_19 x0_20 x0_27 x0_28 x0_29 x0_30 x0_31 x0_32 x0_35 x0_36 x0_37 x0_44 x0_49 x0_50) sz = A at hD hA hS hX ⊢
  have hl : lv_has ls 1 [(0, .ref h0)] := hl
  have hf : p_X11_isStop F x0_11 x0_14  = some r0 := hf
  refine lv_aload_n hx hb dX11_isStop_0 rfl (lv_at hl 0 rfl) ?_
  refine va_get (ci := 11) (v := .int x0_14) (C := RX11) (T := TX11) (N := 51) hx hb ht0 iX11 hown hK hP 0 rfl rfl 14 (by decide) (ht0 _ wd_1420) (fun _ h9 => h9) rfl dX11_isStop_1 ?_
  refine lv_if_ne (tgt := 19) hx hb dX11_isStop_4 (by decide) (fun c1 => ?_) (fun c1 => ?_)
  · have hf := of_neg hf c1
    refine lv_iconst (v := (0 : Int32)) hx hb dX11_isStop_19 (by decide) ?_
    cases hf
    exact ret_z hx hb hr hlk hK hP hD hS (by decide) dX11_isStop_20
  · have hf := of_pos hf c1
    refine lv_aload_n hx hb dX11_isStop_7 rfl (lv_at hl 0 rfl) ?_
    refine va_get (ci := 11) (v := .int x0_11) (C := RX11) (T := TX11) (N := 51) hx hb ht0 iX11 hown hK hP 0 rfl rfl 11 (by decide) (ht0 _ wd_1417) (fun _ h9 => h9) rfl dX11_isStop_8 ?_
    refine lv_iconst (v := (4 : Int32)) hx hb dX11_isStop_11 (by decide) ?_
    refine lv_icmp_ne (tgt := 19) hx hb dX11_isStop_12 (by decide) (fun c2 => ?_) (fun c2 => ?_)
    · have hf := of_neg hf c2
      refine lv_iconst (v := (0 : Int32)) hx hb dX11_isStop_19 (by decide) ?_
      cases hf
      exact ret_z hx hb hr hlk hK hP hD hS (by decide) dX11_isStop_20
    · have hf := of_pos hf c2
      refine lv_iconst (v := (1 : Int32)) hx hb dX11_isStop_15 (by decide) ?_
      refine lv_goto (tgt := 20) hx hb dX11_isStop_16 (by decide) ?_
      cases hf
      exact ret_z hx hb hr hlk hK hP hD hS (by decide) dX11_isStop_20
theorem yk_X11_isStop : ykV yX11_isStop RX11 cX11_isStop 1 (some .boolean) 0 := ⟨wd_1388, wd_65, wd_142, wd_1389, rfl, by decide +kernel, by decide +kernel, by decide +kernel⟩
theorem dX11_numeral_0 : decode cX11_numeral 0 = .ok (.aload_n 0, 1) := by decide +kernel
theorem dX11_numeral_1 : decode cX11_numeral 1 = .ok (.getfield 134, 3) := by decide +kernel
theorem dX11_numeral_4 : decode cX11_numeral 4 = .ok (.iconst 3, 1) := by decide +kernel
theorem dX11_numeral_5 : decode cX11_numeral 5 = .ok (.if_icmp .eq 11, 3) := by decide +kernel
theorem dX11_numeral_8 : decode cX11_numeral 8 = .ok (.aload_n 0, 1) := by decide +kernel
theorem dX11_numeral_9 : decode cX11_numeral 9 = .ok (.iconst 1, 1) := by decide +kernel
theorem dX11_numeral_10 : decode cX11_numeral 10 = .ok (.invokevirtual 160, 3) := by decide +kernel
theorem dX11_numeral_13 : decode cX11_numeral 13 = .ok (.goto 20, 3) := by decide +kernel
theorem dX11_numeral_16 : decode cX11_numeral 16 = .ok (.aload_n 0, 1) := by decide +kernel
theorem dX11_numeral_17 : decode cX11_numeral 17 = .ok (.getfield 156, 3) := by decide +kernel
theorem dX11_numeral_20 : decode cX11_numeral 20 = .ok (.iload_n 1, 1) := by decide +kernel
theorem dX11_numeral_21 : decode cX11_numeral 21 = .ok (.iload_n 2, 1) := by decide +kernel
theorem dX11_numeral_22 : decode cX11_numeral 22 = .ok (.invokestatic 163, 3) := by decide +kernel
theorem dX11_numeral_25 : decode cX11_numeral 25 = .ok (.ifCond .ne 8, 3) := by decide +kernel
theorem dX11_numeral_28 : decode cX11_numeral 28 = .ok (.aload_n 0, 1) := by decide +kernel
theorem dX11_numeral_29 : decode cX11_numeral 29 = .ok (.iconst 2, 1) := by decide +kernel
theorem dX11_numeral_30 : decode cX11_numeral 30 = .ok (.invokevirtual 160, 3) := by decide +kernel
theorem dX11_numeral_33 : decode cX11_numeral 33 = .ok (.aload_n 0, 1) := by decide +kernel
theorem dX11_numeral_34 : decode cX11_numeral 34 = .ok (.getfield 156, 3) := by decide +kernel
theorem dX11_numeral_37 : decode cX11_numeral 37 = .ok (.istore_n 3, 1) := by decide +kernel
theorem dX11_numeral_38 : decode cX11_numeral 38 = .ok (.aload_n 0, 1) := by decide +kernel
theorem dX11_numeral_39 : decode cX11_numeral 39 = .ok (.getfield 111, 3) := by decide +kernel
theorem dX11_numeral_42 : decode cX11_numeral 42 = .ok (.ifCond .ne 7, 3) := by decide +kernel
theorem dX11_numeral_45 : decode cX11_numeral 45 = .ok (.aload_n 0, 1) := by decide +kernel
theorem dX11_numeral_46 : decode cX11_numeral 46 = .ok (.invokevirtual 167, 3) := by decide +kernel
theorem dX11_numeral_49 : decode cX11_numeral 49 = .ok (.iload_n 3, 1) := by decide +kernel
theorem dX11_numeral_50 : decode cX11_numeral 50 = .ok (.ireturn, 1) := by decide +kernel
def wW_X11_numeral (G : GG) (h0 h1 h2 y0_0 y0_1 y0_2 y0_3 y0_4 y0_21 y0_22 y0_23 y0_24 y0_25 y0_26 y0_33 y0_34 y0_38 y0_39 y0_40 y0_41 y0_42 y0_43 y0_45 y0_46 y0_47 y0_48 : Nat) (x0_5 : Int32) (x0_7 : Int32) (x0_8 : Int32) (x0_9 : Int32) (x0_10 : Int32) (x0_11 : Int32) (x0_12 : Int32) (x0_13 : Int32) (x0_14 : Int32) (x0_15 : Int32) (x0_16 : Int32) (x0_17 : Int32) (x0_19 : Int32) (x0_20 : Int32) (x0_27 : Int32) (x0_28 : Int32) (x0_29 : Int32) (x0_30 : Int32) (x0_31 : Int32) (x0_32 : Int32) (x0_35 : Int32) (x0_36 : Int32) (x0_37 : Int32) (x0_44 : Int32) (x0_49 : Int32) (x0_50 : Int32) (a1 : Nat → Int32) (a2 : Nat → Int32) : va_W := [(h0, .inr (11, [.ref y0_0, .ref y0_1, .ref y0_2, .ref y0_3, .ref y0_4, .int x0_5, .ref h1, .int x0_7, .int x0_8, .int x0_9, .int x0_10, .int x0_11, .int x0_12, .int x0_13, .int x0_14, .int x0_15, .int x0_16, .int x0_17, .ref h2, .int x0_19, .int x0_20, .ref y0_21, .ref y0_22, .ref y0_23, .ref y0_24, .ref y0_25, .ref y0_26, .int x0_27, .int x0_28, .int x0_29, .int x0_30, .int x0_31, .int x0_32, .ref y0_33, .ref y0_34, .int x0_35, .int x0_36, .int x0_37, .ref y0_38, .ref y0_39, .ref y0_40, .ref y0_41, .ref y0_42, .ref y0_43, .int x0_44, .ref y0_45, .ref y0_46, .ref y0_47, .ref y0_48, .int x0_49, .int x0_50])), (h1, .inl (G.2.2.2.1, 600, .inl a1)), (h2, .inl (G.2.2.2.1, 56, .inl a2))]
set_option maxHeartbeats 4000000 in
set_option maxRecDepth 100000 in
theorem c_X11_numeral (l : Launch) (G : GG) (h0 h1 h2 y0_0 y0_1 y0_2 y0_3 y0_4 y0_21 y0_22 y0_23 y0_24 y0_25 y0_26 y0_33 y0_34 y0_38 y0_39 y0_40 y0_41 y0_42 y0_43 y0_45 y0_46 y0_47 y0_48 : Nat) (sz : Nat) (x0_5 : Int32) (x0_7 : Int32) (x0_8 : Int32) (x0_9 : Int32) (x0_10 : Int32) (x0_11 : Int32) (x0_12 : Int32) (x0_13 : Int32) (x0_14 : Int32) (x0_15 : Int32) (x0_16 : Int32) (x0_17 : Int32) (x0_19 : Int32) (x0_20 : Int32) (x0_27 : Int32) (x0_28 : Int32) (x0_29 : Int32) (x0_30 : Int32) (x0_31 : Int32) (x0_32 : Int32) (x0_35 : Int32) (x0_36 : Int32) (x0_37 : Int32) (x0_44 : Int32) (x0_49 : Int32) (x0_50 : Int32) (a1 : Nat → Int32) (a2 : Nat → Int32) (F : Nat) (b1 : Int32) (b2 : Int32)  (r0 : Int32) (e_x0_9 : Int32) (e_x0_10 : Int32) (e_x0_11 : Int32) (e_x0_12 : Int32) (e_x0_13 : Int32) (e_x0_14 : Int32) (e_x0_15 : Int32) (hf : p_X11_numeral F x0_8 x0_9 x0_10 x0_11 x0_12 x0_13 x0_14 x0_15 a1 a2 b1 b2 = some (r0, e_x0_9, e_x0_10, e_x0_11, e_x0_12, e_x0_13, e_x0_14, e_x0_15)) : Met l yX11_numeral (.code yX11_numeral cX11_numeral 4 (some .int) :: gtbl) ({ frames := 3, cells := 0, slots := 0, locals := 67 } : Room) (PcS G [.ref h0, .int b1, .int b2] (wW_X11_numeral G h0 h1 h2 y0_0 y0_1 y0_2 y0_3 y0_4 y0_21 y0_22 y0_23 y0_24 y0_25 y0_26 y0_33 y0_34 y0_38 y0_39 y0_40 y0_41 y0_42 y0_43 y0_45 y0_46 y0_47 y0_48 x0_5 x0_7 x0_8 x0_9 x0_10 x0_11 x0_12 x0_13 x0_14 x0_15 x0_16 x0_17 x0_19 x0_20 x0_27 x0_28 x0_29 x0_30 x0_31 x0_32 x0_35 x0_36 x0_37 x0_44 x0_49 x0_50 a1 a2) sz) (QiS G r0 (va_A (wW_X11_numeral G h0 h1 h2 y0_0 y0_1 y0_2 y0_3 y0_4 y0_21 y0_22 y0_23 y0_24 y0_25 y0_26 y0_33 y0_34 y0_38 y0_39 y0_40 y0_41 y0_42 y0_43 y0_45 y0_46 y0_47 y0_48 x0_5 x0_7 x0_8 x0_9 x0_10 x0_11 x0_12 x0_13 x0_14 x0_15 x0_16 x0_17 x0_19 x0_20 x0_27 x0_28 x0_29 x0_30 x0_31 x0_32 x0_35 x0_36 x0_37 x0_44 x0_49 x0_50 a1 a2) sz) (wW_X11_numeral G h0 h1 h2 y0_0 y0_1 y0_2 y0_3 y0_4 y0_21 y0_22 y0_23 y0_24 y0_25 y0_26 y0_33 y0_34 y0_38 y0_39 y0_40 y0_41 y0_42 y0_43 y0_45 y0_46 y0_47 y0_48 x0_5 x0_7 x0_8 e_x0_9 e_x0_10 e_x0_11 e_x0_12 e_x0_13 e_x0_14 e_x0_15 x0_16 x0_17 x0_19 x0_20 x0_27 x0_28 x0_29 x0_30 x0_31 x0_32 x0_35 x0_36 x0_37 x0_44 x0_49 x0_50 a1 a2)) 0 0 (va_A (wW_X11_numeral G h0 h1 h2 y0_0 y0_1 y0_2 y0_3 y0_4 y0_21 y0_22 y0_23 y0_24 y0_25 y0_26 y0_33 y0_34 y0_38 y0_39 y0_40 y0_41 y0_42 y0_43 y0_45 y0_46 y0_47 y0_48 x0_5 x0_7 x0_8 x0_9 x0_10 x0_11 x0_12 x0_13 x0_14 x0_15 x0_16 x0_17 x0_19 x0_20 x0_27 x0_28 x0_29 x0_30 x0_31 x0_32 x0_35 x0_36 x0_37 x0_44 x0_49 x0_50 a1 a2) sz) := by
  refine met_start (by decide) (Nat.le_of_ble_eq_true rfl) ?_
  intro p e s m below meth c hC hr hlk hnm hK hP hD hA hS hX ls hl
  obtain ⟨hx, hb, hml, hown, ht0⟩ := hC
  have hown : s.vm.findClass RX11 = some m.cls := hown
  generalize va_A (wW_X11_numeral G h0 h1 h2 y0_0 y0_1 y0_2 y0_3 y0_4 y0_21 y0_22 y0_23 y0_24 y0_25 y0_26 y0_33 y0_34 y0_38 y0_39 y0_40 y0_41 y0_42 y0_43 y0_45 y0_46 y0_47 y0_48 x0_5 x0_7 x0_8 x0_9 x0_10 x0_11 x0_12 x0_13 x0_14 x0_15 x0_16 x0_17 x0_19 x0_20 x0_27 x0_28 x0_29 x0_30 x0_31 x0_32 x0_35 x0_36 x0_37 x0_44 x0_49 x0_50 a1 a2) sz = A at hD hA hS hX ⊢
  have hl : lv_has ls 4 [(0, .ref h0), (1, .int b1), (2, .int b2)] := hl
  have hf : p_X11_numeral F x0_8 x0_9 x0_10 x0_11 x0_12 x0_13 x0_14 x0_15 a1 a2 b1 b2 = some (r0, e_x0_9, e_x0_10, e_x0_11, e_x0_12, e_x0_13, e_x0_14, e_x0_15) := hf
  have kJ33 : ∀ (x0_9_33 : Int32) (x0_10_33 : Int32) (x0_11_33 : Int32) (x0_12_33 : Int32) (x0_13_33 : Int32) (x0_14_33 : Int32) (x0_15_33 : Int32), p_X11_numeral_J33 F x0_8 a1 a2 x0_9_33 x0_10_33 x0_11_33 x0_12_33 x0_13_33 x0_14_33 x0_15_33 = some (r0, e_x0_9, e_x0_10, e_x0_11, e_x0_12, e_x0_13, e_x0_14, e_x0_15) → ∀ (H : Heap) (locs : List Loc), va_P G.1 vwCl (wW_X11_numeral G h0 h1 h2 y0_0 y0_1 y0_2 y0_3 y0_4 y0_21 y0_22 y0_23 y0_24 y0_25 y0_26 y0_33 y0_34 y0_38 y0_39 y0_40 y0_41 y0_42 y0_43 y0_45 y0_46 y0_47 y0_48 x0_5 x0_7 x0_8 x0_9_33 x0_10_33 x0_11_33 x0_12_33 x0_13_33 x0_14_33 x0_15_33 x0_16 x0_17 x0_19 x0_20 x0_27 x0_28 x0_29 x0_30 x0_31 x0_32 x0_35 x0_36 x0_37 x0_44 x0_49 x0_50 a1 a2) H → va_D A (wW_X11_numeral G h0 h1 h2 y0_0 y0_1 y0_2 y0_3 y0_4 y0_21 y0_22 y0_23 y0_24 y0_25 y0_26 y0_33 y0_34 y0_38 y0_39 y0_40 y0_41 y0_42 y0_43 y0_45 y0_46 y0_47 y0_48 x0_5 x0_7 x0_8 x0_9_33 x0_10_33 x0_11_33 x0_12_33 x0_13_33 x0_14_33 x0_15_33 x0_16 x0_17 x0_19 x0_20 x0_27 x0_28 x0_29 x0_30 x0_31 x0_32 x0_35 x0_36 x0_37 x0_44 x0_49 x0_50 a1 a2) → va_S A s.heap H locs → ∀ ls : Array Slot, lv_has ls 4 [(0, .ref h0)] → W p l e ({ frames := 3, cells := 0, slots := 0, locals := 67 } : Room) s m (List.toArray [.ref h0, .int b1, .int b2]) below meth c H locs 0 0 (MQ below (QiS G r0 A (wW_X11_numeral G h0 h1 h2 y0_0 y0_1 y0_2 y0_3 y0_4 y0_21 y0_22 y0_23 y0_24 y0_25 y0_26 y0_33 y0_34 y0_38 y0_39 y0_40 y0_41 y0_42 y0_43 y0_45 y0_46 y0_47 y0_48 x0_5 x0_7 x0_8 e_x0_9 e_x0_10 e_x0_11 e_x0_12 e_x0_13 e_x0_14 e_x0_15 x0_16 x0_17 x0_19 x0_20 x0_27 x0_28 x0_29 x0_30 x0_31 x0_32 x0_35 x0_36 x0_37 x0_44 x0_49 x0_50 a1 a2)) (List.toArray [.ref h0, .int b1, .int b2]) s 0 0 A) (F0 m 33 ls []) := by
    intro x0_9_33 x0_10_33 x0_11_33 x0_12_33 x0_13_33 x0_14_33 x0_15_33 hf H locs hP hD hS ls hl
    refine lv_aload_n hx hb dX11_numeral_33 rfl (lv_at hl 0 rfl) ?_
    refine va_get (ci := 11) (v := .int x0_12_33) (C := RX11) (T := TX11) (N := 51) hx hb ht0 iX11 hown hK hP 0 rfl rfl 12 (by decide) (ht0 _ wd_1418) (fun _ h9 => h9) rfl dX11_numeral_34 ?_
    refine lv_istore_n (lv' := [(3, .int x0_12_33), (0, .ref h0)]) hx hb dX11_numeral_37 rfl hl (by decide) rfl (fun ls hl => ?_)
    refine lv_aload_n hx hb dX11_numeral_38 rfl (lv_at hl 1 rfl) ?_
    refine va_get (ci := 11) (v := .int x0_14_33) (C := RX11) (T := TX11) (N := 51) hx hb ht0 iX11 hown hK hP 0 rfl rfl 14 (by decide) (ht0 _ wd_1420) (fun _ h9 => h9) rfl dX11_numeral_39 ?_
    refine lv_if_ne (tgt := 49) hx hb dX11_numeral_42 (by decide) (fun c1 => ?_) (fun c1 => ?_)
    · have hf := of_neg hf c1
      refine lv_iload_n hx hb dX11_numeral_49 rfl (lv_at hl 0 rfl) ?_
      cases hf
      exact ret_i hx hb hr hlk hK hP hD hS dX11_numeral_50
    · have hf := of_pos hf c1
      refine lv_aload_n hx hb dX11_numeral_45 rfl (lv_at hl 1 rfl) ?_
      obtain ⟨⟨r_46_1_x0_9, r_46_1_x0_10, r_46_1_x0_11, r_46_1_x0_12, r_46_1_x0_13⟩, hc_r_46_1, hf⟩ := of_bnd hf
      refine cl_Vv (w2 := (wW_X11_numeral G h0 h1 h2 y0_0 y0_1 y0_2 y0_3 y0_4 y0_21 y0_22 y0_23 y0_24 y0_25 y0_26 y0_33 y0_34 y0_38 y0_39 y0_40 y0_41 y0_42 y0_43 y0_45 y0_46 y0_47 y0_48 x0_5 x0_7 x0_8 r_46_1_x0_9 r_46_1_x0_10 r_46_1_x0_11 r_46_1_x0_12 r_46_1_x0_13 x0_14_33 x0_15_33 x0_16 x0_17 x0_19 x0_20 x0_27 x0_28 x0_29 x0_30 x0_31 x0_32 x0_35 x0_36 x0_37 x0_44 x0_49 x0_50 a1 a2)) (As := []) (rest := []) ⟨hx, hb, hml, hown, ht0⟩ (c_X11_scan l G h0 h1 h2 y0_0 y0_1 y0_2 y0_3 y0_4 y0_21 y0_22 y0_23 y0_24 y0_25 y0_26 y0_33 y0_34 y0_38 y0_39 y0_40 y0_41 y0_42 y0_43 y0_45 y0_46 y0_47 y0_48 _ x0_5 x0_7 x0_8 x0_9_33 x0_10_33 x0_11_33 x0_12_33 x0_13_33 x0_14_33 x0_15_33 x0_16 x0_17 x0_19 x0_20 x0_27 x0_28 x0_29 x0_30 x0_31 x0_32 x0_35 x0_36 x0_37 x0_44 x0_49 x0_50 a1 a2 F _ _ _ _ _ hc_r_46_1) yk_X11_scan wd_1270 ⟨rfl, rfl, by decide, by decide⟩ ⟨Nat.le_refl _, Nat.le_refl _⟩ hX hK hP hD hS hA [0, 1, 2] [] [0, 1, 2] (va_recv hK hP (ci := 11) (q0 := 0) rfl rfl) rfl rfl (by decide) rfl rfl rfl rfl rfl hl.1 rfl (Nat.le_of_ble_eq_true rfl) dX11_numeral_46 (fun H locs hP hD hS => ?_)
      refine lv_iload_n hx hb dX11_numeral_49 rfl (lv_at hl 0 rfl) ?_
      cases hf
      exact ret_i hx hb hr hlk hK hP hD hS dX11_numeral_50
  refine lv_aload_n hx hb dX11_numeral_0 rfl (lv_at hl 0 rfl) ?_
  refine va_get (ci := 11) (v := .int x0_11) (C := RX11) (T := TX11) (N := 51) hx hb ht0 iX11 hown hK hP 0 rfl rfl 11 (by decide) (ht0 _ wd_1417) (fun _ h9 => h9) rfl dX11_numeral_1 ?_
  refine lv_iconst (v := (3 : Int32)) hx hb dX11_numeral_4 (by decide) ?_
  refine lv_icmp_eq (tgt := 16) hx hb dX11_numeral_5 (by decide) (fun c3 => ?_) (fun c3 => ?_)
  · have hf := of_pos hf c3
    refine lv_aload_n hx hb dX11_numeral_16 rfl (lv_at hl 0 rfl) ?_
    refine va_get (ci := 11) (v := .int x0_12) (C := RX11) (T := TX11) (N := 51) hx hb ht0 iX11 hown hK hP 0 rfl rfl 12 (by decide) (ht0 _ wd_1418) (fun _ h9 => h9) rfl dX11_numeral_17 ?_
    refine lv_iload_n hx hb dX11_numeral_20 rfl (lv_at hl 1 rfl) ?_
    refine lv_iload_n hx hb dX11_numeral_21 rfl (lv_at hl 2 rfl) ?_
    obtain ⟨r_22_3, hc_r_22_3, hf⟩ := of_bnd hf
    refine cl_Si (w2 := (wW_X11_numeral G h0 h1 h2 y0_0 y0_1 y0_2 y0_3 y0_4 y0_21 y0_22 y0_23 y0_24 y0_25 y0_26 y0_33 y0_34 y0_38 y0_39 y0_40 y0_41 y0_42 y0_43 y0_45 y0_46 y0_47 y0_48 x0_5 x0_7 x0_8 x0_9 x0_10 x0_11 x0_12 x0_13 x0_14 x0_15 x0_16 x0_17 x0_19 x0_20 x0_27 x0_28 x0_29 x0_30 x0_31 x0_32 x0_35 x0_36 x0_37 x0_44 x0_49 x0_50 a1 a2)) (As := [.int x0_12, .int b1, .int b2]) (rest := []) ⟨hx, hb, hml, hown, ht0⟩ (c_X11_isIn l G _ F x0_12 b1 b2 _ hc_r_22_3) yk_X11_isIn wd_1321 ⟨rfl, rfl, by decide, by decide⟩ ⟨Nat.le_refl _, Nat.le_refl _⟩ hX hK hP hD hS hA [] [0, 1, 2] [0, 1, 2] rfl rfl (by decide) rfl rfl rfl rfl rfl hl.1 rfl (Nat.le_of_ble_eq_true rfl) dX11_numeral_22 (fun H locs hP hD hS => ?_)
    refine lv_if_ne (tgt := 33) hx hb dX11_numeral_25 (by decide) (fun c5 => ?_) (fun c5 => ?_)
    · have hf := of_neg hf c5
      exact kJ33 _ _ _ _ _ _ _ hf _ _ hP hD hS _ (lv_sub hl [0] rfl)
    · have hf := of_pos hf c5
      refine lv_aload_n hx hb dX11_numeral_28 rfl (lv_at hl 0 rfl) ?_
      refine lv_iconst (v := (2 : Int32)) hx hb dX11_numeral_29 (by decide) ?_
      obtain ⟨⟨r_30_5_x0_14, r_30_5_x0_15⟩, hc_r_30_5, hf⟩ := of_bnd hf
      refine cl_Vv (w2 := (wW_X11_numeral G h0 h1 h2 y0_0 y0_1 y0_2 y0_3 y0_4 y0_21 y0_22 y0_23 y0_24 y0_25 y0_26 y0_33 y0_34 y0_38 y0_39 y0_40 y0_41 y0_42 y0_43 y0_45 y0_46 y0_47 y0_48 x0_5 x0_7 x0_8 x0_9 x0_10 x0_11 x0_12 x0_13 r_30_5_x0_14 r_30_5_x0_15 x0_16 x0_17 x0_19 x0_20 x0_27 x0_28 x0_29 x0_30 x0_31 x0_32 x0_35 x0_36 x0_37 x0_44 x0_49 x0_50 a1 a2)) (As := [.int (2 : Int32)]) (rest := []) ⟨hx, hb, hml, hown, ht0⟩ (c_X11_fail l G h0 y0_0 y0_1 y0_2 y0_3 y0_4 h1 h2 y0_21 y0_22 y0_23 y0_24 y0_25 y0_26 y0_33 y0_34 y0_38 y0_39 y0_40 y0_41 y0_42 y0_43 y0_45 y0_46 y0_47 y0_48 _ x0_5 x0_7 x0_8 x0_9 x0_10 x0_11 x0_12 x0_13 x0_14 x0_15 x0_16 x0_17 x0_19 x0_20 x0_27 x0_28 x0_29 x0_30 x0_31 x0_32 x0_35 x0_36 x0_37 x0_44 x0_49 x0_50 F (2 : Int32) _ _ hc_r_30_5) yk_X11_fail wd_1313 ⟨rfl, rfl, by decide, by decide⟩ ⟨Nat.le_refl _, Nat.le_refl _⟩ hX hK hP hD hS hA [0] [1, 2] [2, 0, 1] (va_recv hK hP (ci := 11) (q0 := 0) rfl rfl) rfl rfl (by decide) rfl rfl rfl rfl rfl hl.1 rfl (Nat.le_of_ble_eq_true rfl) dX11_numeral_30 (fun H locs hP hD hS => ?_)
      exact kJ33 _ _ _ _ _ _ _ hf _ _ hP hD hS _ (lv_sub hl [0] rfl)
  · have hf := of_neg hf c3
    refine lv_aload_n hx hb dX11_numeral_8 rfl (lv_at hl 0 rfl) ?_
    refine lv_iconst (v := (1 : Int32)) hx hb dX11_numeral_9 (by decide) ?_
    obtain ⟨⟨r_10_6_x0_14, r_10_6_x0_15⟩, hc_r_10_6, hf⟩ := of_bnd hf
    refine cl_Vv (w2 := (wW_X11_numeral G h0 h1 h2 y0_0 y0_1 y0_2 y0_3 y0_4 y0_21 y0_22 y0_23 y0_24 y0_25 y0_26 y0_33 y0_34 y0_38 y0_39 y0_40 y0_41 y0_42 y0_43 y0_45 y0_46 y0_47 y0_48 x0_5 x0_7 x0_8 x0_9 x0_10 x0_11 x0_12 x0_13 r_10_6_x0_14 r_10_6_x0_15 x0_16 x0_17 x0_19 x0_20 x0_27 x0_28 x0_29 x0_30 x0_31 x0_32 x0_35 x0_36 x0_37 x0_44 x0_49 x0_50 a1 a2)) (As := [.int (1 : Int32)]) (rest := []) ⟨hx, hb, hml, hown, ht0⟩ (c_X11_fail l G h0 y0_0 y0_1 y0_2 y0_3 y0_4 h1 h2 y0_21 y0_22 y0_23 y0_24 y0_25 y0_26 y0_33 y0_34 y0_38 y0_39 y0_40 y0_41 y0_42 y0_43 y0_45 y0_46 y0_47 y0_48 _ x0_5 x0_7 x0_8 x0_9 x0_10 x0_11 x0_12 x0_13 x0_14 x0_15 x0_16 x0_17 x0_19 x0_20 x0_27 x0_28 x0_29 x0_30 x0_31 x0_32 x0_35 x0_36 x0_37 x0_44 x0_49 x0_50 F (1 : Int32) _ _ hc_r_10_6) yk_X11_fail wd_1313 ⟨rfl, rfl, by decide, by decide⟩ ⟨Nat.le_refl _, Nat.le_refl _⟩ hX hK hP hD hS hA [0] [1, 2] [2, 0, 1] (va_recv hK hP (ci := 11) (q0 := 0) rfl rfl) rfl rfl (by decide) rfl rfl rfl rfl rfl hl.1 rfl (Nat.le_of_ble_eq_true rfl) dX11_numeral_10 (fun H locs hP hD hS => ?_)
    refine lv_goto (tgt := 33) hx hb dX11_numeral_13 (by decide) ?_
    exact kJ33 _ _ _ _ _ _ _ hf _ _ hP hD hS _ (lv_sub hl [0] rfl)
theorem yk_X11_numeral : ykV yX11_numeral RX11 cX11_numeral 4 (some .int) 2 := ⟨wd_1319, wd_51, wd_142, wd_1320, rfl, by decide +kernel, by decide +kernel, by decide +kernel⟩
theorem dX11_isOnce_0 : decode cX11_isOnce 0 = .ok (.aload_n 0, 1) := by decide +kernel
theorem dX11_isOnce_1 : decode cX11_isOnce 1 = .ok (.getfield 104, 3) := by decide +kernel
theorem dX11_isOnce_4 : decode cX11_isOnce 4 = .ok (.iload_n 1, 1) := by decide +kernel
theorem dX11_isOnce_5 : decode cX11_isOnce 5 = .ok (.ishr, 1) := by decide +kernel
theorem dX11_isOnce_6 : decode cX11_isOnce 6 = .ok (.iconst 1, 1) := by decide +kernel
theorem dX11_isOnce_7 : decode cX11_isOnce 7 = .ok (.iand, 1) := by decide +kernel
theorem dX11_isOnce_8 : decode cX11_isOnce 8 = .ok (.iconst 1, 1) := by decide +kernel
theorem dX11_isOnce_9 : decode cX11_isOnce 9 = .ok (.if_icmp .eq 10, 3) := by decide +kernel
theorem dX11_isOnce_12 : decode cX11_isOnce 12 = .ok (.aload_n 0, 1) := by decide +kernel
theorem dX11_isOnce_13 : decode cX11_isOnce 13 = .ok (.getfield 107, 3) := by decide +kernel
theorem dX11_isOnce_16 : decode cX11_isOnce 16 = .ok (.ifCond .eq 8, 3) := by decide +kernel
theorem dX11_isOnce_19 : decode cX11_isOnce 19 = .ok (.aload_n 0, 1) := by decide +kernel
theorem dX11_isOnce_20 : decode cX11_isOnce 20 = .ok (.iconst 3, 1) := by decide +kernel
theorem dX11_isOnce_21 : decode cX11_isOnce 21 = .ok (.invokevirtual 160, 3) := by decide +kernel
theorem dX11_isOnce_24 : decode cX11_isOnce 24 = .ok (.aload_n 0, 1) := by decide +kernel
theorem dX11_isOnce_25 : decode cX11_isOnce 25 = .ok (.dup, 1) := by decide +kernel
theorem dX11_isOnce_26 : decode cX11_isOnce 26 = .ok (.getfield 104, 3) := by decide +kernel
theorem dX11_isOnce_29 : decode cX11_isOnce 29 = .ok (.iconst 1, 1) := by decide +kernel
theorem dX11_isOnce_30 : decode cX11_isOnce 30 = .ok (.iload_n 1, 1) := by decide +kernel
theorem dX11_isOnce_31 : decode cX11_isOnce 31 = .ok (.ishl, 1) := by decide +kernel
theorem dX11_isOnce_32 : decode cX11_isOnce 32 = .ok (.ior, 1) := by decide +kernel
theorem dX11_isOnce_33 : decode cX11_isOnce 33 = .ok (.putfield 104, 3) := by decide +kernel
theorem dX11_isOnce_36 : decode cX11_isOnce 36 = .ok (.aload_n 0, 1) := by decide +kernel
theorem dX11_isOnce_37 : decode cX11_isOnce 37 = .ok (.getfield 111, 3) := by decide +kernel
theorem dX11_isOnce_40 : decode cX11_isOnce 40 = .ok (.ifCond .ne 7, 3) := by decide +kernel
theorem dX11_isOnce_43 : decode cX11_isOnce 43 = .ok (.aload_n 0, 1) := by decide +kernel
theorem dX11_isOnce_44 : decode cX11_isOnce 44 = .ok (.invokevirtual 167, 3) := by decide +kernel
theorem dX11_isOnce_47 : decode cX11_isOnce 47 = .ok (.aload_n 0, 1) := by decide +kernel
theorem dX11_isOnce_48 : decode cX11_isOnce 48 = .ok (.getfield 111, 3) := by decide +kernel
theorem dX11_isOnce_51 : decode cX11_isOnce 51 = .ok (.ifCond .ne 7, 3) := by decide +kernel
theorem dX11_isOnce_54 : decode cX11_isOnce 54 = .ok (.iconst 1, 1) := by decide +kernel
theorem dX11_isOnce_55 : decode cX11_isOnce 55 = .ok (.goto 4, 3) := by decide +kernel
theorem dX11_isOnce_58 : decode cX11_isOnce 58 = .ok (.iconst 0, 1) := by decide +kernel
theorem dX11_isOnce_59 : decode cX11_isOnce 59 = .ok (.ireturn, 1) := by decide +kernel
def wW_X11_isOnce (G : GG) (h0 h1 h2 y0_0 y0_1 y0_2 y0_3 y0_4 y0_21 y0_22 y0_23 y0_24 y0_25 y0_26 y0_33 y0_34 y0_38 y0_39 y0_40 y0_41 y0_42 y0_43 y0_45 y0_46 y0_47 y0_48 : Nat) (x0_5 : Int32) (x0_7 : Int32) (x0_8 : Int32) (x0_9 : Int32) (x0_10 : Int32) (x0_11 : Int32) (x0_12 : Int32) (x0_13 : Int32) (x0_14 : Int32) (x0_15 : Int32) (x0_16 : Int32) (x0_17 : Int32) (x0_19 : Int32) (x0_20 : Int32) (x0_27 : Int32) (x0_28 : Int32) (x0_29 : Int32) (x0_30 : Int32) (x0_31 : Int32) (x0_32 : Int32) (x0_35 : Int32) (x0_36 : Int32) (x0_37 : Int32) (x0_44 : Int32) (x0_49 : Int32) (x0_50 : Int32) (a1 : Nat → Int32) (a2 : Nat → Int32) : va_W := [(h0, .inr (11, [.ref y0_0, .ref y0_1, .ref y0_2, .ref y0_3, .ref y0_4, .int x0_5, .ref h1, .int x0_7, .int x0_8, .int x0_9, .int x0_10, .int x0_11, .int x0_12, .int x0_13, .int x0_14, .int x0_15, .int x0_16, .int x0_17, .ref h2, .int x0_19, .int x0_20, .ref y0_21, .ref y0_22, .ref y0_23, .ref y0_24, .ref y0_25, .ref y0_26, .int x0_27, .int x0_28, .int x0_29, .int x0_30, .int x0_31, .int x0_32, .ref y0_33, .ref y0_34, .int x0_35, .int x0_36, .int x0_37, .ref y0_38, .ref y0_39, .ref y0_40, .ref y0_41, .ref y0_42, .ref y0_43, .int x0_44, .ref y0_45, .ref y0_46, .ref y0_47, .ref y0_48, .int x0_49, .int x0_50])), (h1, .inl (G.2.2.2.1, 600, .inl a1)), (h2, .inl (G.2.2.2.1, 56, .inl a2))]
set_option maxHeartbeats 4000000 in
set_option maxRecDepth 100000 in
theorem c_X11_isOnce (l : Launch) (G : GG) (h0 h1 h2 y0_0 y0_1 y0_2 y0_3 y0_4 y0_21 y0_22 y0_23 y0_24 y0_25 y0_26 y0_33 y0_34 y0_38 y0_39 y0_40 y0_41 y0_42 y0_43 y0_45 y0_46 y0_47 y0_48 : Nat) (sz : Nat) (x0_5 : Int32) (x0_7 : Int32) (x0_8 : Int32) (x0_9 : Int32) (x0_10 : Int32) (x0_11 : Int32) (x0_12 : Int32) (x0_13 : Int32) (x0_14 : Int32) (x0_15 : Int32) (x0_16 : Int32) (x0_17 : Int32) (x0_19 : Int32) (x0_20 : Int32) (x0_27 : Int32) (x0_28 : Int32) (x0_29 : Int32) (x0_30 : Int32) (x0_31 : Int32) (x0_32 : Int32) (x0_35 : Int32) (x0_36 : Int32) (x0_37 : Int32) (x0_44 : Int32) (x0_49 : Int32) (x0_50 : Int32) (a1 : Nat → Int32) (a2 : Nat → Int32) (F : Nat) (b1 : Int32)  (r0 : Int32) (e_x0_9 : Int32) (e_x0_10 : Int32) (e_x0_11 : Int32) (e_x0_12 : Int32) (e_x0_13 : Int32) (e_x0_14 : Int32) (e_x0_15 : Int32) (e_x0_19 : Int32) (hf : p_X11_isOnce F x0_8 x0_9 x0_10 x0_11 x0_12 x0_13 x0_14 x0_15 x0_19 x0_20 a1 a2 b1 = some (r0, e_x0_9, e_x0_10, e_x0_11, e_x0_12, e_x0_13, e_x0_14, e_x0_15, e_x0_19)) : Met l yX11_isOnce (.code yX11_isOnce cX11_isOnce 2 (some .boolean) :: gtbl) ({ frames := 3, cells := 0, slots := 0, locals := 67 } : Room) (PcS G [.ref h0, .int b1] (wW_X11_isOnce G h0 h1 h2 y0_0 y0_1 y0_2 y0_3 y0_4 y0_21 y0_22 y0_23 y0_24 y0_25 y0_26 y0_33 y0_34 y0_38 y0_39 y0_40 y0_41 y0_42 y0_43 y0_45 y0_46 y0_47 y0_48 x0_5 x0_7 x0_8 x0_9 x0_10 x0_11 x0_12 x0_13 x0_14 x0_15 x0_16 x0_17 x0_19 x0_20 x0_27 x0_28 x0_29 x0_30 x0_31 x0_32 x0_35 x0_36 x0_37 x0_44 x0_49 x0_50 a1 a2) sz) (QiS G r0 (va_A (wW_X11_isOnce G h0 h1 h2 y0_0 y0_1 y0_2 y0_3 y0_4 y0_21 y0_22 y0_23 y0_24 y0_25 y0_26 y0_33 y0_34 y0_38 y0_39 y0_40 y0_41 y0_42 y0_43 y0_45 y0_46 y0_47 y0_48 x0_5 x0_7 x0_8 x0_9 x0_10 x0_11 x0_12 x0_13 x0_14 x0_15 x0_16 x0_17 x0_19 x0_20 x0_27 x0_28 x0_29 x0_30 x0_31 x0_32 x0_35 x0_36 x0_37 x0_44 x0_49 x0_50 a1 a2) sz) (wW_X11_isOnce G h0 h1 h2 y0_0 y0_1 y0_2 y0_3 y0_4 y0_21 y0_22 y0_23 y0_24 y0_25 y0_26 y0_33 y0_34 y0_38 y0_39 y0_40 y0_41 y0_42 y0_43 y0_45 y0_46 y0_47 y0_48 x0_5 x0_7 x0_8 e_x0_9 e_x0_10 e_x0_11 e_x0_12 e_x0_13 e_x0_14 e_x0_15 x0_16 x0_17 e_x0_19 x0_20 x0_27 x0_28 x0_29 x0_30 x0_31 x0_32 x0_35 x0_36 x0_37 x0_44 x0_49 x0_50 a1 a2)) 0 0 (va_A (wW_X11_isOnce G h0 h1 h2 y0_0 y0_1 y0_2 y0_3 y0_4 y0_21 y0_22 y0_23 y0_24 y0_25 y0_26 y0_33 y0_34 y0_38 y0_39 y0_40 y0_41 y0_42 y0_43 y0_45 y0_46 y0_47 y0_48 x0_5 x0_7 x0_8 x0_9 x0_10 x0_11 x0_12 x0_13 x0_14 x0_15 x0_16 x0_17 x0_19 x0_20 x0_27 x0_28 x0_29 x0_30 x0_31 x0_32 x0_35 x0_36 x0_37 x0_44 x0_49 x0_50 a1 a2) sz) := by
  refine met_start (by decide) (Nat.le_of_ble_eq_true rfl) ?_
  intro p e s m below meth c hC hr hlk hnm hK hP hD hA hS hX ls hl
  obtain ⟨hx, hb, hml, hown, ht0⟩ := hC
  have hown : s.vm.findClass RX11 = some m.cls := hown
  generalize va_A (wW_X11_isOnce G h0 h1 h2 y0_0 y0_1 y0_2 y0_3 y0_4 y0_21 y0_22 y0_23 y0_24 y0_25 y0_26 y0_33 y0_34 y0_38 y0_39 y0_40 y0_41 y0_42 y0_43 y0_45 y0_46 y0_47 y0_48 x0_5 x0_7 x0_8 x0_9 x0_10 x0_11 x0_12 x0_13 x0_14 x0_15 x0_16 x0_17 x0_19 x0_20 x0_27 x0_28 x0_29 x0_30 x0_31 x0_32 x0_35 x0_36 x0_37 x0_44 x0_49 x0_50 a1 a2) sz = A at hD hA hS hX ⊢
  have hl : lv_has ls 2 [(0, .ref h0), (1, .int b1)] := hl
  have hf : p_X11_isOnce F x0_8 x0_9 x0_10 x0_11 x0_12 x0_13 x0_14 x0_15 x0_19 x0_20 a1 a2 b1 = some (r0, e_x0_9, e_x0_10, e_x0_11, e_x0_12, e_x0_13, e_x0_14, e_x0_15, e_x0_19) := hf
  have kJ47 : ∀ (x0_9_47 : Int32) (x0_10_47 : Int32) (x0_11_47 : Int32) (x0_12_47 : Int32) (x0_13_47 : Int32) (x0_14_47 : Int32) (x0_15_47 : Int32) (x0_19_47 : Int32), p_X11_isOnce_J47 F x0_8 x0_20 a1 a2 x0_9_47 x0_10_47 x0_11_47 x0_12_47 x0_13_47 x0_14_47 x0_15_47 x0_19_47 = some (r0, e_x0_9, e_x0_10, e_x0_11, e_x0_12, e_x0_13, e_x0_14, e_x0_15, e_x0_19) → ∀ (H : Heap) (locs : List Loc), va_P G.1 vwCl (wW_X11_isOnce G h0 h1 h2 y0_0 y0_1 y0_2 y0_3 y0_4 y0_21 y0_22 y0_23 y0_24 y0_25 y0_26 y0_33 y0_34 y0_38 y0_39 y0_40 y0_41 y0_42 y0_43 y0_45 y0_46 y0_47 y0_48 x0_5 x0_7 x0_8 x0_9_47 x0_10_47 x0_11_47 x0_12_47 x0_13_47 x0_14_47 x0_15_47 x0_16 x0_17 x0_19_47 x0_20 x0_27 x0_28 x0_29 x0_30 x0_31 x0_32 x0_35 x0_36 x0_37 x0_44 x0_49 x0_50 a1 a2) H → va_D A (wW_X11_isOnce G h0 h1 h2 y0_0 y0_1 y0_2 y0_3 y0_4 y0_21 y0_22 y0_23 y0_24 y0_25 y0_26 y0_33 y0_34 y0_38 y0_39 y0_40 y0_41 y0_42 y0_43 y0_45 y0_46 y0_47 y0_48 x0_5 x0_7 x0_8 x0_9_47 x0_10_47 x0_11_47 x0_12_47 x0_13_47 x0_14_47 x0_15_47 x0_16 x0_17 x0_19_47 x0_20 x0_27 x0_28 x0_29 x0_30 x0_31 x0_32 x0_35 x0_36 x0_37 x0_44 x0_49 x0_50 a1 a2) → va_S A s.heap H locs → ∀ ls : Array Slot, lv_has ls 2 [(0, .ref h0)] → W p l e ({ frames := 3, cells := 0, slots := 0, locals := 67 } : Room) s m (List.toArray [.ref h0, .int b1]) below meth c H locs 0 0 (MQ below (QiS G r0 A (wW_X11_isOnce G h0 h1 h2 y0_0 y0_1 y0_2 y0_3 y0_4 y0_21 y0_22 y0_23 y0_24 y0_25 y0_26 y0_33 y0_34 y0_38 y0_39 y0_40 y0_41 y0_42 y0_43 y0_45 y0_46 y0_47 y0_48 x0_5 x0_7 x0_8 e_x0_9 e_x0_10 e_x0_11 e_x0_12 e_x0_13 e_x0_14 e_x0_15 x0_16 x0_17 e_x0_19 x0_20 x0_27 x0_28 x0_29 x0_30 x0_31 x0_32 x0_35 x0_36 x0_37 x0_44 x0_49 x0_50 a1 a2)) (List.toArray [.ref h0, .int b1]) s 0 0 A) (F0 m 47 ls []) := by
    intro x0_9_47 x0_10_47 x0_11_47 x0_12_47 x0_13_47 x0_14_47 x0_15_47 x0_19_47 hf H locs hP hD hS ls hl
    refine lv_aload_n hx hb dX11_isOnce_47 rfl (lv_at hl 0 rfl) ?_
    refine va_get (ci := 11) (v := .int x0_14_47) (C := RX11) (T := TX11) (N := 51) hx hb ht0 iX11 hown hK hP 0 rfl rfl 14 (by decide) (ht0 _ wd_1420) (fun _ h9 => h9) rfl dX11_isOnce_48 ?_
    refine lv_if_ne (tgt := 58) hx hb dX11_isOnce_51 (by decide) (fun c1 => ?_) (fun c1 => ?_)
    · have hf := of_neg hf c1
      refine lv_iconst (v := (0 : Int32)) hx hb dX11_isOnce_58 (by decide) ?_
      cases hf
      exact ret_z hx hb hr hlk hK hP hD hS (by decide) dX11_isOnce_59
    · have hf := of_pos hf c1
      refine lv_iconst (v := (1 : Int32)) hx hb dX11_isOnce_54 (by decide) ?_
      refine lv_goto (tgt := 59) hx hb dX11_isOnce_55 (by decide) ?_
      cases hf
      exact ret_z hx hb hr hlk hK hP hD hS (by decide) dX11_isOnce_59
  have kJ24 : ∀ (u24_1 : Int32) (x0_9_24 : Int32) (x0_10_24 : Int32) (x0_11_24 : Int32) (x0_12_24 : Int32) (x0_13_24 : Int32) (x0_14_24 : Int32) (x0_15_24 : Int32) (x0_19_24 : Int32), p_X11_isOnce_J24 F x0_8 x0_20 a1 a2 u24_1 x0_9_24 x0_10_24 x0_11_24 x0_12_24 x0_13_24 x0_14_24 x0_15_24 x0_19_24 = some (r0, e_x0_9, e_x0_10, e_x0_11, e_x0_12, e_x0_13, e_x0_14, e_x0_15, e_x0_19) → ∀ (H : Heap) (locs : List Loc), va_P G.1 vwCl (wW_X11_isOnce G h0 h1 h2 y0_0 y0_1 y0_2 y0_3 y0_4 y0_21 y0_22 y0_23 y0_24 y0_25 y0_26 y0_33 y0_34 y0_38 y0_39 y0_40 y0_41 y0_42 y0_43 y0_45 y0_46 y0_47 y0_48 x0_5 x0_7 x0_8 x0_9_24 x0_10_24 x0_11_24 x0_12_24 x0_13_24 x0_14_24 x0_15_24 x0_16 x0_17 x0_19_24 x0_20 x0_27 x0_28 x0_29 x0_30 x0_31 x0_32 x0_35 x0_36 x0_37 x0_44 x0_49 x0_50 a1 a2) H → va_D A (wW_X11_isOnce G h0 h1 h2 y0_0 y0_1 y0_2 y0_3 y0_4 y0_21 y0_22 y0_23 y0_24 y0_25 y0_26 y0_33 y0_34 y0_38 y0_39 y0_40 y0_41 y0_42 y0_43 y0_45 y0_46 y0_47 y0_48 x0_5 x0_7 x0_8 x0_9_24 x0_10_24 x0_11_24 x0_12_24 x0_13_24 x0_14_24 x0_15_24 x0_16 x0_17 x0_19_24 x0_20 x0_27 x0_28 x0_29 x0_30 x0_31 x0_32 x0_35 x0_36 x0_37 x0_44 x0_49 x0_50 a1 a2) → va_S A s.heap H locs → ∀ ls : Array Slot, lv_has ls 2 [(0, .ref h0), (1, .int u24_1)] → W p l e ({ frames := 3, cells := 0, slots := 0, locals := 67 } : Room) s m (List.toArray [.ref h0, .int b1]) below meth c H locs 0 0 (MQ below (QiS G r0 A (wW_X11_isOnce G h0 h1 h2 y0_0 y0_1 y0_2 y0_3 y0_4 y0_21 y0_22 y0_23 y0_24 y0_25 y0_26 y0_33 y0_34 y0_38 y0_39 y0_40 y0_41 y0_42 y0_43 y0_45 y0_46 y0_47 y0_48 x0_5 x0_7 x0_8 e_x0_9 e_x0_10 e_x0_11 e_x0_12 e_x0_13 e_x0_14 e_x0_15 x0_16 x0_17 e_x0_19 x0_20 x0_27 x0_28 x0_29 x0_30 x0_31 x0_32 x0_35 x0_36 x0_37 x0_44 x0_49 x0_50 a1 a2)) (List.toArray [.ref h0, .int b1]) s 0 0 A) (F0 m 24 ls []) := by
    intro u24_1 x0_9_24 x0_10_24 x0_11_24 x0_12_24 x0_13_24 x0_14_24 x0_15_24 x0_19_24 hf H locs hP hD hS ls hl
    refine lv_aload_n hx hb dX11_isOnce_24 rfl (lv_at hl 0 rfl) ?_
    refine lv_dup hx hb dX11_isOnce_25 rfl ?_
    refine va_get (ci := 11) (v := .int x0_19_24) (C := RX11) (T := TX11) (N := 51) hx hb ht0 iX11 hown hK hP 0 rfl rfl 19 (by decide) (ht0 _ wd_1425) (fun _ h9 => h9) rfl dX11_isOnce_26 ?_
    refine lv_iconst (v := (1 : Int32)) hx hb dX11_isOnce_29 (by decide) ?_
    refine lv_iload_n hx hb dX11_isOnce_30 rfl (lv_at hl 1 rfl) ?_
    refine lv_ishl hx hb dX11_isOnce_31 ?_
    refine lv_ior hx hb dX11_isOnce_32 ?_
    refine va_put (ci := 11) (v := .int (x0_19_24 ||| ((1 : Int32) <<< (u24_1 &&& 31)))) (ty := .int) (C := RX11) (T := TX11) (N := 51) hx hb ht0 iX11 tyX11 tyX11_ok nmX11 hown hK hP hD hS 0 rfl rfl 19 (by decide) (ht0 _ wd_1425) (fun _ h9 => h9) rfl rfl rfl rfl (Nat.le_of_ble_eq_true rfl) dX11_isOnce_33 (fun H locs hP hD hS => ?_)
    have hP : va_P G.1 vwCl (wW_X11_isOnce G h0 h1 h2 y0_0 y0_1 y0_2 y0_3 y0_4 y0_21 y0_22 y0_23 y0_24 y0_25 y0_26 y0_33 y0_34 y0_38 y0_39 y0_40 y0_41 y0_42 y0_43 y0_45 y0_46 y0_47 y0_48 x0_5 x0_7 x0_8 x0_9_24 x0_10_24 x0_11_24 x0_12_24 x0_13_24 x0_14_24 x0_15_24 x0_16 x0_17 (x0_19_24 ||| ((1 : Int32) <<< (u24_1 &&& 31))) x0_20 x0_27 x0_28 x0_29 x0_30 x0_31 x0_32 x0_35 x0_36 x0_37 x0_44 x0_49 x0_50 a1 a2) H := hP
    have hD : va_D A (wW_X11_isOnce G h0 h1 h2 y0_0 y0_1 y0_2 y0_3 y0_4 y0_21 y0_22 y0_23 y0_24 y0_25 y0_26 y0_33 y0_34 y0_38 y0_39 y0_40 y0_41 y0_42 y0_43 y0_45 y0_46 y0_47 y0_48 x0_5 x0_7 x0_8 x0_9_24 x0_10_24 x0_11_24 x0_12_24 x0_13_24 x0_14_24 x0_15_24 x0_16 x0_17 (x0_19_24 ||| ((1 : Int32) <<< (u24_1 &&& 31))) x0_20 x0_27 x0_28 x0_29 x0_30 x0_31 x0_32 x0_35 x0_36 x0_37 x0_44 x0_49 x0_50 a1 a2) := hD
    refine lv_aload_n hx hb dX11_isOnce_36 rfl (lv_at hl 0 rfl) ?_
    refine va_get (ci := 11) (v := .int x0_14_24) (C := RX11) (T := TX11) (N := 51) hx hb ht0 iX11 hown hK hP 0 rfl rfl 14 (by decide) (ht0 _ wd_1420) (fun _ h9 => h9) rfl dX11_isOnce_37 ?_
    refine lv_if_ne (tgt := 47) hx hb dX11_isOnce_40 (by decide) (fun c2 => ?_) (fun c2 => ?_)
    · have hf := of_neg hf c2
      exact kJ47 _ _ _ _ _ _ _ _ hf _ _ hP hD hS _ (lv_sub hl [0] rfl)
    · have hf := of_pos hf c2
      refine lv_aload_n hx hb dX11_isOnce_43 rfl (lv_at hl 0 rfl) ?_
      obtain ⟨⟨r_44_2_x0_9, r_44_2_x0_10, r_44_2_x0_11, r_44_2_x0_12, r_44_2_x0_13⟩, hc_r_44_2, hf⟩ := of_bnd hf
      refine cl_Vv (w2 := (wW_X11_isOnce G h0 h1 h2 y0_0 y0_1 y0_2 y0_3 y0_4 y0_21 y0_22 y0_23 y0_24 y0_25 y0_26 y0_33 y0_34 y0_38 y0_39 y0_40 y0_41 y0_42 y0_43 y0_45 y0_46 y0_47 y0_48 x0_5 x0_7 x0_8 r_44_2_x0_9 r_44_2_x0_10 r_44_2_x0_11 r_44_2_x0_12 r_44_2_x0_13 x0_14_24 x0_15_24 x0_16 x0_17 (x0_19_24 ||| ((1 : Int32) <<< (u24_1 &&& 31))) x0_20 x0_27 x0_28 x0_29 x0_30 x0_31 x0_32 x0_35 x0_36 x0_37 x0_44 x0_49 x0_50 a1 a2)) (As := []) (rest := []) ⟨hx, hb, hml, hown, ht0⟩ (c_X11_scan l G h0 h1 h2 y0_0 y0_1 y0_2 y0_3 y0_4 y0_21 y0_22 y0_23 y0_24 y0_25 y0_26 y0_33 y0_34 y0_38 y0_39 y0_40 y0_41 y0_42 y0_43 y0_45 y0_46 y0_47 y0_48 _ x0_5 x0_7 x0_8 x0_9_24 x0_10_24 x0_11_24 x0_12_24 x0_13_24 x0_14_24 x0_15_24 x0_16 x0_17 (x0_19_24 ||| ((1 : Int32) <<< (u24_1 &&& 31))) x0_20 x0_27 x0_28 x0_29 x0_30 x0_31 x0_32 x0_35 x0_36 x0_37 x0_44 x0_49 x0_50 a1 a2 F _ _ _ _ _ hc_r_44_2) yk_X11_scan wd_1270 ⟨rfl, rfl, by decide, by decide⟩ ⟨Nat.le_refl _, Nat.le_refl _⟩ hX hK hP hD hS hA [0, 1, 2] [] [0, 1, 2] (va_recv hK hP (ci := 11) (q0 := 0) rfl rfl) rfl rfl (by decide) rfl rfl rfl rfl rfl hl.1 rfl (Nat.le_of_ble_eq_true rfl) dX11_isOnce_44 (fun H locs hP hD hS => ?_)
      exact kJ47 _ _ _ _ _ _ _ _ hf _ _ hP hD hS _ (lv_sub hl [0] rfl)
  have kJ19 : ∀ (u19_1 : Int32) (x0_9_19 : Int32) (x0_10_19 : Int32) (x0_11_19 : Int32) (x0_12_19 : Int32) (x0_13_19 : Int32) (x0_14_19 : Int32) (x0_15_19 : Int32) (x0_19_19 : Int32), p_X11_isOnce_J19 F x0_8 x0_20 a1 a2 u19_1 x0_9_19 x0_10_19 x0_11_19 x0_12_19 x0_13_19 x0_14_19 x0_15_19 x0_19_19 = some (r0, e_x0_9, e_x0_10, e_x0_11, e_x0_12, e_x0_13, e_x0_14, e_x0_15, e_x0_19) → ∀ (H : Heap) (locs : List Loc), va_P G.1 vwCl (wW_X11_isOnce G h0 h1 h2 y0_0 y0_1 y0_2 y0_3 y0_4 y0_21 y0_22 y0_23 y0_24 y0_25 y0_26 y0_33 y0_34 y0_38 y0_39 y0_40 y0_41 y0_42 y0_43 y0_45 y0_46 y0_47 y0_48 x0_5 x0_7 x0_8 x0_9_19 x0_10_19 x0_11_19 x0_12_19 x0_13_19 x0_14_19 x0_15_19 x0_16 x0_17 x0_19_19 x0_20 x0_27 x0_28 x0_29 x0_30 x0_31 x0_32 x0_35 x0_36 x0_37 x0_44 x0_49 x0_50 a1 a2) H → va_D A (wW_X11_isOnce G h0 h1 h2 y0_0 y0_1 y0_2 y0_3 y0_4 y0_21 y0_22 y0_23 y0_24 y0_25 y0_26 y0_33 y0_34 y0_38 y0_39 y0_40 y0_41 y0_42 y0_43 y0_45 y0_46 y0_47 y0_48 x0_5 x0_7 x0_8 x0_9_19 x0_10_19 x0_11_19 x0_12_19 x0_13_19 x0_14_19 x0_15_19 x0_16 x0_17 x0_19_19 x0_20 x0_27 x0_28 x0_29 x0_30 x0_31 x0_32 x0_35 x0_36 x0_37 x0_44 x0_49 x0_50 a1 a2) → va_S A s.heap H locs → ∀ ls : Array Slot, lv_has ls 2 [(0, .ref h0), (1, .int u19_1)] → W p l e ({ frames := 3, cells := 0, slots := 0, locals := 67 } : Room) s m (List.toArray [.ref h0, .int b1]) below meth c H locs 0 0 (MQ below (QiS G r0 A (wW_X11_isOnce G h0 h1 h2 y0_0 y0_1 y0_2 y0_3 y0_4 y0_21 y0_22 y0_23 y0_24 y0_25 y0_26 y0_33 y0_34 y0_38 y0_39 y0_40 y0_41 y0_42 y0_43 y0_45 y0_46 y0_47 y0_48 x0_5 x0_7 x0_8 e_x0_9 e_x0_10 e_x0_11 e_x0_12 e_x0_13 e_x0_14 e_x0_15 x0_16 x0_17 e_x0_19 x0_20 x0_27 x0_28 x0_29 x0_30 x0_31 x0_32 x0_35 x0_36 x0_37 x0_44 x0_49 x0_50 a1 a2)) (List.toArray [.ref h0, .int b1]) s 0 0 A) (F0 m 19 ls []) := by
    intro u19_1 x0_9_19 x0_10_19 x0_11_19 x0_12_19 x0_13_19 x0_14_19 x0_15_19 x0_19_19 hf H locs hP hD hS ls hl
    refine lv_aload_n hx hb dX11_isOnce_19 rfl (lv_at hl 0 rfl) ?_
    refine lv_iconst (v := (3 : Int32)) hx hb dX11_isOnce_20 (by decide) ?_
    obtain ⟨⟨r_21_3_x0_14, r_21_3_x0_15⟩, hc_r_21_3, hf⟩ := of_bnd hf
    refine cl_Vv (w2 := (wW_X11_isOnce G h0 h1 h2 y0_0 y0_1 y0_2 y0_3 y0_4 y0_21 y0_22 y0_23 y0_24 y0_25 y0_26 y0_33 y0_34 y0_38 y0_39 y0_40 y0_41 y0_42 y0_43 y0_45 y0_46 y0_47 y0_48 x0_5 x0_7 x0_8 x0_9_19 x0_10_19 x0_11_19 x0_12_19 x0_13_19 r_21_3_x0_14 r_21_3_x0_15 x0_16 x0_17 x0_19_19 x0_20 x0_27 x0_28 x0_29 x0_30 x0_31 x0_32 x0_35 x0_36 x0_37 x0_44 x0_49 x0_50 a1 a2)) (As := [.int (3 : Int32)]) (rest := []) ⟨hx, hb, hml, hown, ht0⟩ (c_X11_fail l G h0 y0_0 y0_1 y0_2 y0_3 y0_4 h1 h2 y0_21 y0_22 y0_23 y0_24 y0_25 y0_26 y0_33 y0_34 y0_38 y0_39 y0_40 y0_41 y0_42 y0_43 y0_45 y0_46 y0_47 y0_48 _ x0_5 x0_7 x0_8 x0_9_19 x0_10_19 x0_11_19 x0_12_19 x0_13_19 x0_14_19 x0_15_19 x0_16 x0_17 x0_19_19 x0_20 x0_27 x0_28 x0_29 x0_30 x0_31 x0_32 x0_35 x0_36 x0_37 x0_44 x0_49 x0_50 F (3 : Int32) _ _ hc_r_21_3) yk_X11_fail wd_1313 ⟨rfl, rfl, by decide, by decide⟩ ⟨Nat.le_refl _, Nat.le_refl _⟩ hX hK hP hD hS hA [0] [1, 2] [2, 0, 1] (va_recv hK hP (ci := 11) (q0 := 0) rfl rfl) rfl rfl (by decide) rfl rfl rfl rfl rfl hl.1 rfl (Nat.le_of_ble_eq_true rfl) dX11_isOnce_21 (fun H locs hP hD hS => ?_)
    exact kJ24 _ _ _ _ _ _ _ _ _ hf _ _ hP hD hS _ (lv_sub hl [0, 1] rfl)
  refine lv_aload_n hx hb dX11_isOnce_0 rfl (lv_at hl 0 rfl) ?_
  refine va_get (ci := 11) (v := .int x0_19) (C := RX11) (T := TX11) (N := 51) hx hb ht0 iX11 hown hK hP 0 rfl rfl 19 (by decide) (ht0 _ wd_1425) (fun _ h9 => h9) rfl dX11_isOnce_1 ?_
  refine lv_iload_n hx hb dX11_isOnce_4 rfl (lv_at hl 1 rfl) ?_
  refine lv_ishr hx hb dX11_isOnce_5 ?_
  refine lv_iconst (v := (1 : Int32)) hx hb dX11_isOnce_6 (by decide) ?_
  refine lv_iand hx hb dX11_isOnce_7 ?_
  refine lv_iconst (v := (1 : Int32)) hx hb dX11_isOnce_8 (by decide) ?_
  refine lv_icmp_eq (tgt := 19) hx hb dX11_isOnce_9 (by decide) (fun c5 => ?_) (fun c5 => ?_)
  · have hf := of_pos hf c5
    exact kJ19 _ _ _ _ _ _ _ _ _ hf _ _ hP hD hS _ (lv_sub hl [0, 1] rfl)
  · have hf := of_neg hf c5
    refine lv_aload_n hx hb dX11_isOnce_12 rfl (lv_at hl 0 rfl) ?_
    refine va_get (ci := 11) (v := .int x0_20) (C := RX11) (T := TX11) (N := 51) hx hb ht0 iX11 hown hK hP 0 rfl rfl 20 (by decide) (ht0 _ wd_1426) (fun _ h9 => h9) rfl dX11_isOnce_13 ?_
    refine lv_if_eq (tgt := 24) hx hb dX11_isOnce_16 (by decide) (fun c6 => ?_) (fun c6 => ?_)
    · have hf := of_pos hf c6
      exact kJ24 _ _ _ _ _ _ _ _ _ hf _ _ hP hD hS _ (lv_sub hl [0, 1] rfl)
    · have hf := of_neg hf c6
      exact kJ19 _ _ _ _ _ _ _ _ _ hf _ _ hP hD hS _ (lv_sub hl [0, 1] rfl)
theorem yk_X11_isOnce : ykV yX11_isOnce RX11 cX11_isOnce 2 (some .boolean) 1 := ⟨wd_1311, wd_49, wd_142, wd_1312, rfl, by decide +kernel, by decide +kernel, by decide +kernel⟩
theorem dX11_readWay_0 : decode cX11_readWay 0 = .ok (.aload_n 0, 1) := by decide +kernel
theorem dX11_readWay_1 : decode cX11_readWay 1 = .ok (.iconst 3, 1) := by decide +kernel
theorem dX11_readWay_2 : decode cX11_readWay 2 = .ok (.invokevirtual 170, 3) := by decide +kernel
theorem dX11_readWay_5 : decode cX11_readWay 5 = .ok (.ifCond .ne 24, 3) := by decide +kernel
theorem dX11_readWay_8 : decode cX11_readWay 8 = .ok (.aload_n 0, 1) := by decide +kernel
theorem dX11_readWay_9 : decode cX11_readWay 9 = .ok (.iconst 4, 1) := by decide +kernel
theorem dX11_readWay_10 : decode cX11_readWay 10 = .ok (.invokevirtual 170, 3) := by decide +kernel
theorem dX11_readWay_13 : decode cX11_readWay 13 = .ok (.ifCond .ne 16, 3) := by decide +kernel
theorem dX11_readWay_16 : decode cX11_readWay 16 = .ok (.aload_n 0, 1) := by decide +kernel
theorem dX11_readWay_17 : decode cX11_readWay 17 = .ok (.iconst 5, 1) := by decide +kernel
theorem dX11_readWay_18 : decode cX11_readWay 18 = .ok (.invokevirtual 170, 3) := by decide +kernel
theorem dX11_readWay_21 : decode cX11_readWay 21 = .ok (.ifCond .ne 8, 3) := by decide +kernel
theorem dX11_readWay_24 : decode cX11_readWay 24 = .ok (.aload_n 0, 1) := by decide +kernel
theorem dX11_readWay_25 : decode cX11_readWay 25 = .ok (.iconst 1, 1) := by decide +kernel
theorem dX11_readWay_26 : decode cX11_readWay 26 = .ok (.invokevirtual 160, 3) := by decide +kernel
theorem dX11_readWay_29 : decode cX11_readWay 29 = .ok (.aload_n 0, 1) := by decide +kernel
theorem dX11_readWay_30 : decode cX11_readWay 30 = .ok (.getfield 111, 3) := by decide +kernel
theorem dX11_readWay_33 : decode cX11_readWay 33 = .ok (.ifCond .le 4, 3) := by decide +kernel
theorem dX11_readWay_36 : decode cX11_readWay 36 = .ok (.return_, 1) := by decide +kernel
theorem dX11_readWay_37 : decode cX11_readWay 37 = .ok (.aload_n 0, 1) := by decide +kernel
theorem dX11_readWay_38 : decode cX11_readWay 38 = .ok (.getfield 19, 3) := by decide +kernel
theorem dX11_readWay_41 : decode cX11_readWay 41 = .ok (.iload_n 1, 1) := by decide +kernel
theorem dX11_readWay_42 : decode cX11_readWay 42 = .ok (.aload_n 0, 1) := by decide +kernel
theorem dX11_readWay_43 : decode cX11_readWay 43 = .ok (.getfield 149, 3) := by decide +kernel
theorem dX11_readWay_46 : decode cX11_readWay 46 = .ok (.iconst 3, 1) := by decide +kernel
theorem dX11_readWay_47 : decode cX11_readWay 47 = .ok (.isub, 1) := by decide +kernel
theorem dX11_readWay_48 : decode cX11_readWay 48 = .ok (.iastore, 1) := by decide +kernel
theorem dX11_readWay_49 : decode cX11_readWay 49 = .ok (.aload_n 0, 1) := by decide +kernel
theorem dX11_readWay_50 : decode cX11_readWay 50 = .ok (.invokevirtual 167, 3) := by decide +kernel
theorem dX11_readWay_53 : decode cX11_readWay 53 = .ok (.return_, 1) := by decide +kernel
def wW_X11_readWay (G : GG) (h0 h1 h2 h3 y0_0 y0_1 y0_2 y0_4 y0_21 y0_22 y0_23 y0_24 y0_25 y0_26 y0_33 y0_34 y0_38 y0_39 y0_40 y0_41 y0_42 y0_43 y0_45 y0_46 y0_47 y0_48 : Nat) (x0_5 : Int32) (x0_7 : Int32) (x0_8 : Int32) (x0_9 : Int32) (x0_10 : Int32) (x0_11 : Int32) (x0_12 : Int32) (x0_13 : Int32) (x0_14 : Int32) (x0_15 : Int32) (x0_16 : Int32) (x0_17 : Int32) (x0_19 : Int32) (x0_20 : Int32) (x0_27 : Int32) (x0_28 : Int32) (x0_29 : Int32) (x0_30 : Int32) (x0_31 : Int32) (x0_32 : Int32) (x0_35 : Int32) (x0_36 : Int32) (x0_37 : Int32) (x0_44 : Int32) (x0_49 : Int32) (x0_50 : Int32) (a1 : Nat → Int32) (a2 : Nat → Int32) (a3 : Nat → Int32) : va_W := [(h0, .inr (11, [.ref y0_0, .ref y0_1, .ref y0_2, .ref h1, .ref y0_4, .int x0_5, .ref h2, .int x0_7, .int x0_8, .int x0_9, .int x0_10, .int x0_11, .int x0_12, .int x0_13, .int x0_14, .int x0_15, .int x0_16, .int x0_17, .ref h3, .int x0_19, .int x0_20, .ref y0_21, .ref y0_22, .ref y0_23, .ref y0_24, .ref y0_25, .ref y0_26, .int x0_27, .int x0_28, .int x0_29, .int x0_30, .int x0_31, .int x0_32, .ref y0_33, .ref y0_34, .int x0_35, .int x0_36, .int x0_37, .ref y0_38, .ref y0_39, .ref y0_40, .ref y0_41, .ref y0_42, .ref y0_43, .int x0_44, .ref y0_45, .ref y0_46, .ref y0_47, .ref y0_48, .int x0_49, .int x0_50])), (h1, .inl (G.2.1, 2, .inl a1)), (h2, .inl (G.2.2.2.1, 600, .inl a2)), (h3, .inl (G.2.2.2.1, 56, .inl a3))]
set_option maxHeartbeats 4000000 in
set_option maxRecDepth 100000 in
theorem c_X11_readWay (l : Launch) (G : GG) (h0 h1 h2 h3 y0_0 y0_1 y0_2 y0_4 y0_21 y0_22 y0_23 y0_24 y0_25 y0_26 y0_33 y0_34 y0_38 y0_39 y0_40 y0_41 y0_42 y0_43 y0_45 y0_46 y0_47 y0_48 : Nat) (sz : Nat) (x0_5 : Int32) (x0_7 : Int32) (x0_8 : Int32) (x0_9 : Int32) (x0_10 : Int32) (x0_11 : Int32) (x0_12 : Int32) (x0_13 : Int32) (x0_14 : Int32) (x0_15 : Int32) (x0_16 : Int32) (x0_17 : Int32) (x0_19 : Int32) (x0_20 : Int32) (x0_27 : Int32) (x0_28 : Int32) (x0_29 : Int32) (x0_30 : Int32) (x0_31 : Int32) (x0_32 : Int32) (x0_35 : Int32) (x0_36 : Int32) (x0_37 : Int32) (x0_44 : Int32) (x0_49 : Int32) (x0_50 : Int32) (a1 : Nat → Int32) (a2 : Nat → Int32) (a3 : Nat → Int32) (F : Nat) (b1 : Int32)  (e_x0_9 : Int32) (e_x0_10 : Int32) (e_x0_11 : Int32) (e_x0_12 : Int32) (e_x0_13 : Int32) (e_x0_14 : Int32) (e_x0_15 : Int32) (e_a1 : Nat → Int32) (hf : p_X11_readWay F x0_8 x0_9 x0_10 x0_11 x0_12 x0_13 x0_14 x0_15 a1 a2 a3 b1 = some (e_x0_9, e_x0_10, e_x0_11, e_x0_12, e_x0_13, e_x0_14, e_x0_15, e_a1)) : Met l yX11_readWay (.code yX11_readWay cX11_readWay 2 none :: gtbl) ({ frames := 3, cells := 0, slots := 0, locals := 67 } : Room) (PcS G [.ref h0, .int b1] (wW_X11_readWay G h0 h1 h2 h3 y0_0 y0_1 y0_2 y0_4 y0_21 y0_22 y0_23 y0_24 y0_25 y0_26 y0_33 y0_34 y0_38 y0_39 y0_40 y0_41 y0_42 y0_43 y0_45 y0_46 y0_47 y0_48 x0_5 x0_7 x0_8 x0_9 x0_10 x0_11 x0_12 x0_13 x0_14 x0_15 x0_16 x0_17 x0_19 x0_20 x0_27 x0_28 x0_29 x0_30 x0_31 x0_32 x0_35 x0_36 x0_37 x0_44 x0_49 x0_50 a1 a2 a3) sz) (QvS G (va_A (wW_X11_readWay G h0 h1 h2 h3 y0_0 y0_1 y0_2 y0_4 y0_21 y0_22 y0_23 y0_24 y0_25 y0_26 y0_33 y0_34 y0_38 y0_39 y0_40 y0_41 y0_42 y0_43 y0_45 y0_46 y0_47 y0_48 x0_5 x0_7 x0_8 x0_9 x0_10 x0_11 x0_12 x0_13 x0_14 x0_15 x0_16 x0_17 x0_19 x0_20 x0_27 x0_28 x0_29 x0_30 x0_31 x0_32 x0_35 x0_36 x0_37 x0_44 x0_49 x0_50 a1 a2 a3) sz) (wW_X11_readWay G h0 h1 h2 h3 y0_0 y0_1 y0_2 y0_4 y0_21 y0_22 y0_23 y0_24 y0_25 y0_26 y0_33 y0_34 y0_38 y0_39 y0_40 y0_41 y0_42 y0_43 y0_45 y0_46 y0_47 y0_48 x0_5 x0_7 x0_8 e_x0_9 e_x0_10 e_x0_11 e_x0_12 e_x0_13 e_x0_14 e_x0_15 x0_16 x0_17 x0_19 x0_20 x0_27 x0_28 x0_29 x0_30 x0_31 x0_32 x0_35 x0_36 x0_37 x0_44 x0_49 x0_50 e_a1 a2 a3)) 0 0 (va_A (wW_X11_readWay G h0 h1 h2 h3 y0_0 y0_1 y0_2 y0_4 y0_21 y0_22 y0_23 y0_24 y0_25 y0_26 y0_33 y0_34 y0_38 y0_39 y0_40 y0_41 y0_42 y0_43 y0_45 y0_46 y0_47 y0_48 x0_5 x0_7 x0_8 x0_9 x0_10 x0_11 x0_12 x0_13 x0_14 x0_15 x0_16 x0_17 x0_19 x0_20 x0_27 x0_28 x0_29 x0_30 x0_31 x0_32 x0_35 x0_36 x0_37 x0_44 x0_49 x0_50 a1 a2 a3) sz) := by
  refine met_start (by decide) (Nat.le_of_ble_eq_true rfl) ?_
  intro p e s m below meth c hC hr hlk hnm hK hP hD hA hS hX ls hl
  obtain ⟨hx, hb, hml, hown, ht0⟩ := hC
  have hown : s.vm.findClass RX11 = some m.cls := hown
  generalize va_A (wW_X11_readWay G h0 h1 h2 h3 y0_0 y0_1 y0_2 y0_4 y0_21 y0_22 y0_23 y0_24 y0_25 y0_26 y0_33 y0_34 y0_38 y0_39 y0_40 y0_41 y0_42 y0_43 y0_45 y0_46 y0_47 y0_48 x0_5 x0_7 x0_8 x0_9 x0_10 x0_11 x0_12 x0_13 x0_14 x0_15 x0_16 x0_17 x0_19 x0_20 x0_27 x0_28 x0_29 x0_30 x0_31 x0_32 x0_35 x0_36 x0_37 x0_44 x0_49 x0_50 a1 a2 a3) sz = A at hD hA hS hX ⊢
  have hl : lv_has ls 2 [(0, .ref h0), (1, .int b1)] := hl
  have hf : p_X11_readWay F x0_8 x0_9 x0_10 x0_11 x0_12 x0_13 x0_14 x0_15 a1 a2 a3 b1 = some (e_x0_9, e_x0_10, e_x0_11, e_x0_12, e_x0_13, e_x0_14, e_x0_15, e_a1) := hf
  have kJ29 : ∀ (u29_1 : Int32) (x0_9_29 : Int32) (x0_10_29 : Int32) (x0_11_29 : Int32) (x0_12_29 : Int32) (x0_13_29 : Int32) (x0_14_29 : Int32) (x0_15_29 : Int32) (a1_29 : Nat → Int32), p_X11_readWay_J29 F x0_8 a2 a3 u29_1 x0_9_29 x0_10_29 x0_11_29 x0_12_29 x0_13_29 x0_14_29 x0_15_29 a1_29 = some (e_x0_9, e_x0_10, e_x0_11, e_x0_12, e_x0_13, e_x0_14, e_x0_15, e_a1) → ∀ (H : Heap) (locs : List Loc), va_P G.1 vwCl (wW_X11_readWay G h0 h1 h2 h3 y0_0 y0_1 y0_2 y0_4 y0_21 y0_22 y0_23 y0_24 y0_25 y0_26 y0_33 y0_34 y0_38 y0_39 y0_40 y0_41 y0_42 y0_43 y0_45 y0_46 y0_47 y0_48 x0_5 x0_7 x0_8 x0_9_29 x0_10_29 x0_11_29 x0_12_29 x0_13_29 x0_14_29 x0_15_29 x0_16 x0_17 x0_19 x0_20 x0_27 x0_28 x0_29 x0_30 x0_31 x0_32 x0_35 x0_36 x0_37 x0_44 x0_49 x0_50 a1_29 a2 a3) H → va_D A (wW_X11_readWay G h0 h1 h2 h3 y0_0 y0_1 y0_2 y0_4 y0_21 y0_22 y0_23 y0_24 y0_25 y0_26 y0_33 y0_34 y0_38 y0_39 y0_40 y0_41 y0_42 y0_43 y0_45 y0_46 y0_47 y0_48 x0_5 x0_7 x0_8 x0_9_29 x0_10_29 x0_11_29 x0_12_29 x0_13_29 x0_14_29 x0_15_29 x0_16 x0_17 x0_19 x0_20 x0_27 x0_28 x0_29 x0_30 x0_31 x0_32 x0_35 x0_36 x0_37 x0_44 x0_49 x0_50 a1_29 a2 a3) → va_S A s.heap H locs → ∀ ls : Array Slot, lv_has ls 2 [(0, .ref h0), (1, .int u29_1)] → W p l e ({ frames := 3, cells := 0, slots := 0, locals := 67 } : Room) s m (List.toArray [.ref h0, .int b1]) below meth c H locs 0 0 (MQ below (QvS G A (wW_X11_readWay G h0 h1 h2 h3 y0_0 y0_1 y0_2 y0_4 y0_21 y0_22 y0_23 y0_24 y0_25 y0_26 y0_33 y0_34 y0_38 y0_39 y0_40 y0_41 y0_42 y0_43 y0_45 y0_46 y0_47 y0_48 x0_5 x0_7 x0_8 e_x0_9 e_x0_10 e_x0_11 e_x0_12 e_x0_13 e_x0_14 e_x0_15 x0_16 x0_17 x0_19 x0_20 x0_27 x0_28 x0_29 x0_30 x0_31 x0_32 x0_35 x0_36 x0_37 x0_44 x0_49 x0_50 e_a1 a2 a3)) (List.toArray [.ref h0, .int b1]) s 0 0 A) (F0 m 29 ls []) := by
    intro u29_1 x0_9_29 x0_10_29 x0_11_29 x0_12_29 x0_13_29 x0_14_29 x0_15_29 a1_29 hf H locs hP hD hS ls hl
    refine lv_aload_n hx hb dX11_readWay_29 rfl (lv_at hl 0 rfl) ?_
    refine va_get (ci := 11) (v := .int x0_14_29) (C := RX11) (T := TX11) (N := 51) hx hb ht0 iX11 hown hK hP 0 rfl rfl 14 (by decide) (ht0 _ wd_1420) (fun _ h9 => h9) rfl dX11_readWay_30 ?_
    refine lv_if_le (tgt := 37) hx hb dX11_readWay_33 (by decide) (fun c1 => ?_) (fun c1 => ?_)
    · have hf := of_pos hf c1
      refine lv_aload_n hx hb dX11_readWay_37 rfl (lv_at hl 0 rfl) ?_
      refine va_get (ci := 11) (v := .ref h1) (C := RX11) (T := TX11) (N := 51) hx hb ht0 iX11 hown hK hP 0 rfl rfl 3 (by decide) (ht0 _ wd_1409) (fun _ h9 => h9) rfl dX11_readWay_38 ?_
      refine lv_iload_n hx hb dX11_readWay_41 rfl (lv_at hl 1 rfl) ?_
      refine lv_aload_n hx hb dX11_readWay_42 rfl (lv_at hl 0 rfl) ?_
      refine va_get (ci := 11) (v := .int x0_13_29) (C := RX11) (T := TX11) (N := 51) hx hb ht0 iX11 hown hK hP 0 rfl rfl 13 (by decide) (ht0 _ wd_1419) (fun _ h9 => h9) rfl dX11_readWay_43 ?_
      refine lv_iconst (v := (3 : Int32)) hx hb dX11_readWay_46 (by decide) ?_
      refine lv_isub hx hb dX11_readWay_47 ?_
      obtain ⟨g2, hf⟩ := of_grd hf
      refine va_iast hx hb hK hP hD hS 1 0 rfl rfl g2 dX11_readWay_48 (fun H locs hP hD hS => ?_)
      have hP : va_P G.1 vwCl (wW_X11_readWay G h0 h1 h2 h3 y0_0 y0_1 y0_2 y0_4 y0_21 y0_22 y0_23 y0_24 y0_25 y0_26 y0_33 y0_34 y0_38 y0_39 y0_40 y0_41 y0_42 y0_43 y0_45 y0_46 y0_47 y0_48 x0_5 x0_7 x0_8 x0_9_29 x0_10_29 x0_11_29 x0_12_29 x0_13_29 x0_14_29 x0_15_29 x0_16 x0_17 x0_19 x0_20 x0_27 x0_28 x0_29 x0_30 x0_31 x0_32 x0_35 x0_36 x0_37 x0_44 x0_49 x0_50 (upd a1_29 u29_1.toNatClampNeg (x0_13_29 - (3 : Int32))) a2 a3) H := hP
      have hD : va_D A (wW_X11_readWay G h0 h1 h2 h3 y0_0 y0_1 y0_2 y0_4 y0_21 y0_22 y0_23 y0_24 y0_25 y0_26 y0_33 y0_34 y0_38 y0_39 y0_40 y0_41 y0_42 y0_43 y0_45 y0_46 y0_47 y0_48 x0_5 x0_7 x0_8 x0_9_29 x0_10_29 x0_11_29 x0_12_29 x0_13_29 x0_14_29 x0_15_29 x0_16 x0_17 x0_19 x0_20 x0_27 x0_28 x0_29 x0_30 x0_31 x0_32 x0_35 x0_36 x0_37 x0_44 x0_49 x0_50 (upd a1_29 u29_1.toNatClampNeg (x0_13_29 - (3 : Int32))) a2 a3) := hD
      refine lv_aload_n hx hb dX11_readWay_49 rfl (lv_at hl 0 rfl) ?_
      obtain ⟨⟨r_50_2_x0_9, r_50_2_x0_10, r_50_2_x0_11, r_50_2_x0_12, r_50_2_x0_13⟩, hc_r_50_2, hf⟩ := of_bnd hf
      refine cl_Vv (w2 := (wW_X11_readWay G h0 h1 h2 h3 y0_0 y0_1 y0_2 y0_4 y0_21 y0_22 y0_23 y0_24 y0_25 y0_26 y0_33 y0_34 y0_38 y0_39 y0_40 y0_41 y0_42 y0_43 y0_45 y0_46 y0_47 y0_48 x0_5 x0_7 x0_8 r_50_2_x0_9 r_50_2_x0_10 r_50_2_x0_11 r_50_2_x0_12 r_50_2_x0_13 x0_14_29 x0_15_29 x0_16 x0_17 x0_19 x0_20 x0_27 x0_28 x0_29 x0_30 x0_31 x0_32 x0_35 x0_36 x0_37 x0_44 x0_49 x0_50 (upd a1_29 u29_1.toNatClampNeg (x0_13_29 - (3 : Int32))) a2 a3)) (As := []) (rest := []) ⟨hx, hb, hml, hown, ht0⟩ (c_X11_scan l G h0 h2 h3 y0_0 y0_1 y0_2 h1 y0_4 y0_21 y0_22 y0_23 y0_24 y0_25 y0_26 y0_33 y0_34 y0_38 y0_39 y0_40 y0_41 y0_42 y0_43 y0_45 y0_46 y0_47 y0_48 _ x0_5 x0_7 x0_8 x0_9_29 x0_10_29 x0_11_29 x0_12_29 x0_13_29 x0_14_29 x0_15_29 x0_16 x0_17 x0_19 x0_20 x0_27 x0_28 x0_29 x0_30 x0_31 x0_32 x0_35 x0_36 x0_37 x0_44 x0_49 x0_50 a2 a3 F _ _ _ _ _ hc_r_50_2) yk_X11_scan wd_1270 ⟨rfl, rfl, by decide, by decide⟩ ⟨Nat.le_refl _, Nat.le_refl _⟩ hX hK hP hD hS hA [0, 2, 3] [1] [1, 0, 2, 3] (va_recv hK hP (ci := 11) (q0 := 0) rfl rfl) rfl rfl (by decide) rfl rfl rfl rfl rfl hl.1 rfl (Nat.le_of_ble_eq_true rfl) dX11_readWay_50 (fun H locs hP hD hS => ?_)
      cases hf
      exact ret_v hx hb hr hlk hK hP hD hS dX11_readWay_53
    · have hf := of_neg hf c1
      cases hf
      exact ret_v hx hb hr hlk hK hP hD hS dX11_readWay_36
  refine lv_aload_n hx hb dX11_readWay_0 rfl (lv_at hl 0 rfl) ?_
  refine lv_iconst (v := (3 : Int32)) hx hb dX11_readWay_1 (by decide) ?_
  obtain ⟨r_2_3, hc_r_2_3, hf⟩ := of_bnd hf
  refine cl_Vi (w2 := (wW_X11_readWay G h0 h1 h2 h3 y0_0 y0_1 y0_2 y0_4 y0_21 y0_22 y0_23 y0_24 y0_25 y0_26 y0_33 y0_34 y0_38 y0_39 y0_40 y0_41 y0_42 y0_43 y0_45 y0_46 y0_47 y0_48 x0_5 x0_7 x0_8 x0_9 x0_10 x0_11 x0_12 x0_13 x0_14 x0_15 x0_16 x0_17 x0_19 x0_20 x0_27 x0_28 x0_29 x0_30 x0_31 x0_32 x0_35 x0_36 x0_37 x0_44 x0_49 x0_50 a1 a2 a3)) (As := [.int (3 : Int32)]) (rest := []) ⟨hx, hb, hml, hown, ht0⟩ (c_X11_isWord l G h0 y0_0 y0_1 y0_2 h1 y0_4 h2 h3 y0_21 y0_22 y0_23 y0_24 y0_25 y0_26 y0_33 y0_34 y0_38 y0_39 y0_40 y0_41 y0_42 y0_43 y0_45 y0_46 y0_47 y0_48 _ x0_5 x0_7 x0_8 x0_9 x0_10 x0_11 x0_12 x0_13 x0_14 x0_15 x0_16 x0_17 x0_19 x0_20 x0_27 x0_28 x0_29 x0_30 x0_31 x0_32 x0_35 x0_36 x0_37 x0_44 x0_49 x0_50 F (3 : Int32) _ hc_r_2_3) yk_X11_isWord wd_1305 ⟨rfl, rfl, by decide, by decide⟩ ⟨Nat.le_refl _, Nat.le_refl _⟩ hX hK hP hD hS hA [0] [1, 2, 3] [3, 0, 1, 2] (va_recv hK hP (ci := 11) (q0 := 0) rfl rfl) rfl rfl (by decide) rfl rfl rfl rfl rfl hl.1 rfl (Nat.le_of_ble_eq_true rfl) dX11_readWay_2 (fun H locs hP hD hS => ?_)
  refine lv_if_ne (tgt := 29) hx hb dX11_readWay_5 (by decide) (fun c5 => ?_) (fun c5 => ?_)
  · have hf := of_neg hf c5
    exact kJ29 _ _ _ _ _ _ _ _ _ hf _ _ hP hD hS _ (lv_sub hl [0, 1] rfl)
  · have hf := of_pos hf c5
    refine lv_aload_n hx hb dX11_readWay_8 rfl (lv_at hl 0 rfl) ?_
    refine lv_iconst (v := (4 : Int32)) hx hb dX11_readWay_9 (by decide) ?_
    obtain ⟨r_10_5, hc_r_10_5, hf⟩ := of_bnd hf
    refine cl_Vi (w2 := (wW_X11_readWay G h0 h1 h2 h3 y0_0 y0_1 y0_2 y0_4 y0_21 y0_22 y0_23 y0_24 y0_25 y0_26 y0_33 y0_34 y0_38 y0_39 y0_40 y0_41 y0_42 y0_43 y0_45 y0_46 y0_47 y0_48 x0_5 x0_7 x0_8 x0_9 x0_10 x0_11 x0_12 x0_13 x0_14 x0_15 x0_16 x0_17 x0_19 x0_20 x0_27 x0_28 x0_29 x0_30 x0_31 x0_32 x0_35 x0_36 x0_37 x0_44 x0_49 x0_50 a1 a2 a3)) (As := [.int (4 : Int32)]) (rest := []) ⟨hx, hb, hml, hown, ht0⟩ (c_X11_isWord l G h0 y0_0 y0_1 y0_2 h1 y0_4 h2 h3 y0_21 y0_22 y0_23 y0_24 y0_25 y0_26 y0_33 y0_34 y0_38 y0_39 y0_40 y0_41 y0_42 y0_43 y0_45 y0_46 y0_47 y0_48 _ x0_5 x0_7 x0_8 x0_9 x0_10 x0_11 x0_12 x0_13 x0_14 x0_15 x0_16 x0_17 x0_19 x0_20 x0_27 x0_28 x0_29 x0_30 x0_31 x0_32 x0_35 x0_36 x0_37 x0_44 x0_49 x0_50 F (4 : Int32) _ hc_r_10_5) yk_X11_isWord wd_1305 ⟨rfl, rfl, by decide, by decide⟩ ⟨Nat.le_refl _, Nat.le_refl _⟩ hX hK hP hD hS hA [0] [1, 2, 3] [3, 0, 1, 2] (va_recv hK hP (ci := 11) (q0 := 0) rfl rfl) rfl rfl (by decide) rfl rfl rfl rfl rfl hl.1 rfl (Nat.le_of_ble_eq_true rfl) dX11_readWay_10 (fun H locs hP hD hS => ?_)
    refine lv_if_ne (tgt := 29) hx hb dX11_readWay_13 (by decide) (fun c7 => ?_) (fun c7 => ?_)
    · have hf := of_neg hf c7
      exact kJ29 _ _ _ _ _ _ _ _ _ hf _ _ hP hD hS _ (lv_sub hl [0, 1] rfl)
    · have hf := of_pos hf c7
      refine lv_aload_n hx hb dX11_readWay_16 rfl (lv_at hl 0 rfl) ?_
      refine lv_iconst (v := (5 : Int32)) hx hb dX11_readWay_17 (by decide) ?_
      obtain ⟨r_18_7, hc_r_18_7, hf⟩ := of_bnd hf
      refine cl_Vi (w2 := (wW_X11_readWay G h0 h1 h2 h3 y0_0 y0_1 y0_2 y0_4 y0_21 y0_22 y0_23 y0_24 y0_25 y0_26 y0_33 y0_34 y0_38 y0_39 y0_40 y0_41 y0_42 y0_43 y0_45 y0_46 y0_47 y0_48 x0_5 x0_7 x0_8 x0_9 x0_10 x0_11 x0_12 x0_13 x0_14 x0_15 x0_16 x0_17 x0_19 x0_20 x0_27 x0_28 x0_29 x0_30 x0_31 x0_32 x0_35 x0_36 x0_37 x0_44 x0_49 x0_50 a1 a2 a3)) (As := [.int (5 : Int32)]) (rest := []) ⟨hx, hb, hml, hown, ht0⟩ (c_X11_isWord l G h0 y0_0 y0_1 y0_2 h1 y0_4 h2 h3 y0_21 y0_22 y0_23 y0_24 y0_25 y0_26 y0_33 y0_34 y0_38 y0_39 y0_40 y0_41 y0_42 y0_43 y0_45 y0_46 y0_47 y0_48 _ x0_5 x0_7 x0_8 x0_9 x0_10 x0_11 x0_12 x0_13 x0_14 x0_15 x0_16 x0_17 x0_19 x0_20 x0_27 x0_28 x0_29 x0_30 x0_31 x0_32 x0_35 x0_36 x0_37 x0_44 x0_49 x0_50 F (5 : Int32) _ hc_r_18_7) yk_X11_isWord wd_1305 ⟨rfl, rfl, by decide, by decide⟩ ⟨Nat.le_refl _, Nat.le_refl _⟩ hX hK hP hD hS hA [0] [1, 2, 3] [3, 0, 1, 2] (va_recv hK hP (ci := 11) (q0 := 0) rfl rfl) rfl rfl (by decide) rfl rfl rfl rfl rfl hl.1 rfl (Nat.le_of_ble_eq_true rfl) dX11_readWay_18 (fun H locs hP hD hS => ?_)
      refine lv_if_ne (tgt := 29) hx hb dX11_readWay_21 (by decide) (fun c9 => ?_) (fun c9 => ?_)
      · have hf := of_neg hf c9
        exact kJ29 _ _ _ _ _ _ _ _ _ hf _ _ hP hD hS _ (lv_sub hl [0, 1] rfl)
      · have hf := of_pos hf c9
        refine lv_aload_n hx hb dX11_readWay_24 rfl (lv_at hl 0 rfl) ?_
        refine lv_iconst (v := (1 : Int32)) hx hb dX11_readWay_25 (by decide) ?_
        obtain ⟨⟨r_26_9_x0_14, r_26_9_x0_15⟩, hc_r_26_9, hf⟩ := of_bnd hf
        refine cl_Vv (w2 := (wW_X11_readWay G h0 h1 h2 h3 y0_0 y0_1 y0_2 y0_4 y0_21 y0_22 y0_23 y0_24 y0_25 y0_26 y0_33 y0_34 y0_38 y0_39 y0_40 y0_41 y0_42 y0_43 y0_45 y0_46 y0_47 y0_48 x0_5 x0_7 x0_8 x0_9 x0_10 x0_11 x0_12 x0_13 r_26_9_x0_14 r_26_9_x0_15 x0_16 x0_17 x0_19 x0_20 x0_27 x0_28 x0_29 x0_30 x0_31 x0_32 x0_35 x0_36 x0_37 x0_44 x0_49 x0_50 a1 a2 a3)) (As := [.int (1 : Int32)]) (rest := []) ⟨hx, hb, hml, hown, ht0⟩ (c_X11_fail l G h0 y0_0 y0_1 y0_2 h1 y0_4 h2 h3 y0_21 y0_22 y0_23 y0_24 y0_25 y0_26 y0_33 y0_34 y0_38 y0_39 y0_40 y0_41 y0_42 y0_43 y0_45 y0_46 y0_47 y0_48 _ x0_5 x0_7 x0_8 x0_9 x0_10 x0_11 x0_12 x0_13 x0_14 x0_15 x0_16 x0_17 x0_19 x0_20 x0_27 x0_28 x0_29 x0_30 x0_31 x0_32 x0_35 x0_36 x0_37 x0_44 x0_49 x0_50 F (1 : Int32) _ _ hc_r_26_9) yk_X11_fail wd_1313 ⟨rfl, rfl, by decide, by decide⟩ ⟨Nat.le_refl _, Nat.le_refl _⟩ hX hK hP hD hS hA [0] [1, 2, 3] [3, 0, 1, 2] (va_recv hK hP (ci := 11) (q0 := 0) rfl rfl) rfl rfl (by decide) rfl rfl rfl rfl rfl hl.1 rfl (Nat.le_of_ble_eq_true rfl) dX11_readWay_26 (fun H locs hP hD hS => ?_)
        exact kJ29 _ _ _ _ _ _ _ _ _ hf _ _ hP hD hS _ (lv_sub hl [0, 1] rfl)
theorem yk_X11_readWay : ykV yX11_readWay RX11 cX11_readWay 2 none 1 := ⟨wd_1326, wd_52, wd_142, wd_1327, rfl, by decide +kernel, by decide +kernel, by decide +kernel⟩
theorem dX11_layOrdered_0 : decode cX11_layOrdered 0 = .ok (.aload_n 0, 1) := by decide +kernel
theorem dX11_layOrdered_1 : decode cX11_layOrdered 1 = .ok (.iconst 0, 1) := by decide +kernel
theorem dX11_layOrdered_2 : decode cX11_layOrdered 2 = .ok (.putfield 236, 3) := by decide +kernel
theorem dX11_layOrdered_5 : decode cX11_layOrdered 5 = .ok (.iconst 3, 1) := by decide +kernel
theorem dX11_layOrdered_6 : decode cX11_layOrdered 6 = .ok (.istore_n 2, 1) := by decide +kernel
theorem dX11_layOrdered_7 : decode cX11_layOrdered 7 = .ok (.iload_n 2, 1) := by decide +kernel
theorem dX11_layOrdered_8 : decode cX11_layOrdered 8 = .ok (.iload_n 1, 1) := by decide +kernel
theorem dX11_layOrdered_9 : decode cX11_layOrdered 9 = .ok (.if_icmp .gt 55, 3) := by decide +kernel
theorem dX11_layOrdered_12 : decode cX11_layOrdered 12 = .ok (.iconst 0, 1) := by decide +kernel
theorem dX11_layOrdered_13 : decode cX11_layOrdered 13 = .ok (.istore_n 3, 1) := by decide +kernel
theorem dX11_layOrdered_14 : decode cX11_layOrdered 14 = .ok (.iload_n 3, 1) := by decide +kernel
theorem dX11_layOrdered_15 : decode cX11_layOrdered 15 = .ok (.iconst 1, 1) := by decide +kernel
theorem dX11_layOrdered_16 : decode cX11_layOrdered 16 = .ok (.iload_n 1, 1) := by decide +kernel
theorem dX11_layOrdered_17 : decode cX11_layOrdered 17 = .ok (.ishl, 1) := by decide +kernel
theorem dX11_layOrdered_18 : decode cX11_layOrdered 18 = .ok (.if_icmp .ge 40, 3) := by decide +kernel
theorem dX11_layOrdered_21 : decode cX11_layOrdered 21 = .ok (.iload_n 3, 1) := by decide +kernel
theorem dX11_layOrdered_22 : decode cX11_layOrdered 22 = .ok (.invokestatic 192, 3) := by decide +kernel
theorem dX11_layOrdered_25 : decode cX11_layOrdered 25 = .ok (.iload_n 2, 1) := by decide +kernel
theorem dX11_layOrdered_26 : decode cX11_layOrdered 26 = .ok (.if_icmp .eq 6, 3) := by decide +kernel
theorem dX11_layOrdered_29 : decode cX11_layOrdered 29 = .ok (.goto 23, 3) := by decide +kernel
theorem dX11_layOrdered_32 : decode cX11_layOrdered 32 = .ok (.aload_n 0, 1) := by decide +kernel
theorem dX11_layOrdered_33 : decode cX11_layOrdered 33 = .ok (.getfield 36, 3) := by decide +kernel
theorem dX11_layOrdered_36 : decode cX11_layOrdered 36 = .ok (.aload_n 0, 1) := by decide +kernel
theorem dX11_layOrdered_37 : decode cX11_layOrdered 37 = .ok (.getfield 236, 3) := by decide +kernel
theorem dX11_layOrdered_40 : decode cX11_layOrdered 40 = .ok (.iload_n 3, 1) := by decide +kernel
theorem dX11_layOrdered_41 : decode cX11_layOrdered 41 = .ok (.iastore, 1) := by decide +kernel
theorem dX11_layOrdered_42 : decode cX11_layOrdered 42 = .ok (.aload_n 0, 1) := by decide +kernel
theorem dX11_layOrdered_43 : decode cX11_layOrdered 43 = .ok (.dup, 1) := by decide +kernel
theorem dX11_layOrdered_44 : decode cX11_layOrdered 44 = .ok (.getfield 236, 3) := by decide +kernel
theorem dX11_layOrdered_47 : decode cX11_layOrdered 47 = .ok (.iconst 1, 1) := by decide +kernel
theorem dX11_layOrdered_48 : decode cX11_layOrdered 48 = .ok (.iadd, 1) := by decide +kernel
theorem dX11_layOrdered_49 : decode cX11_layOrdered 49 = .ok (.putfield 236, 3) := by decide +kernel
theorem dX11_layOrdered_52 : decode cX11_layOrdered 52 = .ok (.iinc 3 1, 3) := by decide +kernel
theorem dX11_layOrdered_55 : decode cX11_layOrdered 55 = .ok (.goto (-41), 3) := by decide +kernel
theorem dX11_layOrdered_58 : decode cX11_layOrdered 58 = .ok (.iinc 2 2, 3) := by decide +kernel
theorem dX11_layOrdered_61 : decode cX11_layOrdered 61 = .ok (.goto (-54), 3) := by decide +kernel
theorem dX11_layOrdered_64 : decode cX11_layOrdered 64 = .ok (.return_, 1) := by decide +kernel
def wW_X11_layOrdered (G : GG) (h0 h1 y0_0 y0_1 y0_2 y0_3 y0_4 y0_6 y0_18 y0_22 y0_23 y0_24 y0_25 y0_26 y0_33 y0_34 y0_38 y0_39 y0_40 y0_41 y0_42 y0_43 y0_45 y0_46 y0_47 y0_48 : Nat) (x0_5 : Int32) (x0_7 : Int32) (x0_8 : Int32) (x0_9 : Int32) (x0_10 : Int32) (x0_11 : Int32) (x0_12 : Int32) (x0_13 : Int32) (x0_14 : Int32) (x0_15 : Int32) (x0_16 : Int32) (x0_17 : Int32) (x0_19 : Int32) (x0_20 : Int32) (x0_27 : Int32) (x0_28 : Int32) (x0_29 : Int32) (x0_30 : Int32) (x0_31 : Int32) (x0_32 : Int32) (x0_35 : Int32) (x0_36 : Int32) (x0_37 : Int32) (x0_44 : Int32) (x0_49 : Int32) (x0_50 : Int32) (a1 : Nat → Int32) : va_W := [(h0, .inr (11, [.ref y0_0, .ref y0_1, .ref y0_2, .ref y0_3, .ref y0_4, .int x0_5, .ref y0_6, .int x0_7, .int x0_8, .int x0_9, .int x0_10, .int x0_11, .int x0_12, .int x0_13, .int x0_14, .int x0_15, .int x0_16, .int x0_17, .ref y0_18, .int x0_19, .int x0_20, .ref h1, .ref y0_22, .ref y0_23, .ref y0_24, .ref y0_25, .ref y0_26, .int x0_27, .int x0_28, .int x0_29, .int x0_30, .int x0_31, .int x0_32, .ref y0_33, .ref y0_34, .int x0_35, .int x0_36, .int x0_37, .ref y0_38, .ref y0_39, .ref y0_40, .ref y0_41, .ref y0_42, .ref y0_43, .int x0_44, .ref y0_45, .ref y0_46, .ref y0_47, .ref y0_48, .int x0_49, .int x0_50])), (h1, .inl (G.2.1, 128, .inl a1))]
set_option maxHeartbeats 4000000 in
set_option maxRecDepth 100000 in
theorem c_X11_layOrdered (l : Launch) (G : GG) (h0 h1 y0_0 y0_1 y0_2 y0_3 y0_4 y0_6 y0_18 y0_22 y0_23 y0_24 y0_25 y0_26 y0_33 y0_34 y0_38 y0_39 y0_40 y0_41 y0_42 y0_43 y0_45 y0_46 y0_47 y0_48 : Nat) (sz : Nat) (x0_5 : Int32) (x0_7 : Int32) (x0_8 : Int32) (x0_9 : Int32) (x0_10 : Int32) (x0_11 : Int32) (x0_12 : Int32) (x0_13 : Int32) (x0_14 : Int32) (x0_15 : Int32) (x0_16 : Int32) (x0_17 : Int32) (x0_19 : Int32) (x0_20 : Int32) (x0_27 : Int32) (x0_28 : Int32) (x0_29 : Int32) (x0_30 : Int32) (x0_31 : Int32) (x0_32 : Int32) (x0_35 : Int32) (x0_36 : Int32) (x0_37 : Int32) (x0_44 : Int32) (x0_49 : Int32) (x0_50 : Int32) (a1 : Nat → Int32) (F : Nat) (b1 : Int32)  (e_x0_27 : Int32) (e_a1 : Nat → Int32) (hf : p_X11_layOrdered F x0_27 a1 b1 = some (e_x0_27, e_a1)) : Met l yX11_layOrdered (.code yX11_layOrdered cX11_layOrdered 4 none :: gtbl) ({ frames := 1, cells := 0, slots := 0, locals := 22 } : Room) (PcS G [.ref h0, .int b1] (wW_X11_layOrdered G h0 h1 y0_0 y0_1 y0_2 y0_3 y0_4 y0_6 y0_18 y0_22 y0_23 y0_24 y0_25 y0_26 y0_33 y0_34 y0_38 y0_39 y0_40 y0_41 y0_42 y0_43 y0_45 y0_46 y0_47 y0_48 x0_5 x0_7 x0_8 x0_9 x0_10 x0_11 x0_12 x0_13 x0_14 x0_15 x0_16 x0_17 x0_19 x0_20 x0_27 x0_28 x0_29 x0_30 x0_31 x0_32 x0_35 x0_36 x0_37 x0_44 x0_49 x0_50 a1) sz) (QvS G (va_A (wW_X11_layOrdered G h0 h1 y0_0 y0_1 y0_2 y0_3 y0_4 y0_6 y0_18 y0_22 y0_23 y0_24 y0_25 y0_26 y0_33 y0_34 y0_38 y0_39 y0_40 y0_41 y0_42 y0_43 y0_45 y0_46 y0_47 y0_48 x0_5 x0_7 x0_8 x0_9 x0_10 x0_11 x0_12 x0_13 x0_14 x0_15 x0_16 x0_17 x0_19 x0_20 x0_27 x0_28 x0_29 x0_30 x0_31 x0_32 x0_35 x0_36 x0_37 x0_44 x0_49 x0_50 a1) sz) (wW_X11_layOrdered G h0 h1 y0_0 y0_1 y0_2 y0_3 y0_4 y0_6 y0_18 y0_22 y0_23 y0_24 y0_25 y0_26 y0_33 y0_34 y0_38 y0_39 y0_40 y0_41 y0_42 y0_43 y0_45 y0_46 y0_47 y0_48 x0_5 x0_7 x0_8 x0_9 x0_10 x0_11 x0_12 x0_13 x0_14 x0_15 x0_16 x0_17 x0_19 x0_20 e_x0_27 x0_28 x0_29 x0_30 x0_31 x0_32 x0_35 x0_36 x0_37 x0_44 x0_49 x0_50 e_a1)) 0 0 (va_A (wW_X11_layOrdered G h0 h1 y0_0 y0_1 y0_2 y0_3 y0_4 y0_6 y0_18 y0_22 y0_23 y0_24 y0_25 y0_26 y0_33 y0_34 y0_38 y0_39 y0_40 y0_41 y0_42 y0_43 y0_45 y0_46 y0_47 y0_48 x0_5 x0_7 x0_8 x0_9 x0_10 x0_11 x0_12 x0_13 x0_14 x0_15 x0_16 x0_17 x0_19 x0_20 x0_27 x0_28 x0_29 x0_30 x0_31 x0_32 x0_35 x0_36 x0_37 x0_44 x0_49 x0_50 a1) sz) := by
  refine met_start (by decide) (Nat.le_of_ble_eq_true rfl) ?_
  intro p e s m below meth c hC hr hlk hnm hK hP hD hA hS hX ls hl
  obtain ⟨hx, hb, hml, hown, ht0⟩ := hC
  have hown : s.vm.findClass RX11 = some m.cls := hown
  generalize va_A (wW_X11_layOrdered G h0 h1 y0_0 y0_1 y0_2 y0_3 y0_4 y0_6 y0_18 y0_22 y0_23 y0_24 y0_25 y0_26 y0_33 y0_34 y0_38 y0_39 y0_40 y0_41 y0_42 y0_43 y0_45 y0_46 y0_47 y0_48 x0_5 x0_7 x0_8 x0_9 x0_10 x0_11 x0_12 x0_13 x0_14 x0_15 x0_16 x0_17 x0_19 x0_20 x0_27 x0_28 x0_29 x0_30 x0_31 x0_32 x0_35 x0_36 x0_37 x0_44 x0_49 x0_50 a1) sz = A at hD hA hS hX ⊢
  have hl : lv_has ls 4 [(0, .ref h0), (1, .int b1)] := hl
  have hf : p_X11_layOrdered F x0_27 a1 b1 = some (e_x0_27, e_a1) := hf
  have kL7 : ∀ (c7_1 : Int32) (n7 : Nat) (u7_2 : Int32) (x0_27_7 : Int32) (a1_7 : Nat → Int32), p_X11_layOrdered_L7 F c7_1 n7 u7_2 x0_27_7 a1_7 = some (e_x0_27, e_a1) → ∀ (H : Heap) (locs : List Loc), va_P G.1 vwCl (wW_X11_layOrdered G h0 h1 y0_0 y0_1 y0_2 y0_3 y0_4 y0_6 y0_18 y0_22 y0_23 y0_24 y0_25 y0_26 y0_33 y0_34 y0_38 y0_39 y0_40 y0_41 y0_42 y0_43 y0_45 y0_46 y0_47 y0_48 x0_5 x0_7 x0_8 x0_9 x0_10 x0_11 x0_12 x0_13 x0_14 x0_15 x0_16 x0_17 x0_19 x0_20 x0_27_7 x0_28 x0_29 x0_30 x0_31 x0_32 x0_35 x0_36 x0_37 x0_44 x0_49 x0_50 a1_7) H → va_D A (wW_X11_layOrdered G h0 h1 y0_0 y0_1 y0_2 y0_3 y0_4 y0_6 y0_18 y0_22 y0_23 y0_24 y0_25 y0_26 y0_33 y0_34 y0_38 y0_39 y0_40 y0_41 y0_42 y0_43 y0_45 y0_46 y0_47 y0_48 x0_5 x0_7 x0_8 x0_9 x0_10 x0_11 x0_12 x0_13 x0_14 x0_15 x0_16 x0_17 x0_19 x0_20 x0_27_7 x0_28 x0_29 x0_30 x0_31 x0_32 x0_35 x0_36 x0_37 x0_44 x0_49 x0_50 a1_7) → va_S A s.heap H locs → ∀ ls : Array Slot, lv_has ls 4 [(0, .ref h0), (1, .int c7_1), (2, .int u7_2)] → W p l e ({ frames := 1, cells := 0, slots := 0, locals := 22 } : Room) s m (List.toArray [.ref h0, .int b1]) below meth c H locs 0 0 (MQ below (QvS G A (wW_X11_layOrdered G h0 h1 y0_0 y0_1 y0_2 y0_3 y0_4 y0_6 y0_18 y0_22 y0_23 y0_24 y0_25 y0_26 y0_33 y0_34 y0_38 y0_39 y0_40 y0_41 y0_42 y0_43 y0_45 y0_46 y0_47 y0_48 x0_5 x0_7 x0_8 x0_9 x0_10 x0_11 x0_12 x0_13 x0_14 x0_15 x0_16 x0_17 x0_19 x0_20 e_x0_27 x0_28 x0_29 x0_30 x0_31 x0_32 x0_35 x0_36 x0_37 x0_44 x0_49 x0_50 e_a1)) (List.toArray [.ref h0, .int b1]) s 0 0 A) (F0 m 7 ls []) := by
    intro c7_1 n7
    induction n7 with
    | zero =>
      intro u7_2 x0_27_7 a1_7 hf
      cases hf
    | succ n7 ih7 =>
      have kL14 : ∀ (c14_2 : Int32) (n14 : Nat) (u14_3 : Int32) (x0_27_14 : Int32) (a1_14 : Nat → Int32), p_X11_layOrdered_L14 F c7_1 c14_2 (p_X11_layOrdered_L7 F c7_1 n7) n14 u14_3 x0_27_14 a1_14 = some (e_x0_27, e_a1) → ∀ (H : Heap) (locs : List Loc), va_P G.1 vwCl (wW_X11_layOrdered G h0 h1 y0_0 y0_1 y0_2 y0_3 y0_4 y0_6 y0_18 y0_22 y0_23 y0_24 y0_25 y0_26 y0_33 y0_34 y0_38 y0_39 y0_40 y0_41 y0_42 y0_43 y0_45 y0_46 y0_47 y0_48 x0_5 x0_7 x0_8 x0_9 x0_10 x0_11 x0_12 x0_13 x0_14 x0_15 x0_16 x0_17 x0_19 x0_20 x0_27_14 x0_28 x0_29 x0_30 x0_31 x0_32 x0_35 x0_36 x0_37 x0_44 x0_49 x0_50 a1_14) H → va_D A (wW_X11_layOrdered G h0 h1 y0_0 y0_1 y0_2 y0_3 y0_4 y0_6 y0_18 y0_22 y0_23 y0_24 y0_25 y0_26 y0_33 y0_34 y0_38 y0_39 y0_40 y0_41 y0_42 y0_43 y0_45 y0_46 y0_47 y0_48 x0_5 x0_7 x0_8 x0_9 x0_10 x0_11 x0_12 x0_13 x0_14 x0_15 x0_16 x0_17 x0_19 x0_20 x0_27_14 x0_28 x0_29 x0_30 x0_31 x0_32 x0_35 x0_36 x0_37 x0_44 x0_49 x0_50 a1_14) → va_S A s.heap H locs → ∀ ls : Array Slot, lv_has ls 4 [(0, .ref h0), (1, .int c7_1), (2, .int c14_2), (3, .int u14_3)] → W p l e ({ frames := 1, cells := 0, slots := 0, locals := 22 } : Room) s m (List.toArray [.ref h0, .int b1]) below meth c H locs 0 0 (MQ below (QvS G A (wW_X11_layOrdered G h0 h1 y0_0 y0_1 y0_2 y0_3 y0_4 y0_6 y0_18 y0_22 y0_23 y0_24 y0_25 y0_26 y0_33 y0_34 y0_38 y0_39 y0_40 y0_41 y0_42 y0_43 y0_45 y0_46 y0_47 y0_48 x0_5 x0_7 x0_8 x0_9 x0_10 x0_11 x0_12 x0_13 x0_14 x0_15 x0_16 x0_17 x0_19 x0_20 e_x0_27 x0_28 x0_29 x0_30 x0_31 x0_32 x0_35 x0_36 x0_37 x0_44 x0_49 x0_50 e_a1)) (List.toArray [.ref h0, .int b1]) s 0 0 A) (F0 m 14 ls []) := by
        intro c14_2 n14
        induction n14 with
        | zero =>
          intro u14_3 x0_27_14 a1_14 hf
          cases hf
        | succ n14 ih14 =>
          have kJ52 : ∀ (u52_3 : Int32) (x0_27_52 : Int32) (a1_52 : Nat → Int32), p_X11_layOrdered_J52 F c7_1 c14_2 (p_X11_layOrdered_L7 F c7_1 n7) (p_X11_layOrdered_L14 F c7_1 c14_2 (p_X11_layOrdered_L7 F c7_1 n7) n14) u52_3 x0_27_52 a1_52 = some (e_x0_27, e_a1) → ∀ (H : Heap) (locs : List Loc), va_P G.1 vwCl (wW_X11_layOrdered G h0 h1 y0_0 y0_1 y0_2 y0_3 y0_4 y0_6 y0_18 y0_22 y0_23 y0_24 y0_25 y0_26 y0_33 y0_34 y0_38 y0_39 y0_40 y0_41 y0_42 y0_43 y0_45 y0_46 y0_47 y0_48 x0_5 x0_7 x0_8 x0_9 x0_10 x0_11 x0_12 x0_13 x0_14 x0_15 x0_16 x0_17 x0_19 x0_20 x0_27_52 x0_28 x0_29 x0_30 x0_31 x0_32 x0_35 x0_36 x0_37 x0_44 x0_49 x0_50 a1_52) H → va_D A (wW_X11_layOrdered G h0 h1 y0_0 y0_1 y0_2 y0_3 y0_4 y0_6 y0_18 y0_22 y0_23 y0_24 y0_25 y0_26 y0_33 y0_34 y0_38 y0_39 y0_40 y0_41 y0_42 y0_43 y0_45 y0_46 y0_47 y0_48 x0_5 x0_7 x0_8 x0_9 x0_10 x0_11 x0_12 x0_13 x0_14 x0_15 x0_16 x0_17 x0_19 x0_20 x0_27_52 x0_28 x0_29 x0_30 x0_31 x0_32 x0_35 x0_36 x0_37 x0_44 x0_49 x0_50 a1_52) → va_S A s.heap H locs → ∀ ls : Array Slot, lv_has ls 4 [(0, .ref h0), (1, .int c7_1), (2, .int c14_2), (3, .int u52_3)] → W p l e ({ frames := 1, cells := 0, slots := 0, locals := 22 } : Room) s m (List.toArray [.ref h0, .int b1]) below meth c H locs 0 0 (MQ below (QvS G A (wW_X11_layOrdered G h0 h1 y0_0 y0_1 y0_2 y0_3 y0_4 y0_6 y0_18 y0_22 y0_23 y0_24 y0_25 y0_26 y0_33 y0_34 y0_38 y0_39 y0_40 y0_41 y0_42 y0_43 y0_45 y0_46 y0_47 y0_48 x0_5 x0_7 x0_8 x0_9 x0_10 x0_11 x0_12 x0_13 x0_14 x0_15 x0_16 x0_17 x0_19 x0_20 e_x0_27 x0_28 x0_29 x0_30 x0_31 x0_32 x0_35 x0_36 x0_37 x0_44 x0_49 x0_50 e_a1)) (List.toArray [.ref h0, .int b1]) s 0 0 A) (F0 m 52 ls []) := by
            intro u52_3 x0_27_52 a1_52 hf H locs hP hD hS ls hl
            refine lv_iinc (v := u52_3 + (1 : Int32)) (lv' := [(3, .int (u52_3 + (1 : Int32))), (0, .ref h0), (1, .int c7_1), (2, .int c14_2)]) hx hb dX11_layOrdered_52 hl (k := 3) rfl (by rfl) (by decide) rfl (fun ls hl => ?_)
            refine lv_goto (tgt := 14) hx hb dX11_layOrdered_55 (by decide) ?_
            exact ih14 _ _ _ hf _ _ hP hD hS _ (lv_sub hl [1, 2, 3, 0] rfl)
          intro u14_3 x0_27_14 a1_14 hf H locs hP hD hS ls hl
          have hf : p_X11_layOrdered_L14b F c7_1 c14_2 (p_X11_layOrdered_L7 F c7_1 n7) (p_X11_layOrdered_L14 F c7_1 c14_2 (p_X11_layOrdered_L7 F c7_1 n7) n14) u14_3 x0_27_14 a1_14 = some (e_x0_27, e_a1) := hf
          refine lv_iload_n hx hb dX11_layOrdered_14 rfl (lv_at hl 3 rfl) ?_
          refine lv_iconst (v := (1 : Int32)) hx hb dX11_layOrdered_15 (by decide) ?_
          refine lv_iload_n hx hb dX11_layOrdered_16 rfl (lv_at hl 1 rfl) ?_
          refine lv_ishl hx hb dX11_layOrdered_17 ?_
          refine lv_icmp_ge (tgt := 58) hx hb dX11_layOrdered_18 (by decide) (fun c1 => ?_) (fun c1 => ?_)
          · have hf := of_pos hf c1
            refine lv_iinc (v := c14_2 + (2 : Int32)) (lv' := [(2, .int (c14_2 + (2 : Int32))), (0, .ref h0), (1, .int c7_1), (3, .int u14_3)]) hx hb dX11_layOrdered_58 hl (k := 2) rfl (by rfl) (by decide) rfl (fun ls hl => ?_)
            refine lv_goto (tgt := 7) hx hb dX11_layOrdered_61 (by decide) ?_
            exact ih7 _ _ _ hf _ _ hP hD hS _ (lv_sub hl [1, 2, 0] rfl)
          · have hf := of_neg hf c1
            refine lv_iload_n hx hb dX11_layOrdered_21 rfl (lv_at hl 3 rfl) ?_
            obtain ⟨r_22_1, hc_r_22_1, hf⟩ := of_bnd hf
            refine cl_Si (w2 := (wW_X11_layOrdered G h0 h1 y0_0 y0_1 y0_2 y0_3 y0_4 y0_6 y0_18 y0_22 y0_23 y0_24 y0_25 y0_26 y0_33 y0_34 y0_38 y0_39 y0_40 y0_41 y0_42 y0_43 y0_45 y0_46 y0_47 y0_48 x0_5 x0_7 x0_8 x0_9 x0_10 x0_11 x0_12 x0_13 x0_14 x0_15 x0_16 x0_17 x0_19 x0_20 x0_27_14 x0_28 x0_29 x0_30 x0_31 x0_32 x0_35 x0_36 x0_37 x0_44 x0_49 x0_50 a1_14)) (As := [.int u14_3]) (rest := []) ⟨hx, hb, hml, hown, ht0⟩ (c_X11_ones l G _ F u14_3 _ hc_r_22_1) yk_X11_ones wd_1344 ⟨rfl, rfl, by decide, by decide⟩ ⟨Nat.le_refl _, Nat.le_refl _⟩ hX hK hP hD hS hA [] [0, 1] [0, 1] rfl rfl (by decide) rfl rfl rfl rfl rfl hl.1 rfl (Nat.le_of_ble_eq_true rfl) dX11_layOrdered_22 (fun H locs hP hD hS => ?_)
            refine lv_iload_n hx hb dX11_layOrdered_25 rfl (lv_at hl 2 rfl) ?_
            refine lv_icmp_eq (tgt := 32) hx hb dX11_layOrdered_26 (by decide) (fun c3 => ?_) (fun c3 => ?_)
            · have hf := of_pos hf c3
              refine lv_aload_n hx hb dX11_layOrdered_32 rfl (lv_at hl 0 rfl) ?_
              refine va_get (ci := 11) (v := .ref h1) (C := RX11) (T := TX11) (N := 51) hx hb ht0 iX11 hown hK hP 0 rfl rfl 21 (by decide) (ht0 _ wd_1427) (fun _ h9 => h9) rfl dX11_layOrdered_33 ?_
              refine lv_aload_n hx hb dX11_layOrdered_36 rfl (lv_at hl 0 rfl) ?_
              refine va_get (ci := 11) (v := .int x0_27_14) (C := RX11) (T := TX11) (N := 51) hx hb ht0 iX11 hown hK hP 0 rfl rfl 27 (by decide) (ht0 _ wd_1433) (fun _ h9 => h9) rfl dX11_layOrdered_37 ?_
              refine lv_iload_n hx hb dX11_layOrdered_40 rfl (lv_at hl 3 rfl) ?_
              obtain ⟨g4, hf⟩ := of_grd hf
              refine va_iast hx hb hK hP hD hS 1 0 rfl rfl g4 dX11_layOrdered_41 (fun H locs hP hD hS => ?_)
              have hP : va_P G.1 vwCl (wW_X11_layOrdered G h0 h1 y0_0 y0_1 y0_2 y0_3 y0_4 y0_6 y0_18 y0_22 y0_23 y0_24 y0_25 y0_26 y0_33 y0_34 y0_38 y0_39 y0_40 y0_41 y0_42 y0_43 y0_45 y0_46 y0_47 y0_48 x0_5 x0_7 x0_8 x0_9 x0_10 x0_11 x0_12 x0_13 x0_14 x0_15 x0_16 x0_17 x0_19 x0_20 x0_27_14 x0_28 x0_29 x0_30 x0_31 x0_32 x0_35 x0_36 x0_37 x0_44 x0_49 x0_50 (upd a1_14 x0_27_14.toNatClampNeg u14_3)) H := hP
              have hD : va_D A (wW_X11_layOrdered G h0 h1 y0_0 y0_1 y0_2 y0_3 y0_4 y0_6 y0_18 y0_22 y0_23 y0_24 y0_25 y0_26 y0_33 y0_34 y0_38 y0_39 y0_40 y0_41 y0_42 y0_43 y0_45 y0_46 y0_47 y0_48 x0_5 x0_7 x0_8 x0_9 x0_10 x0_11 x0_12 x0_13 x0_14 x0_15 x0_16 x0_17 x0_19 x0_20 x0_27_14 x0_28 x0_29 x0_30 x0_31 x0_32 x0_35 x0_36 x0_37 x0_44 x0_49 x0_50 (upd a1_14 x0_27_14.toNatClampNeg u14_3)) := hD
              refine lv_aload_n hx hb dX11_layOrdered_42 rfl (lv_at hl 0 rfl) ?_
              refine lv_dup hx hb dX11_layOrdered_43 rfl ?_
              refine va_get (ci := 11) (v := .int x0_27_14) (C := RX11) (T := TX11) (N := 51) hx hb ht0 iX11 hown hK hP 0 rfl rfl 27 (by decide) (ht0 _ wd_1433) (fun _ h9 => h9) rfl dX11_layOrdered_44 ?_
              refine lv_iconst (v := (1 : Int32)) hx hb dX11_layOrdered_47 (by decide) ?_
              refine lv_iadd hx hb dX11_layOrdered_48 ?_
              refine va_put (ci := 11) (v := .int (x0_27_14 + (1 : Int32))) (ty := .int) (C := RX11) (T := TX11) (N := 51) hx hb ht0 iX11 tyX11 tyX11_ok nmX11 hown hK hP hD hS 0 rfl rfl 27 (by decide) (ht0 _ wd_1433) (fun _ h9 => h9) rfl rfl rfl rfl (Nat.le_of_ble_eq_true rfl) dX11_layOrdered_49 (fun H locs hP hD hS => ?_)
              have hP : va_P G.1 vwCl (wW_X11_layOrdered G h0 h1 y0_0 y0_1 y0_2 y0_3 y0_4 y0_6 y0_18 y0_22 y0_23 y0_24 y0_25 y0_26 y0_33 y0_34 y0_38 y0_39 y0_40 y0_41 y0_42 y0_43 y0_45 y0_46 y0_47 y0_48 x0_5 x0_7 x0_8 x0_9 x0_10 x0_11 x0_12 x0_13 x0_14 x0_15 x0_16 x0_17 x0_19 x0_20 (x0_27_14 + (1 : Int32)) x0_28 x0_29 x0_30 x0_31 x0_32 x0_35 x0_36 x0_37 x0_44 x0_49 x0_50 (upd a1_14 x0_27_14.toNatClampNeg u14_3)) H := hP
              have hD : va_D A (wW_X11_layOrdered G h0 h1 y0_0 y0_1 y0_2 y0_3 y0_4 y0_6 y0_18 y0_22 y0_23 y0_24 y0_25 y0_26 y0_33 y0_34 y0_38 y0_39 y0_40 y0_41 y0_42 y0_43 y0_45 y0_46 y0_47 y0_48 x0_5 x0_7 x0_8 x0_9 x0_10 x0_11 x0_12 x0_13 x0_14 x0_15 x0_16 x0_17 x0_19 x0_20 (x0_27_14 + (1 : Int32)) x0_28 x0_29 x0_30 x0_31 x0_32 x0_35 x0_36 x0_37 x0_44 x0_49 x0_50 (upd a1_14 x0_27_14.toNatClampNeg u14_3)) := hD
              exact kJ52 _ _ _ hf _ _ hP hD hS _ (lv_sub hl [0, 1, 2, 3] rfl)
            · have hf := of_neg hf c3
              refine lv_goto (tgt := 52) hx hb dX11_layOrdered_29 (by decide) ?_
              exact kJ52 _ _ _ hf _ _ hP hD hS _ (lv_sub hl [0, 1, 2, 3] rfl)
      intro u7_2 x0_27_7 a1_7 hf H locs hP hD hS ls hl
      have hf : p_X11_layOrdered_L7b F c7_1 (p_X11_layOrdered_L7 F c7_1 n7) u7_2 x0_27_7 a1_7 = some (e_x0_27, e_a1) := hf
      refine lv_iload_n hx hb dX11_layOrdered_7 rfl (lv_at hl 2 rfl) ?_
      refine lv_iload_n hx hb dX11_layOrdered_8 rfl (lv_at hl 1 rfl) ?_
      refine lv_icmp_gt (tgt := 64) hx hb dX11_layOrdered_9 (by decide) (fun c5 => ?_) (fun c5 => ?_)
      · have hf := of_pos hf c5
        cases hf
        exact ret_v hx hb hr hlk hK hP hD hS dX11_layOrdered_64
      · have hf := of_neg hf c5
        refine lv_iconst (v := (0 : Int32)) hx hb dX11_layOrdered_12 (by decide) ?_
        refine lv_istore_n (lv' := [(3, .int (0 : Int32)), (0, .ref h0), (1, .int c7_1), (2, .int u7_2)]) hx hb dX11_layOrdered_13 rfl hl (by decide) rfl (fun ls hl => ?_)
        exact kL14 _ _ _ _ _ hf _ _ hP hD hS _ (lv_sub hl [1, 2, 3, 0] rfl)
  refine lv_aload_n hx hb dX11_layOrdered_0 rfl (lv_at hl 0 rfl) ?_
  refine lv_iconst (v := (0 : Int32)) hx hb dX11_layOrdered_1 (by decide) ?_
  refine va_put (ci := 11) (v := .int (0 : Int32)) (ty := .int) (C := RX11) (T := TX11) (N := 51) hx hb ht0 iX11 tyX11 tyX11_ok nmX11 hown hK hP hD hS 0 rfl rfl 27 (by decide) (ht0 _ wd_1433) (fun _ h9 => h9) rfl rfl rfl rfl (Nat.le_of_ble_eq_true rfl) dX11_layOrdered_2 (fun H locs hP hD hS => ?_)
  have hP : va_P G.1 vwCl (wW_X11_layOrdered G h0 h1 y0_0 y0_1 y0_2 y0_3 y0_4 y0_6 y0_18 y0_22 y0_23 y0_24 y0_25 y0_26 y0_33 y0_34 y0_38 y0_39 y0_40 y0_41 y0_42 y0_43 y0_45 y0_46 y0_47 y0_48 x0_5 x0_7 x0_8 x0_9 x0_10 x0_11 x0_12 x0_13 x0_14 x0_15 x0_16 x0_17 x0_19 x0_20 (0 : Int32) x0_28 x0_29 x0_30 x0_31 x0_32 x0_35 x0_36 x0_37 x0_44 x0_49 x0_50 a1) H := hP
  have hD : va_D A (wW_X11_layOrdered G h0 h1 y0_0 y0_1 y0_2 y0_3 y0_4 y0_6 y0_18 y0_22 y0_23 y0_24 y0_25 y0_26 y0_33 y0_34 y0_38 y0_39 y0_40 y0_41 y0_42 y0_43 y0_45 y0_46 y0_47 y0_48 x0_5 x0_7 x0_8 x0_9 x0_10 x0_11 x0_12 x0_13 x0_14 x0_15 x0_16 x0_17 x0_19 x0_20 (0 : Int32) x0_28 x0_29 x0_30 x0_31 x0_32 x0_35 x0_36 x0_37 x0_44 x0_49 x0_50 a1) := hD
  refine lv_iconst (v := (3 : Int32)) hx hb dX11_layOrdered_5 (by decide) ?_
  refine lv_istore_n (lv' := [(2, .int (3 : Int32)), (0, .ref h0), (1, .int b1)]) hx hb dX11_layOrdered_6 rfl hl (by decide) rfl (fun ls hl => ?_)
  exact kL7 _ _ _ _ _ hf _ _ hP hD hS _ (lv_sub hl [1, 2, 0] rfl)
theorem yk_X11_layOrdered : ykV yX11_layOrdered RX11 cX11_layOrdered 4 none 1 := ⟨wd_1342, wd_56, wd_142, wd_1343, rfl, by decide +kernel, by decide +kernel, by decide +kernel⟩
theorem dX11_takeOff_0 : decode cX11_takeOff 0 = .ok (.aload_n 0, 1) := by decide +kernel
theorem dX11_takeOff_1 : decode cX11_takeOff 1 = .ok (.getfield 39, 3) := by decide +kernel
theorem dX11_takeOff_4 : decode cX11_takeOff 4 = .ok (.iload_n 1, 1) := by decide +kernel
theorem dX11_takeOff_5 : decode cX11_takeOff 5 = .ok (.iaload, 1) := by decide +kernel
theorem dX11_takeOff_6 : decode cX11_takeOff 6 = .ok (.istore_n 3, 1) := by decide +kernel
theorem dX11_takeOff_7 : decode cX11_takeOff 7 = .ok (.aload_n 0, 1) := by decide +kernel
theorem dX11_takeOff_8 : decode cX11_takeOff 8 = .ok (.getfield 48, 3) := by decide +kernel
theorem dX11_takeOff_11 : decode cX11_takeOff 11 = .ok (.iload_n 3, 1) := by decide +kernel
theorem dX11_takeOff_12 : decode cX11_takeOff 12 = .ok (.iconst 0, 1) := by decide +kernel
theorem dX11_takeOff_13 : decode cX11_takeOff 13 = .ok (.bastore, 1) := by decide +kernel
theorem dX11_takeOff_14 : decode cX11_takeOff 14 = .ok (.iload_n 1, 1) := by decide +kernel
theorem dX11_takeOff_15 : decode cX11_takeOff 15 = .ok (.ifCond .le 19, 3) := by decide +kernel
theorem dX11_takeOff_18 : decode cX11_takeOff 18 = .ok (.aload_n 0, 1) := by decide +kernel
theorem dX11_takeOff_19 : decode cX11_takeOff 19 = .ok (.getfield 52, 3) := by decide +kernel
theorem dX11_takeOff_22 : decode cX11_takeOff 22 = .ok (.iload_n 3, 1) := by decide +kernel
theorem dX11_takeOff_23 : decode cX11_takeOff 23 = .ok (.aload_n 0, 1) := by decide +kernel
theorem dX11_takeOff_24 : decode cX11_takeOff 24 = .ok (.getfield 39, 3) := by decide +kernel
theorem dX11_takeOff_27 : decode cX11_takeOff 27 = .ok (.iload_n 1, 1) := by decide +kernel
theorem dX11_takeOff_28 : decode cX11_takeOff 28 = .ok (.iconst 1, 1) := by decide +kernel
theorem dX11_takeOff_29 : decode cX11_takeOff 29 = .ok (.isub, 1) := by decide +kernel
theorem dX11_takeOff_30 : decode cX11_takeOff 30 = .ok (.iaload, 1) := by decide +kernel
theorem dX11_takeOff_31 : decode cX11_takeOff 31 = .ok (.ixor, 1) := by decide +kernel
theorem dX11_takeOff_32 : decode cX11_takeOff 32 = .ok (.iconst 0, 1) := by decide +kernel
theorem dX11_takeOff_33 : decode cX11_takeOff 33 = .ok (.bastore, 1) := by decide +kernel
theorem dX11_takeOff_34 : decode cX11_takeOff 34 = .ok (.iload_n 1, 1) := by decide +kernel
theorem dX11_takeOff_35 : decode cX11_takeOff 35 = .ok (.iload_n 2, 1) := by decide +kernel
theorem dX11_takeOff_36 : decode cX11_takeOff 36 = .ok (.iconst 1, 1) := by decide +kernel
theorem dX11_takeOff_37 : decode cX11_takeOff 37 = .ok (.isub, 1) := by decide +kernel
theorem dX11_takeOff_38 : decode cX11_takeOff 38 = .ok (.if_icmp .ne 12, 3) := by decide +kernel
theorem dX11_takeOff_41 : decode cX11_takeOff 41 = .ok (.aload_n 0, 1) := by decide +kernel
theorem dX11_takeOff_42 : decode cX11_takeOff 42 = .ok (.getfield 52, 3) := by decide +kernel
theorem dX11_takeOff_45 : decode cX11_takeOff 45 = .ok (.iload_n 3, 1) := by decide +kernel
theorem dX11_takeOff_46 : decode cX11_takeOff 46 = .ok (.iconst 1, 1) := by decide +kernel
theorem dX11_takeOff_47 : decode cX11_takeOff 47 = .ok (.ixor, 1) := by decide +kernel
theorem dX11_takeOff_48 : decode cX11_takeOff 48 = .ok (.iconst 0, 1) := by decide +kernel
theorem dX11_takeOff_49 : decode cX11_takeOff 49 = .ok (.bastore, 1) := by decide +kernel
theorem dX11_takeOff_50 : decode cX11_takeOff 50 = .ok (.return_, 1) := by decide +kernel
def wW_X11_takeOff (G : GG) (h0 h1 h2 h3 y0_0 y0_1 y0_2 y0_3 y0_4 y0_6 y0_18 y0_21 y0_23 y0_24 y0_33 y0_34 y0_38 y0_39 y0_40 y0_41 y0_42 y0_43 y0_45 y0_46 y0_47 y0_48 : Nat) (x0_5 : Int32) (x0_7 : Int32) (x0_8 : Int32) (x0_9 : Int32) (x0_10 : Int32) (x0_11 : Int32) (x0_12 : Int32) (x0_13 : Int32) (x0_14 : Int32) (x0_15 : Int32) (x0_16 : Int32) (x0_17 : Int32) (x0_19 : Int32) (x0_20 : Int32) (x0_27 : Int32) (x0_28 : Int32) (x0_29 : Int32) (x0_30 : Int32) (x0_31 : Int32) (x0_32 : Int32) (x0_35 : Int32) (x0_36 : Int32) (x0_37 : Int32) (x0_44 : Int32) (x0_49 : Int32) (x0_50 : Int32) (a1 : Nat → Int32) (a2 : Nat → Int32) (a3 : Nat → Int32) : va_W := [(h0, .inr (11, [.ref y0_0, .ref y0_1, .ref y0_2, .ref y0_3, .ref y0_4, .int x0_5, .ref y0_6, .int x0_7, .int x0_8, .int x0_9, .int x0_10, .int x0_11, .int x0_12, .int x0_13, .int x0_14, .int x0_15, .int x0_16, .int x0_17, .ref y0_18, .int x0_19, .int x0_20, .ref y0_21, .ref h1, .ref y0_23, .ref y0_24, .ref h2, .ref h3, .int x0_27, .int x0_28, .int x0_29, .int x0_30, .int x0_31, .int x0_32, .ref y0_33, .ref y0_34, .int x0_35, .int x0_36, .int x0_37, .ref y0_38, .ref y0_39, .ref y0_40, .ref y0_41, .ref y0_42, .ref y0_43, .int x0_44, .ref y0_45, .ref y0_46, .ref y0_47, .ref y0_48, .int x0_49, .int x0_50])), (h1, .inl (G.2.1, 32, .inl a1)), (h2, .inl (G.2.2.1, 256, .inl a2)), (h3, .inl (G.2.2.1, 256, .inl a3))]
set_option maxHeartbeats 4000000 in
set_option maxRecDepth 100000 in
theorem c_X11_takeOff (l : Launch) (G : GG) (h0 h1 h2 h3 y0_0 y0_1 y0_2 y0_3 y0_4 y0_6 y0_18 y0_21 y0_23 y0_24 y0_33 y0_34 y0_38 y0_39 y0_40 y0_41 y0_42 y0_43 y0_45 y0_46 y0_47 y0_48 : Nat) (sz : Nat) (x0_5 : Int32) (x0_7 : Int32) (x0_8 : Int32) (x0_9 : Int32) (x0_10 : Int32) (x0_11 : Int32) (x0_12 : Int32) (x0_13 : Int32) (x0_14 : Int32) (x0_15 : Int32) (x0_16 : Int32) (x0_17 : Int32) (x0_19 : Int32) (x0_20 : Int32) (x0_27 : Int32) (x0_28 : Int32) (x0_29 : Int32) (x0_30 : Int32) (x0_31 : Int32) (x0_32 : Int32) (x0_35 : Int32) (x0_36 : Int32) (x0_37 : Int32) (x0_44 : Int32) (x0_49 : Int32) (x0_50 : Int32) (a1 : Nat → Int32) (a2 : Nat → Int32) (a3 : Nat → Int32) (F : Nat) (b1 : Int32) (b2 : Int32)  (e_a2 : Nat → Int32) (e_a3 : Nat → Int32) (hf : p_X11_takeOff F a1 a2 a3 b1 b2 = some (e_a2, e_a3)) : Met l yX11_takeOff (.code yX11_takeOff cX11_takeOff 4 none :: gtbl) ({ frames := 0, cells := 0, slots := 0, locals := 0 } : Room) (PcS G [.ref h0, .int b1, .int b2] (wW_X11_takeOff G h0 h1 h2 h3 y0_0 y0_1 y0_2 y0_3 y0_4 y0_6 y0_18 y0_21 y0_23 y0_24 y0_33 y0_34 y0_38 y0_39 y0_40 y0_41 y0_42 y0_43 y0_45 y0_46 y0_47 y0_48 x0_5 x0_7 x0_8 x0_9 x0_10 x0_11 x0_12 x0_13 x0_14 x0_15 x0_16 x0_17 x0_19 x0_20 x0_27 x0_28 x0_29 x0_30 x0_31 x0_32 x0_35 x0_36 x0_37 x0_44 x0_49 x0_50 a1 a2 a3) sz) (QvS G (va_A (wW_X11_takeOff G h0 h1 h2 h3 y0_0 y0_1 y0_2 y0_3 y0_4 y0_6 y0_18 y0_21 y0_23 y0_24 y0_33 y0_34 y0_38 y0_39 y0_40 y0_41 y0_42 y0_43 y0_45 y0_46 y0_47 y0_48 x0_5 x0_7 x0_8 x0_9 x0_10 x0_11 x0_12 x0_13 x0_14 x0_15 x0_16 x0_17 x0_19 x0_20 x0_27 x0_28 x0_29 x0_30 x0_31 x0_32 x0_35 x0_36 x0_37 x0_44 x0_49 x0_50 a1 a2 a3) sz) (wW_X11_takeOff G h0 h1 h2 h3 y0_0 y0_1 y0_2 y0_3 y0_4 y0_6 y0_18 y0_21 y0_23 y0_24 y0_33 y0_34 y0_38 y0_39 y0_40 y0_41 y0_42 y0_43 y0_45 y0_46 y0_47 y0_48 x0_5 x0_7 x0_8 x0_9 x0_10 x0_11 x0_12 x0_13 x0_14 x0_15 x0_16 x0_17 x0_19 x0_20 x0_27 x0_28 x0_29 x0_30 x0_31 x0_32 x0_35 x0_36 x0_37 x0_44 x0_49 x0_50 a1 e_a2 e_a3)) 0 0 (va_A (wW_X11_takeOff G h0 h1 h2 h3 y0_0 y0_1 y0_2 y0_3 y0_4 y0_6 y0_18 y0_21 y0_23 y0_24 y0_33 y0_34 y0_38 y0_39 y0_40 y0_41 y0_42 y0_43 y0_45 y0_46 y0_47 y0_48 x0_5 x0_7 x0_8 x0_9 x0_10 x0_11 x0_12 x0_13 x0_14 x0_15 x0_16 x0_17 x0_19 x0_20 x0_27 x0_28 x0_29 x0_30 x0_31 x0_32 x0_35 x0_36 x0_37 x0_44 x0_49 x0_50 a1 a2 a3) sz) := by
  refine met_start (by decide) (Nat.le_of_ble_eq_true rfl) ?_
  intro p e s m below meth c hC hr hlk hnm hK hP hD hA hS hX ls hl
  obtain ⟨hx, hb, hml, hown, ht0⟩ := hC
  have hown : s.vm.findClass RX11 = some m.cls := hown
  generalize va_A (wW_X11_takeOff G h0 h1 h2 h3 y0_0 y0_1 y0_2 y0_3 y0_4 y0_6 y0_18 y0_21 y0_23 y0_24 y0_33 y0_34 y0_38 y0_39 y0_40 y0_41 y0_42 y0_43 y0_45 y0_46 y0_47 y0_48 x0_5 x0_7 x0_8 x0_9 x0_10 x0_11 x0_12 x0_13 x0_14 x0_15 x0_16 x0_17 x0_19 x0_20 x0_27 x0_28 x0_29 x0_30 x0_31 x0_32 x0_35 x0_36 x0_37 x0_44 x0_49 x0_50 a1 a2 a3) sz = A at hD hA hS hX ⊢
  have hl : lv_has ls 4 [(0, .ref h0), (1, .int b1), (2, .int b2)] := hl
  have hf : p_X11_takeOff F a1 a2 a3 b1 b2 = some (e_a2, e_a3) := hf
  have kJ34 : ∀ (u34_1 : Int32) (u34_2 : Int32) (u34_3 : Int32) (a2_34 : Nat → Int32) (a3_34 : Nat → Int32), p_X11_takeOff_J34 F a1 u34_1 u34_2 u34_3 a2_34 a3_34 = some (e_a2, e_a3) → ∀ (H : Heap) (locs : List Loc), va_P G.1 vwCl (wW_X11_takeOff G h0 h1 h2 h3 y0_0 y0_1 y0_2 y0_3 y0_4 y0_6 y0_18 y0_21 y0_23 y0_24 y0_33 y0_34 y0_38 y0_39 y0_40 y0_41 y0_42 y0_43 y0_45 y0_46 y0_47 y0_48 x0_5 x0_7 x0_8 x0_9 x0_10 x0_11 x0_12 x0_13 x0_14 x0_15 x0_16 x0_17 x0_19 x0_20 x0_27 x0_28 x0_29 x0_30 x0_31 x0_32 x0_35 x0_36 x0_37 x0_44 x0_49 x0_50 a1 a2_34 a3_34) H → va_D A (wW_X11_takeOff G h0 h1 h2 h3 y0_0 y0_1 y0_2 y0_3 y0_4 y0_6 y0_18 y0_21 y0_23 y0_24 y0_33 y0_34 y0_38 y0_39 y0_40 y0_41 y0_42 y0_43 y0_45 y0_46 y0_47 y0_48 x0_5 x0_7 x0_8 x0_9 x0_10 x0_11 x0_12 x0_13 x0_14 x0_15 x0_16 x0_17 x0_19 x0_20 x0_27 x0_28 x0_29 x0_30 x0_31 x0_32 x0_35 x0_36 x0_37 x0_44 x0_49 x0_50 a1 a2_34 a3_34) → va_S A s.heap H locs → ∀ ls : Array Slot, lv_has ls 4 [(0, .ref h0), (1, .int u34_1), (2, .int u34_2), (3, .int u34_3)] → W p l e ({ frames := 0, cells := 0, slots := 0, locals := 0 } : Room) s m (List.toArray [.ref h0, .int b1, .int b2]) below meth c H locs 0 0 (MQ below (QvS G A (wW_X11_takeOff G h0 h1 h2 h3 y0_0 y0_1 y0_2 y0_3 y0_4 y0_6 y0_18 y0_21 y0_23 y0_24 y0_33 y0_34 y0_38 y0_39 y0_40 y0_41 y0_42 y0_43 y0_45 y0_46 y0_47 y0_48 x0_5 x0_7 x0_8 x0_9 x0_10 x0_11 x0_12 x0_13 x0_14 x0_15 x0_16 x0_17 x0_19 x0_20 x0_27 x0_28 x0_29 x0_30 x0_31 x0_32 x0_35 x0_36 x0_37 x0_44 x0_49 x0_50 a1 e_a2 e_a3)) (List.toArray [.ref h0, .int b1, .int b2]) s 0 0 A) (F0 m 34 ls []) := by
    intro u34_1 u34_2 u34_3 a2_34 a3_34 hf H locs hP hD hS ls hl
    refine lv_iload_n hx hb dX11_takeOff_34 rfl (lv_at hl 1 rfl) ?_
    refine lv_iload_n hx hb dX11_takeOff_35 rfl (lv_at hl 2 rfl) ?_
    refine lv_iconst (v := (1 : Int32)) hx hb dX11_takeOff_36 (by decide) ?_
    refine lv_isub hx hb dX11_takeOff_37 ?_
    refine lv_icmp_ne (tgt := 50) hx hb dX11_takeOff_38 (by decide) (fun c1 => ?_) (fun c1 => ?_)
    · have hf := of_neg hf c1
      cases hf
      exact ret_v hx hb hr hlk hK hP hD hS dX11_takeOff_50
    · have hf := of_pos hf c1
      refine lv_aload_n hx hb dX11_takeOff_41 rfl (lv_at hl 0 rfl) ?_
      refine va_get (ci := 11) (v := .ref h3) (C := RX11) (T := TX11) (N := 51) hx hb ht0 iX11 hown hK hP 0 rfl rfl 26 (by decide) (ht0 _ wd_1432) (fun _ h9 => h9) rfl dX11_takeOff_42 ?_
      refine lv_iload_n hx hb dX11_takeOff_45 rfl (lv_at hl 3 rfl) ?_
      refine lv_iconst (v := (1 : Int32)) hx hb dX11_takeOff_46 (by decide) ?_
      refine lv_ixor hx hb dX11_takeOff_47 ?_
      refine lv_iconst (v := (0 : Int32)) hx hb dX11_takeOff_48 (by decide) ?_
      obtain ⟨g2, hf⟩ := of_grd hf
      refine va_zast hx hb hK hP hD hS 3 1 rfl rfl g2 dX11_takeOff_49 (fun H locs hP hD hS => ?_)
      have hP : va_P G.1 vwCl (wW_X11_takeOff G h0 h1 h2 h3 y0_0 y0_1 y0_2 y0_3 y0_4 y0_6 y0_18 y0_21 y0_23 y0_24 y0_33 y0_34 y0_38 y0_39 y0_40 y0_41 y0_42 y0_43 y0_45 y0_46 y0_47 y0_48 x0_5 x0_7 x0_8 x0_9 x0_10 x0_11 x0_12 x0_13 x0_14 x0_15 x0_16 x0_17 x0_19 x0_20 x0_27 x0_28 x0_29 x0_30 x0_31 x0_32 x0_35 x0_36 x0_37 x0_44 x0_49 x0_50 a1 a2_34 (upd a3_34 (u34_3 ^^^ (1 : Int32)).toNatClampNeg (vp_nar .boolean (0 : Int32)))) H := hP
      have hD : va_D A (wW_X11_takeOff G h0 h1 h2 h3 y0_0 y0_1 y0_2 y0_3 y0_4 y0_6 y0_18 y0_21 y0_23 y0_24 y0_33 y0_34 y0_38 y0_39 y0_40 y0_41 y0_42 y0_43 y0_45 y0_46 y0_47 y0_48 x0_5 x0_7 x0_8 x0_9 x0_10 x0_11 x0_12 x0_13 x0_14 x0_15 x0_16 x0_17 x0_19 x0_20 x0_27 x0_28 x0_29 x0_30 x0_31 x0_32 x0_35 x0_36 x0_37 x0_44 x0_49 x0_50 a1 a2_34 (upd a3_34 (u34_3 ^^^ (1 : Int32)).toNatClampNeg (vp_nar .boolean (0 : Int32)))) := hD
      cases hf
      exact ret_v hx hb hr hlk hK hP hD hS dX11_takeOff_50
  refine lv_aload_n hx hb dX11_takeOff_0 rfl (lv_at hl 0 rfl) ?_
  refine va_get (ci := 11) (v := .ref h1) (C := RX11) (T := TX11) (N := 51) hx hb ht0 iX11 hown hK hP 0 rfl rfl 22 (by decide) (ht0 _ wd_1428) (fun _ h9 => h9) rfl dX11_takeOff_1 ?_
  refine lv_iload_n hx hb dX11_takeOff_4 rfl (lv_at hl 1 rfl) ?_
  obtain ⟨g3, hf⟩ := of_grd hf
  refine va_iald hx hb hK hP 1 0 rfl rfl g3 dX11_takeOff_5 ?_
  refine lv_istore_n (lv' := [(3, .int (a1 b1.toNatClampNeg)), (0, .ref h0), (1, .int b1), (2, .int b2)]) hx hb dX11_takeOff_6 rfl hl (by decide) rfl (fun ls hl => ?_)
  refine lv_aload_n hx hb dX11_takeOff_7 rfl (lv_at hl 1 rfl) ?_
  refine va_get (ci := 11) (v := .ref h2) (C := RX11) (T := TX11) (N := 51) hx hb ht0 iX11 hown hK hP 0 rfl rfl 25 (by decide) (ht0 _ wd_1431) (fun _ h9 => h9) rfl dX11_takeOff_8 ?_
  refine lv_iload_n hx hb dX11_takeOff_11 rfl (lv_at hl 0 rfl) ?_
  refine lv_iconst (v := (0 : Int32)) hx hb dX11_takeOff_12 (by decide) ?_
  obtain ⟨g4, hf⟩ := of_grd hf
  refine va_zast hx hb hK hP hD hS 2 1 rfl rfl g4 dX11_takeOff_13 (fun H locs hP hD hS => ?_)
  have hP : va_P G.1 vwCl (wW_X11_takeOff G h0 h1 h2 h3 y0_0 y0_1 y0_2 y0_3 y0_4 y0_6 y0_18 y0_21 y0_23 y0_24 y0_33 y0_34 y0_38 y0_39 y0_40 y0_41 y0_42 y0_43 y0_45 y0_46 y0_47 y0_48 x0_5 x0_7 x0_8 x0_9 x0_10 x0_11 x0_12 x0_13 x0_14 x0_15 x0_16 x0_17 x0_19 x0_20 x0_27 x0_28 x0_29 x0_30 x0_31 x0_32 x0_35 x0_36 x0_37 x0_44 x0_49 x0_50 a1 (upd a2 (a1 b1.toNatClampNeg).toNatClampNeg (vp_nar .boolean (0 : Int32))) a3) H := hP
  have hD : va_D A (wW_X11_takeOff G h0 h1 h2 h3 y0_0 y0_1 y0_2 y0_3 y0_4 y0_6 y0_18 y0_21 y0_23 y0_24 y0_33 y0_34 y0_38 y0_39 y0_40 y0_41 y0_42 y0_43 y0_45 y0_46 y0_47 y0_48 x0_5 x0_7 x0_8 x0_9 x0_10 x0_11 x0_12 x0_13 x0_14 x0_15 x0_16 x0_17 x0_19 x0_20 x0_27 x0_28 x0_29 x0_30 x0_31 x0_32 x0_35 x0_36 x0_37 x0_44 x0_49 x0_50 a1 (upd a2 (a1 b1.toNatClampNeg).toNatClampNeg (vp_nar .boolean (0 : Int32))) a3) := hD
  refine lv_iload_n hx hb dX11_takeOff_14 rfl (lv_at hl 2 rfl) ?_
  refine lv_if_le (tgt := 34) hx hb dX11_takeOff_15 (by decide) (fun c5 => ?_) (fun c5 => ?_)
  · have hf := of_pos hf c5
    exact kJ34 _ _ _ _ _ hf _ _ hP hD hS _ (lv_sub hl [1, 2, 3, 0] rfl)
  · have hf := of_neg hf c5
    refine lv_aload_n hx hb dX11_takeOff_18 rfl (lv_at hl 1 rfl) ?_
    refine va_get (ci := 11) (v := .ref h3) (C := RX11) (T := TX11) (N := 51) hx hb ht0 iX11 hown hK hP 0 rfl rfl 26 (by decide) (ht0 _ wd_1432) (fun _ h9 => h9) rfl dX11_takeOff_19 ?_
    refine lv_iload_n hx hb dX11_takeOff_22 rfl (lv_at hl 0 rfl) ?_
    refine lv_aload_n hx hb dX11_takeOff_23 rfl (lv_at hl 1 rfl) ?_
    refine va_get (ci := 11) (v := .ref h1) (C := RX11) (T := TX11) (N := 51) hx hb ht0 iX11 hown hK hP 0 rfl rfl 22 (by decide) (ht0 _ wd_1428) (fun _ h9 => h9) rfl dX11_takeOff_24 ?_
    refine lv_iload_n hx hb dX11_takeOff_27 rfl (lv_at hl 2 rfl) ?_
    refine lv_iconst (v := (1 : Int32)) hx hb dX11_takeOff_28 (by decide) ?_
    refine lv_isub hx hb dX11_takeOff_29 ?_
    obtain ⟨g6, hf⟩ := of_grd hf
    refine va_iald hx hb hK hP 1 0 rfl rfl g6 dX11_takeOff_30 ?_
    refine lv_ixor hx hb dX11_takeOff_31 ?_
    refine lv_iconst (v := (0 : Int32)) hx hb dX11_takeOff_32 (by decide) ?_
    obtain ⟨g7, hf⟩ := of_grd hf
    refine va_zast hx hb hK hP hD hS 3 1 rfl rfl g7 dX11_takeOff_33 (fun H locs hP hD hS => ?_)
    have hP : va_P G.1 vwCl (wW_X11_takeOff G h0 h1 h2 h3 y0_0 y0_1 y0_2 y0_3 y0_4 y0_6 y0_18 y0_21 y0_23 y0_24 y0_33 y0_34 y0_38 y0_39 y0_40 y0_41 y0_42 y0_43 y0_45 y0_46 y0_47 y0_48 x0_5 x0_7 x0_8 x0_9 x0_10 x0_11 x0_12 x0_13 x0_14 x0_15 x0_16 x0_17 x0_19 x0_20 x0_27 x0_28 x0_29 x0_30 x0_31 x0_32 x0_35 x0_36 x0_37 x0_44 x0_49 x0_50 a1 (upd a2 (a1 b1.toNatClampNeg).toNatClampNeg (vp_nar .boolean (0 : Int32))) (upd a3 ((a1 b1.toNatClampNeg) ^^^ (a1 (b1 - (1 : Int32)).toNatClampNeg)).toNatClampNeg (vp_nar .boolean (0 : Int32)))) H := hP
    have hD : va_D A (wW_X11_takeOff G h0 h1 h2 h3 y0_0 y0_1 y0_2 y0_3 y0_4 y0_6 y0_18 y0_21 y0_23 y0_24 y0_33 y0_34 y0_38 y0_39 y0_40 y0_41 y0_42 y0_43 y0_45 y0_46 y0_47 y0_48 x0_5 x0_7 x0_8 x0_9 x0_10 x0_11 x0_12 x0_13 x0_14 x0_15 x0_16 x0_17 x0_19 x0_20 x0_27 x0_28 x0_29 x0_30 x0_31 x0_32 x0_35 x0_36 x0_37 x0_44 x0_49 x0_50 a1 (upd a2 (a1 b1.toNatClampNeg).toNatClampNeg (vp_nar .boolean (0 : Int32))) (upd a3 ((a1 b1.toNatClampNeg) ^^^ (a1 (b1 - (1 : Int32)).toNatClampNeg)).toNatClampNeg (vp_nar .boolean (0 : Int32)))) := hD
    exact kJ34 _ _ _ _ _ hf _ _ hP hD hS _ (lv_sub hl [1, 2, 3, 0] rfl)
theorem yk_X11_takeOff : ykV yX11_takeOff RX11 cX11_takeOff 4 none 2 := ⟨wd_1353, wd_58, wd_142, wd_1354, rfl, by decide +kernel, by decide +kernel, by decide +kernel⟩
