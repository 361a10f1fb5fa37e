theorem dX2_isTold_0 : decode cX2_isTold 0 = .ok (.aload_n 0, 1) := by decide +kernel
theorem dX2_isTold_1 : decode cX2_isTold 1 = .ok (.getfield 15, 3) := by decide +kernel
theorem dX2_isTold_4 : decode cX2_isTold 4 = .ok (.iconst 3, 1) := by decide +kernel
theorem dX2_isTold_5 : decode cX2_isTold 5 = .ok (.if_icmp .eq 11, 3) := by decide +kernel
theorem dX2_isTold_8 : decode cX2_isTold 8 = .ok (.aload_n 0, 1) := by decide +kernel
theorem dX2_isTold_9 : decode cX2_isTold 9 = .ok (.getfield 15, 3) := by decide +kernel
theorem dX2_isTold_12 : decode cX2_isTold 12 = .ok (.iconst 4, 1) := by decide +kernel
theorem dX2_isTold_13 : decode cX2_isTold 13 = .ok (.if_icmp .ne 7, 3) := by decide +kernel
theorem dX2_isTold_16 : decode cX2_isTold 16 = .ok (.iconst 1, 1) := by decide +kernel
theorem dX2_isTold_17 : decode cX2_isTold 17 = .ok (.goto 4, 3) := by decide +kernel
theorem dX2_isTold_20 : decode cX2_isTold 20 = .ok (.iconst 0, 1) := by decide +kernel
theorem dX2_isTold_21 : decode cX2_isTold 21 = .ok (.ireturn, 1) := by decide +kernel
def wW_X2_isTold (G : GG) (h0 : Nat) (x0_0 : Int32) (x0_1 : Int32) (x0_2 : Int32) : va_W := [(h0, .inr (2, [.int x0_0, .int x0_1, .int x0_2]))]
set_option maxHeartbeats 4000000 in
set_option maxRecDepth 100000 in
theorem c_X2_isTold (l : Launch) (G : GG) (h0 : Nat) (sz : Nat) (x0_0 : Int32) (x0_1 : Int32) (x0_2 : Int32) (F : Nat)   (r0 : Int32) (hf : p_X2_isTold F x0_0  = some r0) : Met l yX2_isTold (.code yX2_isTold cX2_isTold 1 (some .boolean) :: gtbl) ({ frames := 0, cells := 0, slots := 0, locals := 0 } : Room) (PcS G [.ref h0] (wW_X2_isTold G h0 x0_0 x0_1 x0_2) sz) (QiS G r0 (va_A (wW_X2_isTold G h0 x0_0 x0_1 x0_2) sz) (wW_X2_isTold G h0 x0_0 x0_1 x0_2)) 0 0 (va_A (wW_X2_isTold G h0 x0_0 x0_1 x0_2) sz) := by
  refine met_start (by decide) (Nat.le_of_ble_eq_true rfl) ?_
  intro p e s m below meth c hC hr hlk hnm hK hP hD hA hS hX ls hl
  obtain ⟨hx, hb, hml, hown, ht0⟩ := hC
  have hown : s.vm.findClass RX2 = some m.cls := hown
  generalize va_A (wW_X2_isTold G h0 x0_0 x0_1 x0_2) sz = A at hD hA hS hX ⊢
  have hl : lv_has ls 1 [(0, .ref h0)] := hl
  have hf : p_X2_isTold F x0_0  = some r0 := hf
  refine lv_aload_n hx hb dX2_isTold_0 rfl (lv_at hl 0 rfl) ?_
  refine va_get (ci := 2) (v := .int x0_0) (C := RX2) (T := TX2) (N := 3) hx hb ht0 iX2 hown hK hP 0 rfl rfl 0 (by decide) (ht0 _ wd_370) (fun _ h9 => h9) rfl dX2_isTold_1 ?_
  refine lv_iconst (v := (3 : Int32)) hx hb dX2_isTold_4 (by decide) ?_
  refine lv_icmp_eq (tgt := 16) hx hb dX2_isTold_5 (by decide) (fun c1 => ?_) (fun c1 => ?_)
  · have hf := of_pos hf c1
    refine lv_iconst (v := (1 : Int32)) hx hb dX2_isTold_16 (by decide) ?_
    refine lv_goto (tgt := 21) hx hb dX2_isTold_17 (by decide) ?_
    cases hf
    exact ret_z hx hb hr hlk hK hP hD hS (by decide) dX2_isTold_21
  · have hf := of_neg hf c1
    refine lv_aload_n hx hb dX2_isTold_8 rfl (lv_at hl 0 rfl) ?_
    refine va_get (ci := 2) (v := .int x0_0) (C := RX2) (T := TX2) (N := 3) hx hb ht0 iX2 hown hK hP 0 rfl rfl 0 (by decide) (ht0 _ wd_370) (fun _ h9 => h9) rfl dX2_isTold_9 ?_
    refine lv_iconst (v := (4 : Int32)) hx hb dX2_isTold_12 (by decide) ?_
    refine lv_icmp_ne (tgt := 20) hx hb dX2_isTold_13 (by decide) (fun c2 => ?_) (fun c2 => ?_)
    · have hf := of_neg hf c2
      refine lv_iconst (v := (0 : Int32)) hx hb dX2_isTold_20 (by decide) ?_
      cases hf
      exact ret_z hx hb hr hlk hK hP hD hS (by decide) dX2_isTold_21
    · have hf := of_pos hf c2
      refine lv_iconst (v := (1 : Int32)) hx hb dX2_isTold_16 (by decide) ?_
      refine lv_goto (tgt := 21) hx hb dX2_isTold_17 (by decide) ?_
      cases hf
      exact ret_z hx hb hr hlk hK hP hD hS (by decide) dX2_isTold_21
theorem yk_X2_isTold : ykV yX2_isTold RX2 cX2_isTold 1 (some .boolean) 0 := ⟨wd_851, wd_852, wd_135, wd_853, rfl, by decide +kernel, by decide +kernel, by decide +kernel⟩
theorem dX2_settle_0 : decode cX2_settle 0 = .ok (.aload_n 0, 1) := by decide +kernel
theorem dX2_settle_1 : decode cX2_settle 1 = .ok (.iload_n 1, 1) := by decide +kernel
theorem dX2_settle_2 : decode cX2_settle 2 = .ok (.putfield 15, 3) := by decide +kernel
theorem dX2_settle_5 : decode cX2_settle 5 = .ok (.aload_n 0, 1) := by decide +kernel
theorem dX2_settle_6 : decode cX2_settle 6 = .ok (.iload_n 2, 1) := by decide +kernel
theorem dX2_settle_7 : decode cX2_settle 7 = .ok (.putfield 9, 3) := by decide +kernel
theorem dX2_settle_10 : decode cX2_settle 10 = .ok (.aload_n 0, 1) := by decide +kernel
theorem dX2_settle_11 : decode cX2_settle 11 = .ok (.iload_n 3, 1) := by decide +kernel
theorem dX2_settle_12 : decode cX2_settle 12 = .ok (.putfield 54, 3) := by decide +kernel
theorem dX2_settle_15 : decode cX2_settle 15 = .ok (.iconst 1, 1) := by decide +kernel
theorem dX2_settle_16 : decode cX2_settle 16 = .ok (.ireturn, 1) := by decide +kernel
def wW_X2_settle (G : GG) (h0 : Nat) (x0_0 : Int32) (x0_1 : Int32) (x0_2 : Int32) : va_W := [(h0, .inr (2, [.int x0_0, .int x0_1, .int x0_2]))]
set_option maxHeartbeats 4000000 in
set_option maxRecDepth 100000 in
theorem c_X2_settle (l : Launch) (G : GG) (h0 : Nat) (sz : Nat) (x0_0 : Int32) (x0_1 : Int32) (x0_2 : Int32) (F : Nat) (b1 : Int32) (b2 : Int32) (b3 : Int32)  (r0 : Int32) (e_x0_0 : Int32) (e_x0_1 : Int32) (e_x0_2 : Int32) (hf : p_X2_settle F x0_0 x0_1 x0_2 b1 b2 b3 = some (r0, e_x0_0, e_x0_1, e_x0_2)) : Met l yX2_settle (.code yX2_settle cX2_settle 4 (some .boolean) :: gtbl) ({ frames := 0, cells := 0, slots := 0, locals := 0 } : Room) (PcS G [.ref h0, .int b1, .int b2, .int b3] (wW_X2_settle G h0 x0_0 x0_1 x0_2) sz) (QiS G r0 (va_A (wW_X2_settle G h0 x0_0 x0_1 x0_2) sz) (wW_X2_settle G h0 e_x0_0 e_x0_1 e_x0_2)) 0 0 (va_A (wW_X2_settle G h0 x0_0 x0_1 x0_2) sz) := by
  refine met_start (by decide) (Nat.le_of_ble_eq_true rfl) ?_
  intro p e s m below meth c hC hr hlk hnm hK hP hD hA hS hX ls hl
  obtain ⟨hx, hb, hml, hown, ht0⟩ := hC
  have hown : s.vm.findClass RX2 = some m.cls := hown
  generalize va_A (wW_X2_settle G h0 x0_0 x0_1 x0_2) sz = A at hD hA hS hX ⊢
  have hl : lv_has ls 4 [(0, .ref h0), (1, .int b1), (2, .int b2), (3, .int b3)] := hl
  have hf : p_X2_settle F x0_0 x0_1 x0_2 b1 b2 b3 = some (r0, e_x0_0, e_x0_1, e_x0_2) := hf
  refine lv_aload_n hx hb dX2_settle_0 rfl (lv_at hl 0 rfl) ?_
  refine lv_iload_n hx hb dX2_settle_1 rfl (lv_at hl 1 rfl) ?_
  refine va_put (ci := 2) (v := .int b1) (ty := .int) (C := RX2) (T := TX2) (N := 3) hx hb ht0 iX2 tyX2 tyX2_ok nmX2 hown hK hP hD hS 0 rfl rfl 0 (by decide) (ht0 _ wd_370) (fun _ h9 => h9) rfl rfl rfl rfl (Nat.le_of_ble_eq_true rfl) dX2_settle_2 (fun H locs hP hD hS => ?_)
  have hP : va_P G.1 vwCl (wW_X2_settle G h0 b1 x0_1 x0_2) H := hP
  have hD : va_D A (wW_X2_settle G h0 b1 x0_1 x0_2) := hD
  refine lv_aload_n hx hb dX2_settle_5 rfl (lv_at hl 0 rfl) ?_
  refine lv_iload_n hx hb dX2_settle_6 rfl (lv_at hl 2 rfl) ?_
  refine va_put (ci := 2) (v := .int b2) (ty := .int) (C := RX2) (T := TX2) (N := 3) hx hb ht0 iX2 tyX2 tyX2_ok nmX2 hown hK hP hD hS 0 rfl rfl 1 (by decide) (ht0 _ wd_373) (fun _ h9 => h9) rfl rfl rfl rfl (Nat.le_of_ble_eq_true rfl) dX2_settle_7 (fun H locs hP hD hS => ?_)
  have hP : va_P G.1 vwCl (wW_X2_settle G h0 b1 b2 x0_2) H := hP
  have hD : va_D A (wW_X2_settle G h0 b1 b2 x0_2) := hD
  refine lv_aload_n hx hb dX2_settle_10 rfl (lv_at hl 0 rfl) ?_
  refine lv_iload_n hx hb dX2_settle_11 rfl (lv_at hl 3 rfl) ?_
  refine va_put (ci := 2) (v := .int b3) (ty := .int) (C := RX2) (T := TX2) (N := 3) hx hb ht0 iX2 tyX2 tyX2_ok nmX2 hown hK hP hD hS 0 rfl rfl 2 (by decide) (ht0 _ wd_375) (fun _ h9 => h9) rfl rfl rfl rfl (Nat.le_of_ble_eq_true rfl) dX2_settle_12 (fun H locs hP hD hS => ?_)
  have hP : va_P G.1 vwCl (wW_X2_settle G h0 b1 b2 b3) H := hP
  have hD : va_D A (wW_X2_settle G h0 b1 b2 b3) := hD
  refine lv_iconst (v := (1 : Int32)) hx hb dX2_settle_15 (by decide) ?_
  cases hf
  exact ret_z hx hb hr hlk hK hP hD hS (by decide) dX2_settle_16
theorem yk_X2_settle : ykV yX2_settle RX2 cX2_settle 4 (some .boolean) 3 := ⟨wd_831, wd_25, wd_135, wd_832, rfl, by decide +kernel, by decide +kernel, by decide +kernel⟩
theorem dX10_lowestPlace_0 : decode cX10_lowestPlace 0 = .ok (.iconst 0, 1) := by decide +kernel
theorem dX10_lowestPlace_1 : decode cX10_lowestPlace 1 = .ok (.istore_n 1, 1) := by decide +kernel
theorem dX10_lowestPlace_2 : decode cX10_lowestPlace 2 = .ok (.iload_n 1, 1) := by decide +kernel
theorem dX10_lowestPlace_3 : decode cX10_lowestPlace 3 = .ok (.bipush 32, 2) := by decide +kernel
theorem dX10_lowestPlace_5 : decode cX10_lowestPlace 5 = .ok (.if_icmp .ge 20, 3) := by decide +kernel
theorem dX10_lowestPlace_8 : decode cX10_lowestPlace 8 = .ok (.iload_n 0, 1) := by decide +kernel
theorem dX10_lowestPlace_9 : decode cX10_lowestPlace 9 = .ok (.iload_n 1, 1) := by decide +kernel
theorem dX10_lowestPlace_10 : decode cX10_lowestPlace 10 = .ok (.iushr, 1) := by decide +kernel
theorem dX10_lowestPlace_11 : decode cX10_lowestPlace 11 = .ok (.iconst 1, 1) := by decide +kernel
theorem dX10_lowestPlace_12 : decode cX10_lowestPlace 12 = .ok (.iand, 1) := by decide +kernel
theorem dX10_lowestPlace_13 : decode cX10_lowestPlace 13 = .ok (.iconst 1, 1) := by decide +kernel
theorem dX10_lowestPlace_14 : decode cX10_lowestPlace 14 = .ok (.if_icmp .ne 5, 3) := by decide +kernel
theorem dX10_lowestPlace_17 : decode cX10_lowestPlace 17 = .ok (.iload_n 1, 1) := by decide +kernel
theorem dX10_lowestPlace_18 : decode cX10_lowestPlace 18 = .ok (.ireturn, 1) := by decide +kernel
theorem dX10_lowestPlace_19 : decode cX10_lowestPlace 19 = .ok (.iinc 1 1, 3) := by decide +kernel
theorem dX10_lowestPlace_22 : decode cX10_lowestPlace 22 = .ok (.goto (-20), 3) := by decide +kernel
theorem dX10_lowestPlace_25 : decode cX10_lowestPlace 25 = .ok (.iconst (-1), 1) := by decide +kernel
theorem dX10_lowestPlace_26 : decode cX10_lowestPlace 26 = .ok (.ireturn, 1) := by decide +kernel
set_option maxHeartbeats 4000000 in
set_option maxRecDepth 100000 in
theorem c_X10_lowestPlace (l : Launch) (G : GG) (sz : Nat)  (F : Nat) (b0 : Int32)  (r0 : Int32) (hf : p_X10_lowestPlace F b0 = some r0) : Met l yX10_lowestPlace (.code yX10_lowestPlace cX10_lowestPlace 2 (some .int) :: gtbl) ({ frames := 0, cells := 0, slots := 0, locals := 0 } : Room) (PcS G [.int b0] [] sz) (QiS G r0 (va_A [] sz) []) 0 0 (va_A [] sz) := by
  refine met_start (by decide) (Nat.le_of_ble_eq_true rfl) ?_
  intro p e s m below meth c hC hr hlk hnm hK hP hD hA hS hX ls hl
  obtain ⟨hx, hb, hml, hown, ht0⟩ := hC
  have hown : s.vm.findClass RX10 = some m.cls := hown
  generalize va_A [] sz = A at hD hA hS hX ⊢
  have hl : lv_has ls 2 [(0, .int b0)] := hl
  have hf : p_X10_lowestPlace F b0 = some r0 := hf
  have kL2 : ∀ (c2_0 : Int32) (n2 : Nat) (u2_1 : Int32), p_X10_lowestPlace_L2 F c2_0 n2 u2_1 = some r0 → ∀ (H : Heap) (locs : List Loc), va_P G.1 vwCl [] H → va_D A [] → va_S A s.heap H locs → ∀ ls : Array Slot, lv_has ls 2 [(0, .int c2_0), (1, .int u2_1)] → W p l e ({ frames := 0, cells := 0, slots := 0, locals := 0 } : Room) s m (List.toArray [.int b0]) below meth c H locs 0 0 (MQ below (QiS G r0 A []) (List.toArray [.int b0]) s 0 0 A) (F0 m 2 ls []) := by
    intro c2_0 n2
    induction n2 with
    | zero =>
      intro u2_1 hf
      cases hf
    | succ n2 ih2 =>
      intro u2_1 hf H locs hP hD hS ls hl
      have hf : p_X10_lowestPlace_L2b F c2_0 (p_X10_lowestPlace_L2 F c2_0 n2) u2_1 = some r0 := hf
      refine lv_iload_n hx hb dX10_lowestPlace_2 rfl (lv_at hl 1 rfl) ?_
      refine lv_bipush (v := (32 : Int32)) hx hb dX10_lowestPlace_3 (by decide) ?_
      refine lv_icmp_ge (tgt := 25) hx hb dX10_lowestPlace_5 (by decide) (fun c1 => ?_) (fun c1 => ?_)
      · have hf := of_pos hf c1
        refine lv_iconst (v := (-1 : Int32)) hx hb dX10_lowestPlace_25 (by decide) ?_
        cases hf
        exact ret_i hx hb hr hlk hK hP hD hS dX10_lowestPlace_26
      · have hf := of_neg hf c1
        refine lv_iload_n hx hb dX10_lowestPlace_8 rfl (lv_at hl 0 rfl) ?_
        refine lv_iload_n hx hb dX10_lowestPlace_9 rfl (lv_at hl 1 rfl) ?_
        refine lv_iushr (v := jushr c2_0 u2_1) hx hb dX10_lowestPlace_10 rfl ?_
        refine lv_iconst (v := (1 : Int32)) hx hb dX10_lowestPlace_11 (by decide) ?_
        refine lv_iand hx hb dX10_lowestPlace_12 ?_
        refine lv_iconst (v := (1 : Int32)) hx hb dX10_lowestPlace_13 (by decide) ?_
        refine lv_icmp_ne (tgt := 19) hx hb dX10_lowestPlace_14 (by decide) (fun c2 => ?_) (fun c2 => ?_)
        · have hf := of_neg hf c2
          refine lv_iinc (v := u2_1 + (1 : Int32)) (lv' := [(1, .int (u2_1 + (1 : Int32))), (0, .int c2_0)]) hx hb dX10_lowestPlace_19 hl (k := 1) rfl (by rfl) (by decide) rfl (fun ls hl => ?_)
          refine lv_goto (tgt := 2) hx hb dX10_lowestPlace_22 (by decide) ?_
          exact ih2 _ hf _ _ hP hD hS _ (lv_sub hl [1, 0] rfl)
        · have hf := of_pos hf c2
          refine lv_iload_n hx hb dX10_lowestPlace_17 rfl (lv_at hl 1 rfl) ?_
          cases hf
          exact ret_i hx hb hr hlk hK hP hD hS dX10_lowestPlace_18
  refine lv_iconst (v := (0 : Int32)) hx hb dX10_lowestPlace_0 (by decide) ?_
  refine lv_istore_n (lv' := [(1, .int (0 : Int32)), (0, .int b0)]) hx hb dX10_lowestPlace_1 rfl hl (by decide) rfl (fun ls hl => ?_)
  exact kL2 _ _ _ hf _ _ hP hD hS _ (lv_sub hl [1, 0] rfl)
theorem yk_X10_lowestPlace : ykS yX10_lowestPlace cX10_lowestPlace 2 (some .int) 1 := ⟨wd_835, wd_127, wd_836, by decide +kernel, by decide +kernel, by decide +kernel⟩
theorem dX2_readByStuck_0 : decode cX2_readByStuck 0 = .ok (.iload_n 3, 1) := by decide +kernel
theorem dX2_readByStuck_1 : decode cX2_readByStuck 1 = .ok (.invokestatic 28, 3) := by decide +kernel
theorem dX2_readByStuck_4 : decode cX2_readByStuck 4 = .ok (.istore 4, 2) := by decide +kernel
theorem dX2_readByStuck_6 : decode cX2_readByStuck 6 = .ok (.iload 4, 2) := by decide +kernel
theorem dX2_readByStuck_8 : decode cX2_readByStuck 8 = .ok (.iconst (-1), 1) := by decide +kernel
theorem dX2_readByStuck_9 : decode cX2_readByStuck 9 = .ok (.if_icmp .ne 5, 3) := by decide +kernel
theorem dX2_readByStuck_12 : decode cX2_readByStuck 12 = .ok (.iconst 0, 1) := by decide +kernel
theorem dX2_readByStuck_13 : decode cX2_readByStuck 13 = .ok (.ireturn, 1) := by decide +kernel
theorem dX2_readByStuck_14 : decode cX2_readByStuck 14 = .ok (.aload_n 1, 1) := by decide +kernel
theorem dX2_readByStuck_15 : decode cX2_readByStuck 15 = .ok (.getfield 50, 3) := by decide +kernel
theorem dX2_readByStuck_18 : decode cX2_readByStuck 18 = .ok (.iload 4, 2) := by decide +kernel
theorem dX2_readByStuck_20 : decode cX2_readByStuck 20 = .ok (.iaload, 1) := by decide +kernel
theorem dX2_readByStuck_21 : decode cX2_readByStuck 21 = .ok (.istore 5, 2) := by decide +kernel
theorem dX2_readByStuck_23 : decode cX2_readByStuck 23 = .ok (.iload_n 2, 1) := by decide +kernel
theorem dX2_readByStuck_24 : decode cX2_readByStuck 24 = .ok (.iload 5, 2) := by decide +kernel
theorem dX2_readByStuck_26 : decode cX2_readByStuck 26 = .ok (.if_icmp .ne 14, 3) := by decide +kernel
theorem dX2_readByStuck_29 : decode cX2_readByStuck 29 = .ok (.aload_n 0, 1) := by decide +kernel
theorem dX2_readByStuck_30 : decode cX2_readByStuck 30 = .ok (.iconst 5, 1) := by decide +kernel
theorem dX2_readByStuck_31 : decode cX2_readByStuck 31 = .ok (.iconst (-1), 1) := by decide +kernel
theorem dX2_readByStuck_32 : decode cX2_readByStuck 32 = .ok (.iconst 1, 1) := by decide +kernel
theorem dX2_readByStuck_33 : decode cX2_readByStuck 33 = .ok (.iload 4, 2) := by decide +kernel
theorem dX2_readByStuck_35 : decode cX2_readByStuck 35 = .ok (.ishl, 1) := by decide +kernel
theorem dX2_readByStuck_36 : decode cX2_readByStuck 36 = .ok (.invokevirtual 18, 3) := by decide +kernel
theorem dX2_readByStuck_39 : decode cX2_readByStuck 39 = .ok (.ireturn, 1) := by decide +kernel
theorem dX2_readByStuck_40 : decode cX2_readByStuck 40 = .ok (.iload_n 3, 1) := by decide +kernel
theorem dX2_readByStuck_41 : decode cX2_readByStuck 41 = .ok (.iconst 1, 1) := by decide +kernel
theorem dX2_readByStuck_42 : decode cX2_readByStuck 42 = .ok (.iload 4, 2) := by decide +kernel
theorem dX2_readByStuck_44 : decode cX2_readByStuck 44 = .ok (.ishl, 1) := by decide +kernel
theorem dX2_readByStuck_45 : decode cX2_readByStuck 45 = .ok (.iconst (-1), 1) := by decide +kernel
theorem dX2_readByStuck_46 : decode cX2_readByStuck 46 = .ok (.ixor, 1) := by decide +kernel
theorem dX2_readByStuck_47 : decode cX2_readByStuck 47 = .ok (.iand, 1) := by decide +kernel
theorem dX2_readByStuck_48 : decode cX2_readByStuck 48 = .ok (.invokestatic 28, 3) := by decide +kernel
theorem dX2_readByStuck_51 : decode cX2_readByStuck 51 = .ok (.istore 6, 2) := by decide +kernel
theorem dX2_readByStuck_53 : decode cX2_readByStuck 53 = .ok (.iload 6, 2) := by decide +kernel
theorem dX2_readByStuck_55 : decode cX2_readByStuck 55 = .ok (.iconst (-1), 1) := by decide +kernel
theorem dX2_readByStuck_56 : decode cX2_readByStuck 56 = .ok (.if_icmp .ne 5, 3) := by decide +kernel
theorem dX2_readByStuck_59 : decode cX2_readByStuck 59 = .ok (.iconst 0, 1) := by decide +kernel
theorem dX2_readByStuck_60 : decode cX2_readByStuck 60 = .ok (.ireturn, 1) := by decide +kernel
theorem dX2_readByStuck_61 : decode cX2_readByStuck 61 = .ok (.aload_n 1, 1) := by decide +kernel
theorem dX2_readByStuck_62 : decode cX2_readByStuck 62 = .ok (.getfield 50, 3) := by decide +kernel
theorem dX2_readByStuck_65 : decode cX2_readByStuck 65 = .ok (.iload 6, 2) := by decide +kernel
theorem dX2_readByStuck_67 : decode cX2_readByStuck 67 = .ok (.iaload, 1) := by decide +kernel
theorem dX2_readByStuck_68 : decode cX2_readByStuck 68 = .ok (.istore 7, 2) := by decide +kernel
theorem dX2_readByStuck_70 : decode cX2_readByStuck 70 = .ok (.iload_n 2, 1) := by decide +kernel
theorem dX2_readByStuck_71 : decode cX2_readByStuck 71 = .ok (.iload 7, 2) := by decide +kernel
theorem dX2_readByStuck_73 : decode cX2_readByStuck 73 = .ok (.if_icmp .ne 14, 3) := by decide +kernel
theorem dX2_readByStuck_76 : decode cX2_readByStuck 76 = .ok (.aload_n 0, 1) := by decide +kernel
theorem dX2_readByStuck_77 : decode cX2_readByStuck 77 = .ok (.iconst 5, 1) := by decide +kernel
theorem dX2_readByStuck_78 : decode cX2_readByStuck 78 = .ok (.iconst (-1), 1) := by decide +kernel
theorem dX2_readByStuck_79 : decode cX2_readByStuck 79 = .ok (.iconst 1, 1) := by decide +kernel
theorem dX2_readByStuck_80 : decode cX2_readByStuck 80 = .ok (.iload 6, 2) := by decide +kernel
theorem dX2_readByStuck_82 : decode cX2_readByStuck 82 = .ok (.ishl, 1) := by decide +kernel
theorem dX2_readByStuck_83 : decode cX2_readByStuck 83 = .ok (.invokevirtual 18, 3) := by decide +kernel
theorem dX2_readByStuck_86 : decode cX2_readByStuck 86 = .ok (.ireturn, 1) := by decide +kernel
theorem dX2_readByStuck_87 : decode cX2_readByStuck 87 = .ok (.iload_n 2, 1) := by decide +kernel
theorem dX2_readByStuck_88 : decode cX2_readByStuck 88 = .ok (.iload 5, 2) := by decide +kernel
theorem dX2_readByStuck_90 : decode cX2_readByStuck 90 = .ok (.iload 7, 2) := by decide +kernel
theorem dX2_readByStuck_92 : decode cX2_readByStuck 92 = .ok (.ixor, 1) := by decide +kernel
theorem dX2_readByStuck_93 : decode cX2_readByStuck 93 = .ok (.if_icmp .ne 17, 3) := by decide +kernel
theorem dX2_readByStuck_96 : decode cX2_readByStuck 96 = .ok (.aload_n 0, 1) := by decide +kernel
theorem dX2_readByStuck_97 : decode cX2_readByStuck 97 = .ok (.iconst 5, 1) := by decide +kernel
theorem dX2_readByStuck_98 : decode cX2_readByStuck 98 = .ok (.iconst (-1), 1) := by decide +kernel
theorem dX2_readByStuck_99 : decode cX2_readByStuck 99 = .ok (.iload_n 3, 1) := by decide +kernel
theorem dX2_readByStuck_100 : decode cX2_readByStuck 100 = .ok (.invokevirtual 18, 3) := by decide +kernel
theorem dX2_readByStuck_103 : decode cX2_readByStuck 103 = .ok (.ifCond .eq 7, 3) := by decide +kernel
theorem dX2_readByStuck_106 : decode cX2_readByStuck 106 = .ok (.iconst 1, 1) := by decide +kernel
theorem dX2_readByStuck_107 : decode cX2_readByStuck 107 = .ok (.goto 4, 3) := by decide +kernel
theorem dX2_readByStuck_110 : decode cX2_readByStuck 110 = .ok (.iconst 0, 1) := by decide +kernel
theorem dX2_readByStuck_111 : decode cX2_readByStuck 111 = .ok (.ireturn, 1) := by decide +kernel
def wW_X2_readByStuck (G : GG) (h0 h1 h2 y1_4 y1_5 : Nat) (x0_0 : Int32) (x0_1 : Int32) (x0_2 : Int32) (x1_0 : Int32) (x1_1 : Int32) (x1_2 : Int32) (a2 : Nat → Int32) : va_W := [(h0, .inr (2, [.int x0_0, .int x0_1, .int x0_2])), (h1, .inr (1, [.int x1_0, .int x1_1, .int x1_2, .ref h2, .ref y1_4, .ref y1_5])), (h2, .inl (G.2.1, 32, .inl a2))]
set_option maxHeartbeats 4000000 in
set_option maxRecDepth 100000 in
theorem c_X2_readByStuck (l : Launch) (G : GG) (h0 h1 h2 y1_4 y1_5 : Nat) (sz : Nat) (x0_0 : Int32) (x0_1 : Int32) (x0_2 : Int32) (x1_0 : Int32) (x1_1 : Int32) (x1_2 : Int32) (a2 : Nat → Int32) (F : Nat) (b2 : Int32) (b3 : Int32)  (r0 : Int32) (e_x0_0 : Int32) (e_x0_1 : Int32) (e_x0_2 : Int32) (hf : p_X2_readByStuck F x0_0 x0_1 x0_2 a2 b2 b3 = some (r0, e_x0_0, e_x0_1, e_x0_2)) : Met l yX2_readByStuck (.code yX2_readByStuck cX2_readByStuck 8 (some .boolean) :: gtbl) ({ frames := 1, cells := 0, slots := 0, locals := 23 } : Room) (PcS G [.ref h0, .ref h1, .int b2, .int b3] (wW_X2_readByStuck G h0 h1 h2 y1_4 y1_5 x0_0 x0_1 x0_2 x1_0 x1_1 x1_2 a2) sz) (QiS G r0 (va_A (wW_X2_readByStuck G h0 h1 h2 y1_4 y1_5 x0_0 x0_1 x0_2 x1_0 x1_1 x1_2 a2) sz) (wW_X2_readByStuck G h0 h1 h2 y1_4 y1_5 e_x0_0 e_x0_1 e_x0_2 x1_0 x1_1 x1_2 a2)) 0 0 (va_A (wW_X2_readByStuck G h0 h1 h2 y1_4 y1_5 x0_0 x0_1 x0_2 x1_0 x1_1 x1_2 a2) sz) := by
  refine met_start (by decide) (Nat.le_of_ble_eq_true rfl) ?_
  intro p e s m below meth c hC hr hlk hnm hK hP hD hA hS hX ls hl
  obtain ⟨hx, hb, hml, hown, ht0⟩ := hC
  have hown : s.vm.findClass RX2 = some m.cls := hown
  generalize va_A (wW_X2_readByStuck G h0 h1 h2 y1_4 y1_5 x0_0 x0_1 x0_2 x1_0 x1_1 x1_2 a2) sz = A at hD hA hS hX ⊢
  have hl : lv_has ls 8 [(0, .ref h0), (1, .ref h1), (2, .int b2), (3, .int b3)] := hl
  have hf : p_X2_readByStuck F x0_0 x0_1 x0_2 a2 b2 b3 = some (r0, e_x0_0, e_x0_1, e_x0_2) := hf
  refine lv_iload_n hx hb dX2_readByStuck_0 rfl (lv_at hl 3 rfl) ?_
  obtain ⟨r_1_0, hc_r_1_0, hf⟩ := of_bnd hf
  refine cl_SNi (w2 := (wW_X2_readByStuck G h0 h1 h2 y1_4 y1_5 x0_0 x0_1 x0_2 x1_0 x1_1 x1_2 a2)) (As := [.int b3]) (rest := []) ⟨hx, hb, hml, hown, ht0⟩ (c_X10_lowestPlace l G _ F b3 _ hc_r_1_0) yk_X10_lowestPlace (List.mem_of_getElem? (i := 15) rfl) ⟨rfl, rfl, by decide, by decide⟩ ⟨Nat.le_refl _, Nat.le_refl _⟩ hX hK hP hD hS hA [] [0, 1, 2] [0, 1, 2] rfl rfl (by decide) rfl rfl rfl rfl rfl hl.1 rfl (Nat.le_of_ble_eq_true rfl) dX2_readByStuck_1 (fun H locs hP hD hS => ?_)
  refine lv_istore (lv' := [(4, .int r_1_0), (0, .ref h0), (1, .ref h1), (2, .int b2), (3, .int b3)]) hx hb dX2_readByStuck_4 hl (by decide) rfl (fun ls hl => ?_)
  refine lv_iload hx hb dX2_readByStuck_6 (lv_at hl 0 rfl) ?_
  refine lv_iconst (v := (-1 : Int32)) hx hb dX2_readByStuck_8 (by decide) ?_
  refine lv_icmp_ne (tgt := 14) hx hb dX2_readByStuck_9 (by decide) (fun c2 => ?_) (fun c2 => ?_)
  · have hf := of_neg hf c2
    refine lv_aload_n hx hb dX2_readByStuck_14 rfl (lv_at hl 2 rfl) ?_
    refine va_get (ci := 1) (v := .ref h2) (C := RX1) (T := TX1) (N := 6) hx hb ht0 iX1 hown hK hP 1 rfl rfl 3 (by decide) (ht0 _ wd_229) (fun _ h9 => h9) rfl dX2_readByStuck_15 ?_
    refine lv_iload hx hb dX2_readByStuck_18 (lv_at hl 0 rfl) ?_
    obtain ⟨g3, hf⟩ := of_grd hf
    refine va_iald hx hb hK hP 2 0 rfl rfl g3 dX2_readByStuck_20 ?_
    refine lv_istore (lv' := [(5, .int (a2 r_1_0.toNatClampNeg)), (4, .int r_1_0), (0, .ref h0), (1, .ref h1), (2, .int b2), (3, .int b3)]) hx hb dX2_readByStuck_21 hl (by decide) rfl (fun ls hl => ?_)
    refine lv_iload_n hx hb dX2_readByStuck_23 rfl (lv_at hl 4 rfl) ?_
    refine lv_iload hx hb dX2_readByStuck_24 (lv_at hl 0 rfl) ?_
    refine lv_icmp_ne (tgt := 40) hx hb dX2_readByStuck_26 (by decide) (fun c4 => ?_) (fun c4 => ?_)
    · have hf := of_neg hf c4
      refine lv_iload_n hx hb dX2_readByStuck_40 rfl (lv_at hl 5 rfl) ?_
      refine lv_iconst (v := (1 : Int32)) hx hb dX2_readByStuck_41 (by decide) ?_
      refine lv_iload hx hb dX2_readByStuck_42 (lv_at hl 1 rfl) ?_
      refine lv_ishl hx hb dX2_readByStuck_44 ?_
      refine lv_iconst (v := (-1 : Int32)) hx hb dX2_readByStuck_45 (by decide) ?_
      refine lv_ixor hx hb dX2_readByStuck_46 ?_
      refine lv_iand hx hb dX2_readByStuck_47 ?_
      obtain ⟨r_48_4, hc_r_48_4, hf⟩ := of_bnd hf
      refine cl_SNi (w2 := (wW_X2_readByStuck G h0 h1 h2 y1_4 y1_5 x0_0 x0_1 x0_2 x1_0 x1_1 x1_2 a2)) (As := [.int (b3 &&& (((1 : Int32) <<< (r_1_0 &&& 31)) ^^^ (-1 : Int32)))]) (rest := []) ⟨hx, hb, hml, hown, ht0⟩ (c_X10_lowestPlace l G _ F (b3 &&& (((1 : Int32) <<< (r_1_0 &&& 31)) ^^^ (-1 : Int32))) _ hc_r_48_4) yk_X10_lowestPlace (List.mem_of_getElem? (i := 15) rfl) ⟨rfl, rfl, by decide, by decide⟩ ⟨Nat.le_refl _, Nat.le_refl _⟩ hX hK hP hD hS hA [] [0, 1, 2] [0, 1, 2] rfl rfl (by decide) rfl rfl rfl rfl rfl hl.1 rfl (Nat.le_of_ble_eq_true rfl) dX2_readByStuck_48 (fun H locs hP hD hS => ?_)
      refine lv_istore (lv' := [(6, .int r_48_4), (5, .int (a2 r_1_0.toNatClampNeg)), (4, .int r_1_0), (0, .ref h0), (1, .ref h1), (2, .int b2), (3, .int b3)]) hx hb dX2_readByStuck_51 hl (by decide) rfl (fun ls hl => ?_)
      refine lv_iload hx hb dX2_readByStuck_53 (lv_at hl 0 rfl) ?_
      refine lv_iconst (v := (-1 : Int32)) hx hb dX2_readByStuck_55 (by decide) ?_
      refine lv_icmp_ne (tgt := 61) hx hb dX2_readByStuck_56 (by decide) (fun c6 => ?_) (fun c6 => ?_)
      · have hf := of_neg hf c6
        refine lv_aload_n hx hb dX2_readByStuck_61 rfl (lv_at hl 4 rfl) ?_
        refine va_get (ci := 1) (v := .ref h2) (C := RX1) (T := TX1) (N := 6) hx hb ht0 iX1 hown hK hP 1 rfl rfl 3 (by decide) (ht0 _ wd_229) (fun _ h9 => h9) rfl dX2_readByStuck_62 ?_
        refine lv_iload hx hb dX2_readByStuck_65 (lv_at hl 0 rfl) ?_
        obtain ⟨g7, hf⟩ := of_grd hf
        refine va_iald hx hb hK hP 2 0 rfl rfl g7 dX2_readByStuck_67 ?_
        refine lv_istore (lv' := [(7, .int (a2 r_48_4.toNatClampNeg)), (6, .int r_48_4), (5, .int (a2 r_1_0.toNatClampNeg)), (4, .int r_1_0), (0, .ref h0), (1, .ref h1), (2, .int b2), (3, .int b3)]) hx hb dX2_readByStuck_68 hl (by decide) rfl (fun ls hl => ?_)
        refine lv_iload_n hx hb dX2_readByStuck_70 rfl (lv_at hl 6 rfl) ?_
        refine lv_iload hx hb dX2_readByStuck_71 (lv_at hl 0 rfl) ?_
        refine lv_icmp_ne (tgt := 87) hx hb dX2_readByStuck_73 (by decide) (fun c8 => ?_) (fun c8 => ?_)
        · have hf := of_neg hf c8
          refine lv_iload_n hx hb dX2_readByStuck_87 rfl (lv_at hl 6 rfl) ?_
          refine lv_iload hx hb dX2_readByStuck_88 (lv_at hl 2 rfl) ?_
          refine lv_iload hx hb dX2_readByStuck_90 (lv_at hl 0 rfl) ?_
          refine lv_ixor hx hb dX2_readByStuck_92 ?_
          refine lv_icmp_ne (tgt := 110) hx hb dX2_readByStuck_93 (by decide) (fun c9 => ?_) (fun c9 => ?_)
          · have hf := of_neg hf c9
            refine lv_iconst (v := (0 : Int32)) hx hb dX2_readByStuck_110 (by decide) ?_
            cases hf
            exact ret_z hx hb hr hlk hK hP hD hS (by decide) dX2_readByStuck_111
          · have hf := of_pos hf c9
            refine lv_aload_n hx hb dX2_readByStuck_96 rfl (lv_at hl 4 rfl) ?_
            refine lv_iconst (v := (5 : Int32)) hx hb dX2_readByStuck_97 (by decide) ?_
            refine lv_iconst (v := (-1 : Int32)) hx hb dX2_readByStuck_98 (by decide) ?_
            refine lv_iload_n hx hb dX2_readByStuck_99 rfl (lv_at hl 7 rfl) ?_
            obtain ⟨⟨r_100_9, r_100_9_x0_0, r_100_9_x0_1, r_100_9_x0_2⟩, hc_r_100_9, hf⟩ := of_bnd hf
            refine cl_Vi (w2 := (wW_X2_readByStuck G h0 h1 h2 y1_4 y1_5 r_100_9_x0_0 r_100_9_x0_1 r_100_9_x0_2 x1_0 x1_1 x1_2 a2)) (As := [.int (5 : Int32), .int (-1 : Int32), .int b3]) (rest := []) ⟨hx, hb, hml, hown, ht0⟩ (c_X2_settle l G h0 _ x0_0 x0_1 x0_2 F (5 : Int32) (-1 : Int32) b3 _ _ _ _ hc_r_100_9) yk_X2_settle wd_829 ⟨rfl, rfl, by decide, by decide⟩ ⟨Nat.le_refl _, Nat.le_refl _⟩ hX hK hP hD hS hA [0] [1, 2] [2, 0, 1] (va_recv hK hP (ci := 2) (q0 := 0) rfl rfl) rfl rfl (by decide) rfl rfl rfl rfl rfl hl.1 rfl (Nat.le_of_ble_eq_true rfl) dX2_readByStuck_100 (fun H locs hP hD hS => ?_)
            refine lv_if_eq (tgt := 110) hx hb dX2_readByStuck_103 (by decide) (fun c11 => ?_) (fun c11 => ?_)
            · have hf := of_pos hf c11
              refine lv_iconst (v := (0 : Int32)) hx hb dX2_readByStuck_110 (by decide) ?_
              cases hf
              exact ret_z hx hb hr hlk hK hP hD hS (by decide) dX2_readByStuck_111
            · have hf := of_neg hf c11
              refine lv_iconst (v := (1 : Int32)) hx hb dX2_readByStuck_106 (by decide) ?_
              refine lv_goto (tgt := 111) hx hb dX2_readByStuck_107 (by decide) ?_
              cases hf
              exact ret_z hx hb hr hlk hK hP hD hS (by decide) dX2_readByStuck_111
        · have hf := of_pos hf c8
          refine lv_aload_n hx hb dX2_readByStuck_76 rfl (lv_at hl 4 rfl) ?_
          refine lv_iconst (v := (5 : Int32)) hx hb dX2_readByStuck_77 (by decide) ?_
          refine lv_iconst (v := (-1 : Int32)) hx hb dX2_readByStuck_78 (by decide) ?_
          refine lv_iconst (v := (1 : Int32)) hx hb dX2_readByStuck_79 (by decide) ?_
          refine lv_iload hx hb dX2_readByStuck_80 (lv_at hl 1 rfl) ?_
          refine lv_ishl hx hb dX2_readByStuck_82 ?_
          obtain ⟨⟨r_83_11, r_83_11_x0_0, r_83_11_x0_1, r_83_11_x0_2⟩, hc_r_83_11, hf⟩ := of_bnd hf
          refine cl_Vi (w2 := (wW_X2_readByStuck G h0 h1 h2 y1_4 y1_5 r_83_11_x0_0 r_83_11_x0_1 r_83_11_x0_2 x1_0 x1_1 x1_2 a2)) (As := [.int (5 : Int32), .int (-1 : Int32), .int ((1 : Int32) <<< (r_48_4 &&& 31))]) (rest := []) ⟨hx, hb, hml, hown, ht0⟩ (c_X2_settle l G h0 _ x0_0 x0_1 x0_2 F (5 : Int32) (-1 : Int32) ((1 : Int32) <<< (r_48_4 &&& 31)) _ _ _ _ hc_r_83_11) yk_X2_settle wd_829 ⟨rfl, rfl, by decide, by decide⟩ ⟨Nat.le_refl _, Nat.le_refl _⟩ hX hK hP hD hS hA [0] [1, 2] [2, 0, 1] (va_recv hK hP (ci := 2) (q0 := 0) rfl rfl) rfl rfl (by decide) rfl rfl rfl rfl rfl hl.1 rfl (Nat.le_of_ble_eq_true rfl) dX2_readByStuck_83 (fun H locs hP hD hS => ?_)
          obtain ⟨g13, hf⟩ := of_grd hf
          have g13 := Decidable.not_not.mp g13
          cases hf
          exact ret_z hx hb hr hlk hK hP hD hS g13 dX2_readByStuck_86
      · have hf := of_pos hf c6
        refine lv_iconst (v := (0 : Int32)) hx hb dX2_readByStuck_59 (by decide) ?_
        cases hf
        exact ret_z hx hb hr hlk hK hP hD hS (by decide) dX2_readByStuck_60
    · have hf := of_pos hf c4
      refine lv_aload_n hx hb dX2_readByStuck_29 rfl (lv_at hl 2 rfl) ?_
      refine lv_iconst (v := (5 : Int32)) hx hb dX2_readByStuck_30 (by decide) ?_
      refine lv_iconst (v := (-1 : Int32)) hx hb dX2_readByStuck_31 (by decide) ?_
      refine lv_iconst (v := (1 : Int32)) hx hb dX2_readByStuck_32 (by decide) ?_
      refine lv_iload hx hb dX2_readByStuck_33 (lv_at hl 1 rfl) ?_
      refine lv_ishl hx hb dX2_readByStuck_35 ?_
      obtain ⟨⟨r_36_13, r_36_13_x0_0, r_36_13_x0_1, r_36_13_x0_2⟩, hc_r_36_13, hf⟩ := of_bnd hf
      refine cl_Vi (w2 := (wW_X2_readByStuck G h0 h1 h2 y1_4 y1_5 r_36_13_x0_0 r_36_13_x0_1 r_36_13_x0_2 x1_0 x1_1 x1_2 a2)) (As := [.int (5 : Int32), .int (-1 : Int32), .int ((1 : Int32) <<< (r_1_0 &&& 31))]) (rest := []) ⟨hx, hb, hml, hown, ht0⟩ (c_X2_settle l G h0 _ x0_0 x0_1 x0_2 F (5 : Int32) (-1 : Int32) ((1 : Int32) <<< (r_1_0 &&& 31)) _ _ _ _ hc_r_36_13) yk_X2_settle wd_829 ⟨rfl, rfl, by decide, by decide⟩ ⟨Nat.le_refl _, Nat.le_refl _⟩ hX hK hP hD hS hA [0] [1, 2] [2, 0, 1] (va_recv hK hP (ci := 2) (q0 := 0) rfl rfl) rfl rfl (by decide) rfl rfl rfl rfl rfl hl.1 rfl (Nat.le_of_ble_eq_true rfl) dX2_readByStuck_36 (fun H locs hP hD hS => ?_)
      obtain ⟨g15, hf⟩ := of_grd hf
      have g15 := Decidable.not_not.mp g15
      cases hf
      exact ret_z hx hb hr hlk hK hP hD hS g15 dX2_readByStuck_39
  · have hf := of_pos hf c2
    refine lv_iconst (v := (0 : Int32)) hx hb dX2_readByStuck_12 (by decide) ?_
    cases hf
    exact ret_z hx hb hr hlk hK hP hD hS (by decide) dX2_readByStuck_13
theorem yk_X2_readByStuck : ykV yX2_readByStuck RX2 cX2_readByStuck 8 (some .boolean) 3 := ⟨wd_839, wd_26, wd_135, wd_840, rfl, by decide +kernel, by decide +kernel, by decide +kernel⟩
theorem dX2_readBesideStuck_0 : decode cX2_readBesideStuck 0 = .ok (.aload_n 1, 1) := by decide +kernel
theorem dX2_readBesideStuck_1 : decode cX2_readBesideStuck 1 = .ok (.iload_n 2, 1) := by decide +kernel
theorem dX2_readBesideStuck_2 : decode cX2_readBesideStuck 2 = .ok (.invokevirtual 38, 3) := by decide +kernel
theorem dX2_readBesideStuck_5 : decode cX2_readBesideStuck 5 = .ok (.istore 4, 2) := by decide +kernel
theorem dX2_readBesideStuck_7 : decode cX2_readBesideStuck 7 = .ok (.iload 4, 2) := by decide +kernel
theorem dX2_readBesideStuck_9 : decode cX2_readBesideStuck 9 = .ok (.iconst (-1), 1) := by decide +kernel
theorem dX2_readBesideStuck_10 : decode cX2_readBesideStuck 10 = .ok (.if_icmp .eq 15, 3) := by decide +kernel
theorem dX2_readBesideStuck_13 : decode cX2_readBesideStuck 13 = .ok (.aload_n 0, 1) := by decide +kernel
theorem dX2_readBesideStuck_14 : decode cX2_readBesideStuck 14 = .ok (.iconst 1, 1) := by decide +kernel
theorem dX2_readBesideStuck_15 : decode cX2_readBesideStuck 15 = .ok (.iload 4, 2) := by decide +kernel
theorem dX2_readBesideStuck_17 : decode cX2_readBesideStuck 17 = .ok (.iconst 1, 1) := by decide +kernel
theorem dX2_readBesideStuck_18 : decode cX2_readBesideStuck 18 = .ok (.iload 4, 2) := by decide +kernel
theorem dX2_readBesideStuck_20 : decode cX2_readBesideStuck 20 = .ok (.ishl, 1) := by decide +kernel
theorem dX2_readBesideStuck_21 : decode cX2_readBesideStuck 21 = .ok (.invokevirtual 18, 3) := by decide +kernel
theorem dX2_readBesideStuck_24 : decode cX2_readBesideStuck 24 = .ok (.ireturn, 1) := by decide +kernel
theorem dX2_readBesideStuck_25 : decode cX2_readBesideStuck 25 = .ok (.aload_n 1, 1) := by decide +kernel
theorem dX2_readBesideStuck_26 : decode cX2_readBesideStuck 26 = .ok (.iload_n 2, 1) := by decide +kernel
theorem dX2_readBesideStuck_27 : decode cX2_readBesideStuck 27 = .ok (.aload_n 1, 1) := by decide +kernel
theorem dX2_readBesideStuck_28 : decode cX2_readBesideStuck 28 = .ok (.getfield 50, 3) := by decide +kernel
theorem dX2_readBesideStuck_31 : decode cX2_readBesideStuck 31 = .ok (.iload_n 3, 1) := by decide +kernel
theorem dX2_readBesideStuck_32 : decode cX2_readBesideStuck 32 = .ok (.iaload, 1) := by decide +kernel
theorem dX2_readBesideStuck_33 : decode cX2_readBesideStuck 33 = .ok (.ixor, 1) := by decide +kernel
theorem dX2_readBesideStuck_34 : decode cX2_readBesideStuck 34 = .ok (.invokevirtual 38, 3) := by decide +kernel
theorem dX2_readBesideStuck_37 : decode cX2_readBesideStuck 37 = .ok (.istore 5, 2) := by decide +kernel
theorem dX2_readBesideStuck_39 : decode cX2_readBesideStuck 39 = .ok (.iload 5, 2) := by decide +kernel
theorem dX2_readBesideStuck_41 : decode cX2_readBesideStuck 41 = .ok (.iconst (-1), 1) := by decide +kernel
theorem dX2_readBesideStuck_42 : decode cX2_readBesideStuck 42 = .ok (.if_icmp .eq 25, 3) := by decide +kernel
theorem dX2_readBesideStuck_45 : decode cX2_readBesideStuck 45 = .ok (.aload_n 0, 1) := by decide +kernel
theorem dX2_readBesideStuck_46 : decode cX2_readBesideStuck 46 = .ok (.iconst 5, 1) := by decide +kernel
theorem dX2_readBesideStuck_47 : decode cX2_readBesideStuck 47 = .ok (.iload 5, 2) := by decide +kernel
theorem dX2_readBesideStuck_49 : decode cX2_readBesideStuck 49 = .ok (.iconst 1, 1) := by decide +kernel
theorem dX2_readBesideStuck_50 : decode cX2_readBesideStuck 50 = .ok (.iload 5, 2) := by decide +kernel
theorem dX2_readBesideStuck_52 : decode cX2_readBesideStuck 52 = .ok (.ishl, 1) := by decide +kernel
theorem dX2_readBesideStuck_53 : decode cX2_readBesideStuck 53 = .ok (.iconst 1, 1) := by decide +kernel
theorem dX2_readBesideStuck_54 : decode cX2_readBesideStuck 54 = .ok (.iload_n 3, 1) := by decide +kernel
theorem dX2_readBesideStuck_55 : decode cX2_readBesideStuck 55 = .ok (.ishl, 1) := by decide +kernel
theorem dX2_readBesideStuck_56 : decode cX2_readBesideStuck 56 = .ok (.ior, 1) := by decide +kernel
theorem dX2_readBesideStuck_57 : decode cX2_readBesideStuck 57 = .ok (.invokevirtual 18, 3) := by decide +kernel
theorem dX2_readBesideStuck_60 : decode cX2_readBesideStuck 60 = .ok (.ifCond .eq 7, 3) := by decide +kernel
theorem dX2_readBesideStuck_63 : decode cX2_readBesideStuck 63 = .ok (.iconst 1, 1) := by decide +kernel
theorem dX2_readBesideStuck_64 : decode cX2_readBesideStuck 64 = .ok (.goto 4, 3) := by decide +kernel
theorem dX2_readBesideStuck_67 : decode cX2_readBesideStuck 67 = .ok (.iconst 0, 1) := by decide +kernel
theorem dX2_readBesideStuck_68 : decode cX2_readBesideStuck 68 = .ok (.ireturn, 1) := by decide +kernel
def wW_X2_readBesideStuck (G : GG) (h0 h1 h2 h3 y1_5 : Nat) (x0_0 : Int32) (x0_1 : Int32) (x0_2 : Int32) (x1_0 : Int32) (x1_1 : Int32) (x1_2 : Int32) (a2 : Nat → Int32) (a3 : Nat → Int32) : va_W := [(h0, .inr (2, [.int x0_0, .int x0_1, .int x0_2])), (h1, .inr (1, [.int x1_0, .int x1_1, .int x1_2, .ref h2, .ref h3, .ref y1_5])), (h2, .inl (G.2.1, 32, .inl a2)), (h3, .inl (G.2.1, 256, .inl a3))]
set_option maxHeartbeats 4000000 in
set_option maxRecDepth 100000 in
theorem c_X2_readBesideStuck (l : Launch) (G : GG) (h0 h1 h2 h3 y1_5 : Nat) (sz : Nat) (x0_0 : Int32) (x0_1 : Int32) (x0_2 : Int32) (x1_0 : Int32) (x1_1 : Int32) (x1_2 : Int32) (a2 : Nat → Int32) (a3 : Nat → Int32) (F : Nat) (b2 : Int32) (b3 : Int32)  (r0 : Int32) (e_x0_0 : Int32) (e_x0_1 : Int32) (e_x0_2 : Int32) (hf : p_X2_readBesideStuck F x0_0 x0_1 x0_2 a2 a3 b2 b3 = some (r0, e_x0_0, e_x0_1, e_x0_2)) : Met l yX2_readBesideStuck (.code yX2_readBesideStuck cX2_readBesideStuck 6 (some .boolean) :: gtbl) ({ frames := 1, cells := 0, slots := 0, locals := 23 } : Room) (PcS G [.ref h0, .ref h1, .int b2, .int b3] (wW_X2_readBesideStuck G h0 h1 h2 h3 y1_5 x0_0 x0_1 x0_2 x1_0 x1_1 x1_2 a2 a3) sz) (QiS G r0 (va_A (wW_X2_readBesideStuck G h0 h1 h2 h3 y1_5 x0_0 x0_1 x0_2 x1_0 x1_1 x1_2 a2 a3) sz) (wW_X2_readBesideStuck G h0 h1 h2 h3 y1_5 e_x0_0 e_x0_1 e_x0_2 x1_0 x1_1 x1_2 a2 a3)) 0 0 (va_A (wW_X2_readBesideStuck G h0 h1 h2 h3 y1_5 x0_0 x0_1 x0_2 x1_0 x1_1 x1_2 a2 a3) sz) := by
  refine met_start (by decide) (Nat.le_of_ble_eq_true rfl) ?_
  intro p e s m below meth c hC hr hlk hnm hK hP hD hA hS hX ls hl
  obtain ⟨hx, hb, hml, hown, ht0⟩ := hC
  have hown : s.vm.findClass RX2 = some m.cls := hown
  generalize va_A (wW_X2_readBesideStuck G h0 h1 h2 h3 y1_5 x0_0 x0_1 x0_2 x1_0 x1_1 x1_2 a2 a3) sz = A at hD hA hS hX ⊢
  have hl : lv_has ls 6 [(0, .ref h0), (1, .ref h1), (2, .int b2), (3, .int b3)] := hl
  have hf : p_X2_readBesideStuck F x0_0 x0_1 x0_2 a2 a3 b2 b3 = some (r0, e_x0_0, e_x0_1, e_x0_2) := hf
  refine lv_aload_n hx hb dX2_readBesideStuck_0 rfl (lv_at hl 1 rfl) ?_
  refine lv_iload_n hx hb dX2_readBesideStuck_1 rfl (lv_at hl 2 rfl) ?_
  obtain ⟨r_2_0, hc_r_2_0, hf⟩ := of_bnd hf
  refine cl_Vi (w2 := (wW_X2_readBesideStuck G h0 h1 h2 h3 y1_5 x0_0 x0_1 x0_2 x1_0 x1_1 x1_2 a2 a3)) (As := [.int b2]) (rest := []) ⟨hx, hb, hml, hown, ht0⟩ (c_X1_placeWith l G h1 h3 h2 y1_5 _ x1_0 x1_1 x1_2 a3 F b2 _ hc_r_2_0) yk_X1_placeWith wd_845 ⟨rfl, rfl, by decide, by decide⟩ ⟨Nat.le_refl _, Nat.le_refl _⟩ hX hK hP hD hS hA [1, 3] [0, 2] [0, 2, 1, 3] (va_recv hK hP (ci := 1) (q0 := 1) rfl rfl) rfl rfl (by decide) rfl rfl rfl rfl rfl hl.1 rfl (Nat.le_of_ble_eq_true rfl) dX2_readBesideStuck_2 (fun H locs hP hD hS => ?_)
  refine lv_istore (lv' := [(4, .int r_2_0), (0, .ref h0), (1, .ref h1), (2, .int b2), (3, .int b3)]) hx hb dX2_readBesideStuck_5 hl (by decide) rfl (fun ls hl => ?_)
  refine lv_iload hx hb dX2_readBesideStuck_7 (lv_at hl 0 rfl) ?_
  refine lv_iconst (v := (-1 : Int32)) hx hb dX2_readBesideStuck_9 (by decide) ?_
  refine lv_icmp_eq (tgt := 25) hx hb dX2_readBesideStuck_10 (by decide) (fun c2 => ?_) (fun c2 => ?_)
  · have hf := of_pos hf c2
    refine lv_aload_n hx hb dX2_readBesideStuck_25 rfl (lv_at hl 2 rfl) ?_
    refine lv_iload_n hx hb dX2_readBesideStuck_26 rfl (lv_at hl 3 rfl) ?_
    refine lv_aload_n hx hb dX2_readBesideStuck_27 rfl (lv_at hl 2 rfl) ?_
    refine va_get (ci := 1) (v := .ref h2) (C := RX1) (T := TX1) (N := 6) hx hb ht0 iX1 hown hK hP 1 rfl rfl 3 (by decide) (ht0 _ wd_229) (fun _ h9 => h9) rfl dX2_readBesideStuck_28 ?_
    refine lv_iload_n hx hb dX2_readBesideStuck_31 rfl (lv_at hl 4 rfl) ?_
    obtain ⟨g3, hf⟩ := of_grd hf
    refine va_iald hx hb hK hP 2 0 rfl rfl g3 dX2_readBesideStuck_32 ?_
    refine lv_ixor hx hb dX2_readBesideStuck_33 ?_
    obtain ⟨r_34_3, hc_r_34_3, hf⟩ := of_bnd hf
    refine cl_Vi (w2 := (wW_X2_readBesideStuck G h0 h1 h2 h3 y1_5 x0_0 x0_1 x0_2 x1_0 x1_1 x1_2 a2 a3)) (As := [.int (b2 ^^^ (a2 b3.toNatClampNeg))]) (rest := []) ⟨hx, hb, hml, hown, ht0⟩ (c_X1_placeWith l G h1 h3 h2 y1_5 _ x1_0 x1_1 x1_2 a3 F (b2 ^^^ (a2 b3.toNatClampNeg)) _ hc_r_34_3) yk_X1_placeWith wd_845 ⟨rfl, rfl, by decide, by decide⟩ ⟨Nat.le_refl _, Nat.le_refl _⟩ hX hK hP hD hS hA [1, 3] [0, 2] [0, 2, 1, 3] (va_recv hK hP (ci := 1) (q0 := 1) rfl rfl) rfl rfl (by decide) rfl rfl rfl rfl rfl hl.1 rfl (Nat.le_of_ble_eq_true rfl) dX2_readBesideStuck_34 (fun H locs hP hD hS => ?_)
    refine lv_istore (lv' := [(5, .int r_34_3), (4, .int r_2_0), (0, .ref h0), (1, .ref h1), (2, .int b2), (3, .int b3)]) hx hb dX2_readBesideStuck_37 hl (by decide) rfl (fun ls hl => ?_)
    refine lv_iload hx hb dX2_readBesideStuck_39 (lv_at hl 0 rfl) ?_
    refine lv_iconst (v := (-1 : Int32)) hx hb dX2_readBesideStuck_41 (by decide) ?_
    refine lv_icmp_eq (tgt := 67) hx hb dX2_readBesideStuck_42 (by decide) (fun c5 => ?_) (fun c5 => ?_)
    · have hf := of_pos hf c5
      refine lv_iconst (v := (0 : Int32)) hx hb dX2_readBesideStuck_67 (by decide) ?_
      cases hf
      exact ret_z hx hb hr hlk hK hP hD hS (by decide) dX2_readBesideStuck_68
    · have hf := of_neg hf c5
      refine lv_aload_n hx hb dX2_readBesideStuck_45 rfl (lv_at hl 2 rfl) ?_
      refine lv_iconst (v := (5 : Int32)) hx hb dX2_readBesideStuck_46 (by decide) ?_
      refine lv_iload hx hb dX2_readBesideStuck_47 (lv_at hl 0 rfl) ?_
      refine lv_iconst (v := (1 : Int32)) hx hb dX2_readBesideStuck_49 (by decide) ?_
      refine lv_iload hx hb dX2_readBesideStuck_50 (lv_at hl 0 rfl) ?_
      refine lv_ishl hx hb dX2_readBesideStuck_52 ?_
      refine lv_iconst (v := (1 : Int32)) hx hb dX2_readBesideStuck_53 (by decide) ?_
      refine lv_iload_n hx hb dX2_readBesideStuck_54 rfl (lv_at hl 5 rfl) ?_
      refine lv_ishl hx hb dX2_readBesideStuck_55 ?_
      refine lv_ior hx hb dX2_readBesideStuck_56 ?_
      obtain ⟨⟨r_57_5, r_57_5_x0_0, r_57_5_x0_1, r_57_5_x0_2⟩, hc_r_57_5, hf⟩ := of_bnd hf
      refine cl_Vi (w2 := (wW_X2_readBesideStuck G h0 h1 h2 h3 y1_5 r_57_5_x0_0 r_57_5_x0_1 r_57_5_x0_2 x1_0 x1_1 x1_2 a2 a3)) (As := [.int (5 : Int32), .int r_34_3, .int (((1 : Int32) <<< (r_34_3 &&& 31)) ||| ((1 : Int32) <<< (b3 &&& 31)))]) (rest := []) ⟨hx, hb, hml, hown, ht0⟩ (c_X2_settle l G h0 _ x0_0 x0_1 x0_2 F (5 : Int32) r_34_3 (((1 : Int32) <<< (r_34_3 &&& 31)) ||| ((1 : Int32) <<< (b3 &&& 31))) _ _ _ _ hc_r_57_5) yk_X2_settle wd_829 ⟨rfl, rfl, by decide, by decide⟩ ⟨Nat.le_refl _, Nat.le_refl _⟩ hX hK hP hD hS hA [0] [1, 2, 3] [3, 0, 1, 2] (va_recv hK hP (ci := 2) (q0 := 0) rfl rfl) rfl rfl (by decide) rfl rfl rfl rfl rfl hl.1 rfl (Nat.le_of_ble_eq_true rfl) dX2_readBesideStuck_57 (fun H locs hP hD hS => ?_)
      refine lv_if_eq (tgt := 67) hx hb dX2_readBesideStuck_60 (by decide) (fun c7 => ?_) (fun c7 => ?_)
      · have hf := of_pos hf c7
        refine lv_iconst (v := (0 : Int32)) hx hb dX2_readBesideStuck_67 (by decide) ?_
        cases hf
        exact ret_z hx hb hr hlk hK hP hD hS (by decide) dX2_readBesideStuck_68
      · have hf := of_neg hf c7
        refine lv_iconst (v := (1 : Int32)) hx hb dX2_readBesideStuck_63 (by decide) ?_
        refine lv_goto (tgt := 68) hx hb dX2_readBesideStuck_64 (by decide) ?_
        cases hf
        exact ret_z hx hb hr hlk hK hP hD hS (by decide) dX2_readBesideStuck_68
  · have hf := of_neg hf c2
    refine lv_aload_n hx hb dX2_readBesideStuck_13 rfl (lv_at hl 1 rfl) ?_
    refine lv_iconst (v := (1 : Int32)) hx hb dX2_readBesideStuck_14 (by decide) ?_
    refine lv_iload hx hb dX2_readBesideStuck_15 (lv_at hl 0 rfl) ?_
    refine lv_iconst (v := (1 : Int32)) hx hb dX2_readBesideStuck_17 (by decide) ?_
    refine lv_iload hx hb dX2_readBesideStuck_18 (lv_at hl 0 rfl) ?_
    refine lv_ishl hx hb dX2_readBesideStuck_20 ?_
    obtain ⟨⟨r_21_7, r_21_7_x0_0, r_21_7_x0_1, r_21_7_x0_2⟩, hc_r_21_7, hf⟩ := of_bnd hf
    refine cl_Vi (w2 := (wW_X2_readBesideStuck G h0 h1 h2 h3 y1_5 r_21_7_x0_0 r_21_7_x0_1 r_21_7_x0_2 x1_0 x1_1 x1_2 a2 a3)) (As := [.int (1 : Int32), .int r_2_0, .int ((1 : Int32) <<< (r_2_0 &&& 31))]) (rest := []) ⟨hx, hb, hml, hown, ht0⟩ (c_X2_settle l G h0 _ x0_0 x0_1 x0_2 F (1 : Int32) r_2_0 ((1 : Int32) <<< (r_2_0 &&& 31)) _ _ _ _ hc_r_21_7) yk_X2_settle wd_829 ⟨rfl, rfl, by decide, by decide⟩ ⟨Nat.le_refl _, Nat.le_refl _⟩ hX hK hP hD hS hA [0] [1, 2, 3] [3, 0, 1, 2] (va_recv hK hP (ci := 2) (q0 := 0) rfl rfl) rfl rfl (by decide) rfl rfl rfl rfl rfl hl.1 rfl (Nat.le_of_ble_eq_true rfl) dX2_readBesideStuck_21 (fun H locs hP hD hS => ?_)
    obtain ⟨g9, hf⟩ := of_grd hf
    have g9 := Decidable.not_not.mp g9
    cases hf
    exact ret_z hx hb hr hlk hK hP hD hS g9 dX2_readBesideStuck_24
theorem yk_X2_readBesideStuck : ykV yX2_readBesideStuck RX2 cX2_readBesideStuck 6 (some .boolean) 3 := ⟨wd_843, wd_27, wd_135, wd_844, rfl, by decide +kernel, by decide +kernel, by decide +kernel⟩
theorem dX2_read_0 : decode cX2_read 0 = .ok (.aload_n 0, 1) := by decide +kernel
theorem dX2_read_1 : decode cX2_read 1 = .ok (.iconst 0, 1) := by decide +kernel
theorem dX2_read_2 : decode cX2_read 2 = .ok (.iconst (-1), 1) := by decide +kernel
theorem dX2_read_3 : decode cX2_read 3 = .ok (.iconst 0, 1) := by decide +kernel
theorem dX2_read_4 : decode cX2_read 4 = .ok (.invokevirtual 18, 3) := by decide +kernel
theorem dX2_read_7 : decode cX2_read 7 = .ok (.pop, 1) := by decide +kernel
theorem dX2_read_8 : decode cX2_read 8 = .ok (.iload_n 2, 1) := by decide +kernel
theorem dX2_read_9 : decode cX2_read 9 = .ok (.ifCond .ne 4, 3) := by decide +kernel
theorem dX2_read_12 : decode cX2_read 12 = .ok (.return_, 1) := by decide +kernel
theorem dX2_read_13 : decode cX2_read 13 = .ok (.iload_n 3, 1) := by decide +kernel
theorem dX2_read_14 : decode cX2_read 14 = .ok (.invokestatic 22, 3) := by decide +kernel
theorem dX2_read_17 : decode cX2_read 17 = .ok (.iconst 1, 1) := by decide +kernel
theorem dX2_read_18 : decode cX2_read 18 = .ok (.if_icmp .ne 10, 3) := by decide +kernel
theorem dX2_read_21 : decode cX2_read 21 = .ok (.iload_n 3, 1) := by decide +kernel
theorem dX2_read_22 : decode cX2_read 22 = .ok (.invokestatic 28, 3) := by decide +kernel
theorem dX2_read_25 : decode cX2_read 25 = .ok (.goto 4, 3) := by decide +kernel
theorem dX2_read_28 : decode cX2_read 28 = .ok (.iconst (-1), 1) := by decide +kernel
theorem dX2_read_29 : decode cX2_read 29 = .ok (.istore 4, 2) := by decide +kernel
theorem dX2_read_31 : decode cX2_read 31 = .ok (.iload_n 3, 1) := by decide +kernel
theorem dX2_read_32 : decode cX2_read 32 = .ok (.ifCond .eq 14, 3) := by decide +kernel
theorem dX2_read_35 : decode cX2_read 35 = .ok (.aload_n 0, 1) := by decide +kernel
theorem dX2_read_36 : decode cX2_read 36 = .ok (.aload_n 1, 1) := by decide +kernel
theorem dX2_read_37 : decode cX2_read 37 = .ok (.iload_n 2, 1) := by decide +kernel
theorem dX2_read_38 : decode cX2_read 38 = .ok (.iload_n 3, 1) := by decide +kernel
theorem dX2_read_39 : decode cX2_read 39 = .ok (.invokevirtual 31, 3) := by decide +kernel
theorem dX2_read_42 : decode cX2_read 42 = .ok (.ifCond .eq 4, 3) := by decide +kernel
theorem dX2_read_45 : decode cX2_read 45 = .ok (.return_, 1) := by decide +kernel
theorem dX2_read_46 : decode cX2_read 46 = .ok (.iload 4, 2) := by decide +kernel
theorem dX2_read_48 : decode cX2_read 48 = .ok (.iconst (-1), 1) := by decide +kernel
theorem dX2_read_49 : decode cX2_read 49 = .ok (.if_icmp .eq 15, 3) := by decide +kernel
theorem dX2_read_52 : decode cX2_read 52 = .ok (.aload_n 0, 1) := by decide +kernel
theorem dX2_read_53 : decode cX2_read 53 = .ok (.aload_n 1, 1) := by decide +kernel
theorem dX2_read_54 : decode cX2_read 54 = .ok (.iload_n 2, 1) := by decide +kernel
theorem dX2_read_55 : decode cX2_read 55 = .ok (.iload 4, 2) := by decide +kernel
theorem dX2_read_57 : decode cX2_read 57 = .ok (.invokevirtual 35, 3) := by decide +kernel
theorem dX2_read_60 : decode cX2_read 60 = .ok (.ifCond .eq 4, 3) := by decide +kernel
theorem dX2_read_63 : decode cX2_read 63 = .ok (.return_, 1) := by decide +kernel
theorem dX2_read_64 : decode cX2_read 64 = .ok (.iload 4, 2) := by decide +kernel
theorem dX2_read_66 : decode cX2_read 66 = .ok (.iconst (-1), 1) := by decide +kernel
theorem dX2_read_67 : decode cX2_read 67 = .ok (.if_icmp .ne 11, 3) := by decide +kernel
theorem dX2_read_70 : decode cX2_read 70 = .ok (.aload_n 1, 1) := by decide +kernel
theorem dX2_read_71 : decode cX2_read 71 = .ok (.iload_n 2, 1) := by decide +kernel
theorem dX2_read_72 : decode cX2_read 72 = .ok (.invokevirtual 38, 3) := by decide +kernel
theorem dX2_read_75 : decode cX2_read 75 = .ok (.goto 4, 3) := by decide +kernel
theorem dX2_read_78 : decode cX2_read 78 = .ok (.iconst (-1), 1) := by decide +kernel
theorem dX2_read_79 : decode cX2_read 79 = .ok (.istore 5, 2) := by decide +kernel
theorem dX2_read_81 : decode cX2_read 81 = .ok (.aload_n 1, 1) := by decide +kernel
theorem dX2_read_82 : decode cX2_read 82 = .ok (.getfield 43, 3) := by decide +kernel
theorem dX2_read_85 : decode cX2_read 85 = .ok (.ifCond .eq 11, 3) := by decide +kernel
theorem dX2_read_88 : decode cX2_read 88 = .ok (.aload_n 1, 1) := by decide +kernel
theorem dX2_read_89 : decode cX2_read 89 = .ok (.iload_n 2, 1) := by decide +kernel
theorem dX2_read_90 : decode cX2_read 90 = .ok (.invokevirtual 47, 3) := by decide +kernel
theorem dX2_read_93 : decode cX2_read 93 = .ok (.goto 4, 3) := by decide +kernel
theorem dX2_read_96 : decode cX2_read 96 = .ok (.iconst (-1), 1) := by decide +kernel
theorem dX2_read_97 : decode cX2_read 97 = .ok (.istore 6, 2) := by decide +kernel
theorem dX2_read_99 : decode cX2_read 99 = .ok (.iload 5, 2) := by decide +kernel
theorem dX2_read_101 : decode cX2_read 101 = .ok (.iconst (-1), 1) := by decide +kernel
theorem dX2_read_102 : decode cX2_read 102 = .ok (.if_icmp .eq 18, 3) := by decide +kernel
theorem dX2_read_105 : decode cX2_read 105 = .ok (.aload_n 0, 1) := by decide +kernel
theorem dX2_read_106 : decode cX2_read 106 = .ok (.iconst 1, 1) := by decide +kernel
theorem dX2_read_107 : decode cX2_read 107 = .ok (.iload 5, 2) := by decide +kernel
theorem dX2_read_109 : decode cX2_read 109 = .ok (.iconst 1, 1) := by decide +kernel
theorem dX2_read_110 : decode cX2_read 110 = .ok (.iload 5, 2) := by decide +kernel
theorem dX2_read_112 : decode cX2_read 112 = .ok (.ishl, 1) := by decide +kernel
theorem dX2_read_113 : decode cX2_read 113 = .ok (.invokevirtual 18, 3) := by decide +kernel
theorem dX2_read_116 : decode cX2_read 116 = .ok (.pop, 1) := by decide +kernel
theorem dX2_read_117 : decode cX2_read 117 = .ok (.goto 45, 3) := by decide +kernel
theorem dX2_read_120 : decode cX2_read 120 = .ok (.iload 6, 2) := by decide +kernel
theorem dX2_read_122 : decode cX2_read 122 = .ok (.iconst (-1), 1) := by decide +kernel
theorem dX2_read_123 : decode cX2_read 123 = .ok (.if_icmp .eq 18, 3) := by decide +kernel
theorem dX2_read_126 : decode cX2_read 126 = .ok (.aload_n 0, 1) := by decide +kernel
theorem dX2_read_127 : decode cX2_read 127 = .ok (.iconst 2, 1) := by decide +kernel
theorem dX2_read_128 : decode cX2_read 128 = .ok (.iload 6, 2) := by decide +kernel
theorem dX2_read_130 : decode cX2_read 130 = .ok (.iconst 3, 1) := by decide +kernel
theorem dX2_read_131 : decode cX2_read 131 = .ok (.iload 6, 2) := by decide +kernel
theorem dX2_read_133 : decode cX2_read 133 = .ok (.ishl, 1) := by decide +kernel
theorem dX2_read_134 : decode cX2_read 134 = .ok (.invokevirtual 18, 3) := by decide +kernel
theorem dX2_read_137 : decode cX2_read 137 = .ok (.pop, 1) := by decide +kernel
theorem dX2_read_138 : decode cX2_read 138 = .ok (.goto 24, 3) := by decide +kernel
theorem dX2_read_141 : decode cX2_read 141 = .ok (.aload_n 0, 1) := by decide +kernel
theorem dX2_read_142 : decode cX2_read 142 = .ok (.iload_n 2, 1) := by decide +kernel
theorem dX2_read_143 : decode cX2_read 143 = .ok (.invokestatic 22, 3) := by decide +kernel
theorem dX2_read_146 : decode cX2_read 146 = .ok (.iconst 2, 1) := by decide +kernel
theorem dX2_read_147 : decode cX2_read 147 = .ok (.irem, 1) := by decide +kernel
theorem dX2_read_148 : decode cX2_read 148 = .ok (.ifCond .ne 7, 3) := by decide +kernel
theorem dX2_read_151 : decode cX2_read 151 = .ok (.iconst 3, 1) := by decide +kernel
theorem dX2_read_152 : decode cX2_read 152 = .ok (.goto 4, 3) := by decide +kernel
theorem dX2_read_155 : decode cX2_read 155 = .ok (.iconst 4, 1) := by decide +kernel
theorem dX2_read_156 : decode cX2_read 156 = .ok (.iconst (-1), 1) := by decide +kernel
theorem dX2_read_157 : decode cX2_read 157 = .ok (.iconst 0, 1) := by decide +kernel
theorem dX2_read_158 : decode cX2_read 158 = .ok (.invokevirtual 18, 3) := by decide +kernel
theorem dX2_read_161 : decode cX2_read 161 = .ok (.pop, 1) := by decide +kernel
theorem dX2_read_162 : decode cX2_read 162 = .ok (.return_, 1) := by decide +kernel
def wW_X2_read (G : GG) (h0 h1 h2 h3 h4 : Nat) (x0_0 : Int32) (x0_1 : Int32) (x0_2 : Int32) (x1_0 : Int32) (x1_1 : Int32) (x1_2 : Int32) (a2 : Nat → Int32) (a3 : Nat → Int32) (a4 : Nat → Int32) : va_W := [(h0, .inr (2, [.int x0_0, .int x0_1, .int x0_2])), (h1, .inr (1, [.int x1_0, .int x1_1, .int x1_2, .ref h2, .ref h3, .ref h4])), (h2, .inl (G.2.1, 32, .inl a2)), (h3, .inl (G.2.1, 256, .inl a3)), (h4, .inl (G.2.1, 256, .inl a4))]
set_option maxHeartbeats 4000000 in
set_option maxRecDepth 100000 in
theorem c_X2_read (l : Launch) (G : GG) (h0 h1 h2 h3 h4 : Nat) (sz : Nat) (x0_0 : Int32) (x0_1 : Int32) (x0_2 : Int32) (x1_0 : Int32) (x1_1 : Int32) (x1_2 : Int32) (a2 : Nat → Int32) (a3 : Nat → Int32) (a4 : Nat → Int32) (F : Nat) (b2 : Int32) (b3 : Int32)  (e_x0_0 : Int32) (e_x0_1 : Int32) (e_x0_2 : Int32) (hf : p_X2_read F x0_0 x0_1 x0_2 x1_2 a2 a3 a4 b2 b3 = some (e_x0_0, e_x0_1, e_x0_2)) : Met l yX2_read (.code yX2_read cX2_read 7 none :: gtbl) ({ frames := 2, cells := 0, slots := 0, locals := 50 } : Room) (PcS G [.ref h0, .ref h1, .int b2, .int b3] (wW_X2_read G h0 h1 h2 h3 h4 x0_0 x0_1 x0_2 x1_0 x1_1 x1_2 a2 a3 a4) sz) (QvS G (va_A (wW_X2_read G h0 h1 h2 h3 h4 x0_0 x0_1 x0_2 x1_0 x1_1 x1_2 a2 a3 a4) sz) (wW_X2_read G h0 h1 h2 h3 h4 e_x0_0 e_x0_1 e_x0_2 x1_0 x1_1 x1_2 a2 a3 a4)) 0 0 (va_A (wW_X2_read G h0 h1 h2 h3 h4 x0_0 x0_1 x0_2 x1_0 x1_1 x1_2 a2 a3 a4) sz) := by
  refine met_start (by decide) (Nat.le_of_ble_eq_true rfl) ?_
  intro p e s m below meth c hC hr hlk hnm hK hP hD hA hS hX ls hl
  obtain ⟨hx, hb, hml, hown, ht0⟩ := hC
  have hown : s.vm.findClass RX2 = some m.cls := hown
  generalize va_A (wW_X2_read G h0 h1 h2 h3 h4 x0_0 x0_1 x0_2 x1_0 x1_1 x1_2 a2 a3 a4) sz = A at hD hA hS hX ⊢
  have hl : lv_has ls 7 [(0, .ref h0), (1, .ref h1), (2, .int b2), (3, .int b3)] := hl
  have hf : p_X2_read F x0_0 x0_1 x0_2 x1_2 a2 a3 a4 b2 b3 = some (e_x0_0, e_x0_1, e_x0_2) := hf
  have kJ156 : ∀ (s156_1 : Int32) (x0_0_156 : Int32) (x0_1_156 : Int32) (x0_2_156 : Int32), p_X2_read_J156 F x1_2 a2 a3 a4 s156_1 x0_0_156 x0_1_156 x0_2_156 = some (e_x0_0, e_x0_1, e_x0_2) → ∀ (H : Heap) (locs : List Loc), va_P G.1 vwCl (wW_X2_read G h0 h1 h2 h3 h4 x0_0_156 x0_1_156 x0_2_156 x1_0 x1_1 x1_2 a2 a3 a4) H → va_D A (wW_X2_read G h0 h1 h2 h3 h4 x0_0_156 x0_1_156 x0_2_156 x1_0 x1_1 x1_2 a2 a3 a4) → va_S A s.heap H locs → ∀ ls : Array Slot, lv_has ls 7 [] → W p l e ({ frames := 2, cells := 0, slots := 0, locals := 50 } : Room) s m (List.toArray [.ref h0, .ref h1, .int b2, .int b3]) below meth c H locs 0 0 (MQ below (QvS G A (wW_X2_read G h0 h1 h2 h3 h4 e_x0_0 e_x0_1 e_x0_2 x1_0 x1_1 x1_2 a2 a3 a4)) (List.toArray [.ref h0, .ref h1, .int b2, .int b3]) s 0 0 A) (F0 m 156 ls [.int s156_1, .ref h0]) := by
    intro s156_1 x0_0_156 x0_1_156 x0_2_156 hf H locs hP hD hS ls hl
    refine lv_iconst (v := (-1 : Int32)) hx hb dX2_read_156 (by decide) ?_
    refine lv_iconst (v := (0 : Int32)) hx hb dX2_read_157 (by decide) ?_
    obtain ⟨⟨r_158_0, r_158_0_x0_0, r_158_0_x0_1, r_158_0_x0_2⟩, hc_r_158_0, hf⟩ := of_bnd hf
    refine cl_Vi (w2 := (wW_X2_read G h0 h1 h2 h3 h4 r_158_0_x0_0 r_158_0_x0_1 r_158_0_x0_2 x1_0 x1_1 x1_2 a2 a3 a4)) (As := [.int s156_1, .int (-1 : Int32), .int (0 : Int32)]) (rest := []) ⟨hx, hb, hml, hown, ht0⟩ (c_X2_settle l G h0 _ x0_0_156 x0_1_156 x0_2_156 F s156_1 (-1 : Int32) (0 : Int32) _ _ _ _ hc_r_158_0) yk_X2_settle wd_829 ⟨rfl, rfl, by decide, by decide⟩ ⟨Nat.le_refl _, Nat.le_refl _⟩ hX hK hP hD hS hA [0] [1, 2, 3, 4] [4, 0, 1, 2, 3] (va_recv hK hP (ci := 2) (q0 := 0) rfl rfl) rfl rfl (by decide) rfl rfl rfl rfl rfl hl.1 rfl (Nat.le_of_ble_eq_true rfl) dX2_read_158 (fun H locs hP hD hS => ?_)
    refine lv_pop hx hb dX2_read_161 rfl ?_
    cases hf
    exact ret_v hx hb hr hlk hK hP hD hS dX2_read_162
  have kJ97 : ∀ (u97_2 : Int32) (u97_5 : Int32) (s97_0 : Int32) (x0_0_97 : Int32) (x0_1_97 : Int32) (x0_2_97 : Int32), p_X2_read_J97 F x1_2 a2 a3 a4 u97_2 u97_5 s97_0 x0_0_97 x0_1_97 x0_2_97 = some (e_x0_0, e_x0_1, e_x0_2) → ∀ (H : Heap) (locs : List Loc), va_P G.1 vwCl (wW_X2_read G h0 h1 h2 h3 h4 x0_0_97 x0_1_97 x0_2_97 x1_0 x1_1 x1_2 a2 a3 a4) H → va_D A (wW_X2_read G h0 h1 h2 h3 h4 x0_0_97 x0_1_97 x0_2_97 x1_0 x1_1 x1_2 a2 a3 a4) → va_S A s.heap H locs → ∀ ls : Array Slot, lv_has ls 7 [(0, .ref h0), (2, .int u97_2), (5, .int u97_5)] → W p l e ({ frames := 2, cells := 0, slots := 0, locals := 50 } : Room) s m (List.toArray [.ref h0, .ref h1, .int b2, .int b3]) below meth c H locs 0 0 (MQ below (QvS G A (wW_X2_read G h0 h1 h2 h3 h4 e_x0_0 e_x0_1 e_x0_2 x1_0 x1_1 x1_2 a2 a3 a4)) (List.toArray [.ref h0, .ref h1, .int b2, .int b3]) s 0 0 A) (F0 m 97 ls [.int s97_0]) := by
    intro u97_2 u97_5 s97_0 x0_0_97 x0_1_97 x0_2_97 hf H locs hP hD hS ls hl
    refine lv_istore (lv' := [(6, .int s97_0), (0, .ref h0), (2, .int u97_2), (5, .int u97_5)]) hx hb dX2_read_97 hl (by decide) rfl (fun ls hl => ?_)
    refine lv_iload hx hb dX2_read_99 (lv_at hl 3 rfl) ?_
    refine lv_iconst (v := (-1 : Int32)) hx hb dX2_read_101 (by decide) ?_
    refine lv_icmp_eq (tgt := 120) hx hb dX2_read_102 (by decide) (fun c2 => ?_) (fun c2 => ?_)
    · have hf := of_pos hf c2
      refine lv_iload hx hb dX2_read_120 (lv_at hl 0 rfl) ?_
      refine lv_iconst (v := (-1 : Int32)) hx hb dX2_read_122 (by decide) ?_
      refine lv_icmp_eq (tgt := 141) hx hb dX2_read_123 (by decide) (fun c3 => ?_) (fun c3 => ?_)
      · have hf := of_pos hf c3
        refine lv_aload_n hx hb dX2_read_141 rfl (lv_at hl 1 rfl) ?_
        refine lv_iload_n hx hb dX2_read_142 rfl (lv_at hl 2 rfl) ?_
        obtain ⟨r_143_3, hc_r_143_3, hf⟩ := of_bnd hf
        refine cl_Si (w2 := (wW_X2_read G h0 h1 h2 h3 h4 x0_0_97 x0_1_97 x0_2_97 x1_0 x1_1 x1_2 a2 a3 a4)) (As := [.int u97_2]) (rest := [.ref h0]) ⟨hx, hb, hml, hown, ht0⟩ (c_J6_bitCount_0f7a4 l G _ F u97_2 _ hc_r_143_3) yk_J6_bitCount_0f7a4 wd_833 ⟨rfl, rfl, by decide, by decide⟩ ⟨Nat.le_refl _, Nat.le_refl _⟩ hX hK hP hD hS hA [] [0, 1, 2, 3, 4] [0, 1, 2, 3, 4] rfl rfl (by decide) rfl rfl rfl rfl rfl hl.1 rfl (Nat.le_of_ble_eq_true rfl) dX2_read_143 (fun H locs hP hD hS => ?_)
        refine lv_iconst (v := (2 : Int32)) hx hb dX2_read_146 (by decide) ?_
        refine lv_irem hx hb dX2_read_147 (by decide) ?_
        refine lv_if_ne (tgt := 155) hx hb dX2_read_148 (by decide) (fun c5 => ?_) (fun c5 => ?_)
        · have hf := of_neg hf c5
          refine lv_iconst (v := (4 : Int32)) hx hb dX2_read_155 (by decide) ?_
          exact kJ156 _ _ _ _ hf _ _ hP hD hS _ (lv_sub hl [] rfl)
        · have hf := of_pos hf c5
          refine lv_iconst (v := (3 : Int32)) hx hb dX2_read_151 (by decide) ?_
          refine lv_goto (tgt := 156) hx hb dX2_read_152 (by decide) ?_
          exact kJ156 _ _ _ _ hf _ _ hP hD hS _ (lv_sub hl [] rfl)
      · have hf := of_neg hf c3
        refine lv_aload_n hx hb dX2_read_126 rfl (lv_at hl 1 rfl) ?_
        refine lv_iconst (v := (2 : Int32)) hx hb dX2_read_127 (by decide) ?_
        refine lv_iload hx hb dX2_read_128 (lv_at hl 0 rfl) ?_
        refine lv_iconst (v := (3 : Int32)) hx hb dX2_read_130 (by decide) ?_
        refine lv_iload hx hb dX2_read_131 (lv_at hl 0 rfl) ?_
        refine lv_ishl hx hb dX2_read_133 ?_
        obtain ⟨⟨r_134_5, r_134_5_x0_0, r_134_5_x0_1, r_134_5_x0_2⟩, hc_r_134_5, hf⟩ := of_bnd hf
        refine cl_Vi (w2 := (wW_X2_read G h0 h1 h2 h3 h4 r_134_5_x0_0 r_134_5_x0_1 r_134_5_x0_2 x1_0 x1_1 x1_2 a2 a3 a4)) (As := [.int (2 : Int32), .int s97_0, .int ((3 : Int32) <<< (s97_0 &&& 31))]) (rest := []) ⟨hx, hb, hml, hown, ht0⟩ (c_X2_settle l G h0 _ x0_0_97 x0_1_97 x0_2_97 F (2 : Int32) s97_0 ((3 : Int32) <<< (s97_0 &&& 31)) _ _ _ _ hc_r_134_5) yk_X2_settle wd_829 ⟨rfl, rfl, by decide, by decide⟩ ⟨Nat.le_refl _, Nat.le_refl _⟩ hX hK hP hD hS hA [0] [1, 2, 3, 4] [4, 0, 1, 2, 3] (va_recv hK hP (ci := 2) (q0 := 0) rfl rfl) rfl rfl (by decide) rfl rfl rfl rfl rfl hl.1 rfl (Nat.le_of_ble_eq_true rfl) dX2_read_134 (fun H locs hP hD hS => ?_)
        refine lv_pop hx hb dX2_read_137 rfl ?_
        refine lv_goto (tgt := 162) hx hb dX2_read_138 (by decide) ?_
        cases hf
        exact ret_v hx hb hr hlk hK hP hD hS dX2_read_162
    · have hf := of_neg hf c2
      refine lv_aload_n hx hb dX2_read_105 rfl (lv_at hl 1 rfl) ?_
      refine lv_iconst (v := (1 : Int32)) hx hb dX2_read_106 (by decide) ?_
      refine lv_iload hx hb dX2_read_107 (lv_at hl 3 rfl) ?_
      refine lv_iconst (v := (1 : Int32)) hx hb dX2_read_109 (by decide) ?_
      refine lv_iload hx hb dX2_read_110 (lv_at hl 3 rfl) ?_
      refine lv_ishl hx hb dX2_read_112 ?_
      obtain ⟨⟨r_113_6, r_113_6_x0_0, r_113_6_x0_1, r_113_6_x0_2⟩, hc_r_113_6, hf⟩ := of_bnd hf
      refine cl_Vi (w2 := (wW_X2_read G h0 h1 h2 h3 h4 r_113_6_x0_0 r_113_6_x0_1 r_113_6_x0_2 x1_0 x1_1 x1_2 a2 a3 a4)) (As := [.int (1 : Int32), .int u97_5, .int ((1 : Int32) <<< (u97_5 &&& 31))]) (rest := []) ⟨hx, hb, hml, hown, ht0⟩ (c_X2_settle l G h0 _ x0_0_97 x0_1_97 x0_2_97 F (1 : Int32) u97_5 ((1 : Int32) <<< (u97_5 &&& 31)) _ _ _ _ hc_r_113_6) yk_X2_settle wd_829 ⟨rfl, rfl, by decide, by decide⟩ ⟨Nat.le_refl _, Nat.le_refl _⟩ hX hK hP hD hS hA [0] [1, 2, 3, 4] [4, 0, 1, 2, 3] (va_recv hK hP (ci := 2) (q0 := 0) rfl rfl) rfl rfl (by decide) rfl rfl rfl rfl rfl hl.1 rfl (Nat.le_of_ble_eq_true rfl) dX2_read_113 (fun H locs hP hD hS => ?_)
      refine lv_pop hx hb dX2_read_116 rfl ?_
      refine lv_goto (tgt := 162) hx hb dX2_read_117 (by decide) ?_
      cases hf
      exact ret_v hx hb hr hlk hK hP hD hS dX2_read_162
  have kJ79 : ∀ (u79_2 : Int32) (s79_0 : Int32) (x0_0_79 : Int32) (x0_1_79 : Int32) (x0_2_79 : Int32), p_X2_read_J79 F x1_2 a2 a3 a4 u79_2 s79_0 x0_0_79 x0_1_79 x0_2_79 = some (e_x0_0, e_x0_1, e_x0_2) → ∀ (H : Heap) (locs : List Loc), va_P G.1 vwCl (wW_X2_read G h0 h1 h2 h3 h4 x0_0_79 x0_1_79 x0_2_79 x1_0 x1_1 x1_2 a2 a3 a4) H → va_D A (wW_X2_read G h0 h1 h2 h3 h4 x0_0_79 x0_1_79 x0_2_79 x1_0 x1_1 x1_2 a2 a3 a4) → va_S A s.heap H locs → ∀ ls : Array Slot, lv_has ls 7 [(0, .ref h0), (1, .ref h1), (2, .int u79_2)] → W p l e ({ frames := 2, cells := 0, slots := 0, locals := 50 } : Room) s m (List.toArray [.ref h0, .ref h1, .int b2, .int b3]) below meth c H locs 0 0 (MQ below (QvS G A (wW_X2_read G h0 h1 h2 h3 h4 e_x0_0 e_x0_1 e_x0_2 x1_0 x1_1 x1_2 a2 a3 a4)) (List.toArray [.ref h0, .ref h1, .int b2, .int b3]) s 0 0 A) (F0 m 79 ls [.int s79_0]) := by
    intro u79_2 s79_0 x0_0_79 x0_1_79 x0_2_79 hf H locs hP hD hS ls hl
    refine lv_istore (lv' := [(5, .int s79_0), (0, .ref h0), (1, .ref h1), (2, .int u79_2)]) hx hb dX2_read_79 hl (by decide) rfl (fun ls hl => ?_)
    refine lv_aload_n hx hb dX2_read_81 rfl (lv_at hl 2 rfl) ?_
    refine va_get (ci := 1) (v := .int x1_2) (C := RX1) (T := TX1) (N := 6) hx hb ht0 iX1 hown hK hP 1 rfl rfl 2 (by decide) (ht0 _ wd_221) (fun _ h9 => h9) rfl dX2_read_82 ?_
    refine lv_if_eq (tgt := 96) hx hb dX2_read_85 (by decide) (fun c8 => ?_) (fun c8 => ?_)
    · have hf := of_pos hf c8
      refine lv_iconst (v := (-1 : Int32)) hx hb dX2_read_96 (by decide) ?_
      exact kJ97 _ _ _ _ _ _ hf _ _ hP hD hS _ (lv_sub hl [1, 3, 0] rfl)
    · have hf := of_neg hf c8
      refine lv_aload_n hx hb dX2_read_88 rfl (lv_at hl 2 rfl) ?_
      refine lv_iload_n hx hb dX2_read_89 rfl (lv_at hl 3 rfl) ?_
      obtain ⟨r_90_8, hc_r_90_8, hf⟩ := of_bnd hf
      refine cl_Vi (w2 := (wW_X2_read G h0 h1 h2 h3 h4 x0_0_79 x0_1_79 x0_2_79 x1_0 x1_1 x1_2 a2 a3 a4)) (As := [.int u79_2]) (rest := []) ⟨hx, hb, hml, hown, ht0⟩ (c_X1_pairWith l G h1 h4 h2 h3 _ x1_0 x1_1 x1_2 a4 F u79_2 _ hc_r_90_8) yk_X1_pairWith wd_846 ⟨rfl, rfl, by decide, by decide⟩ ⟨Nat.le_refl _, Nat.le_refl _⟩ hX hK hP hD hS hA [1, 4] [0, 2, 3] [0, 3, 1, 2, 4] (va_recv hK hP (ci := 1) (q0 := 1) rfl rfl) rfl rfl (by decide) rfl rfl rfl rfl rfl hl.1 rfl (Nat.le_of_ble_eq_true rfl) dX2_read_90 (fun H locs hP hD hS => ?_)
      refine lv_goto (tgt := 97) hx hb dX2_read_93 (by decide) ?_
      exact kJ97 _ _ _ _ _ _ hf _ _ hP hD hS _ (lv_sub hl [1, 3, 0] rfl)
  have kJ64 : ∀ (u64_2 : Int32) (u64_4 : Int32) (x0_0_64 : Int32) (x0_1_64 : Int32) (x0_2_64 : Int32), p_X2_read_J64 F x1_2 a2 a3 a4 u64_2 u64_4 x0_0_64 x0_1_64 x0_2_64 = some (e_x0_0, e_x0_1, e_x0_2) → ∀ (H : Heap) (locs : List Loc), va_P G.1 vwCl (wW_X2_read G h0 h1 h2 h3 h4 x0_0_64 x0_1_64 x0_2_64 x1_0 x1_1 x1_2 a2 a3 a4) H → va_D A (wW_X2_read G h0 h1 h2 h3 h4 x0_0_64 x0_1_64 x0_2_64 x1_0 x1_1 x1_2 a2 a3 a4) → va_S A s.heap H locs → ∀ ls : Array Slot, lv_has ls 7 [(0, .ref h0), (1, .ref h1), (2, .int u64_2), (4, .int u64_4)] → W p l e ({ frames := 2, cells := 0, slots := 0, locals := 50 } : Room) s m (List.toArray [.ref h0, .ref h1, .int b2, .int b3]) below meth c H locs 0 0 (MQ below (QvS G A (wW_X2_read G h0 h1 h2 h3 h4 e_x0_0 e_x0_1 e_x0_2 x1_0 x1_1 x1_2 a2 a3 a4)) (List.toArray [.ref h0, .ref h1, .int b2, .int b3]) s 0 0 A) (F0 m 64 ls []) := by
    intro u64_2 u64_4 x0_0_64 x0_1_64 x0_2_64 hf H locs hP hD hS ls hl
    refine lv_iload hx hb dX2_read_64 (lv_at hl 3 rfl) ?_
    refine lv_iconst (v := (-1 : Int32)) hx hb dX2_read_66 (by decide) ?_
    refine lv_icmp_ne (tgt := 78) hx hb dX2_read_67 (by decide) (fun c10 => ?_) (fun c10 => ?_)
    · have hf := of_neg hf c10
      refine lv_iconst (v := (-1 : Int32)) hx hb dX2_read_78 (by decide) ?_
      exact kJ79 _ _ _ _ _ hf _ _ hP hD hS _ (lv_sub hl [0, 1, 2] rfl)
    · have hf := of_pos hf c10
      refine lv_aload_n hx hb dX2_read_70 rfl (lv_at hl 1 rfl) ?_
      refine lv_iload_n hx hb dX2_read_71 rfl (lv_at hl 2 rfl) ?_
      obtain ⟨r_72_10, hc_r_72_10, hf⟩ := of_bnd hf
      refine cl_Vi (w2 := (wW_X2_read G h0 h1 h2 h3 h4 x0_0_64 x0_1_64 x0_2_64 x1_0 x1_1 x1_2 a2 a3 a4)) (As := [.int u64_2]) (rest := []) ⟨hx, hb, hml, hown, ht0⟩ (c_X1_placeWith l G h1 h3 h2 h4 _ x1_0 x1_1 x1_2 a3 F u64_2 _ hc_r_72_10) yk_X1_placeWith wd_845 ⟨rfl, rfl, by decide, by decide⟩ ⟨Nat.le_refl _, Nat.le_refl _⟩ hX hK hP hD hS hA [1, 3] [0, 2, 4] [0, 3, 1, 4, 2] (va_recv hK hP (ci := 1) (q0 := 1) rfl rfl) rfl rfl (by decide) rfl rfl rfl rfl rfl hl.1 rfl (Nat.le_of_ble_eq_true rfl) dX2_read_72 (fun H locs hP hD hS => ?_)
      refine lv_goto (tgt := 79) hx hb dX2_read_75 (by decide) ?_
      exact kJ79 _ _ _ _ _ hf _ _ hP hD hS _ (lv_sub hl [0, 1, 2] rfl)
  have kJ46 : ∀ (u46_2 : Int32) (u46_4 : Int32) (x0_0_46 : Int32) (x0_1_46 : Int32) (x0_2_46 : Int32), p_X2_read_J46 F x1_2 a2 a3 a4 u46_2 u46_4 x0_0_46 x0_1_46 x0_2_46 = some (e_x0_0, e_x0_1, e_x0_2) → ∀ (H : Heap) (locs : List Loc), va_P G.1 vwCl (wW_X2_read G h0 h1 h2 h3 h4 x0_0_46 x0_1_46 x0_2_46 x1_0 x1_1 x1_2 a2 a3 a4) H → va_D A (wW_X2_read G h0 h1 h2 h3 h4 x0_0_46 x0_1_46 x0_2_46 x1_0 x1_1 x1_2 a2 a3 a4) → va_S A s.heap H locs → ∀ ls : Array Slot, lv_has ls 7 [(0, .ref h0), (1, .ref h1), (2, .int u46_2), (4, .int u46_4)] → W p l e ({ frames := 2, cells := 0, slots := 0, locals := 50 } : Room) s m (List.toArray [.ref h0, .ref h1, .int b2, .int b3]) below meth c H locs 0 0 (MQ below (QvS G A (wW_X2_read G h0 h1 h2 h3 h4 e_x0_0 e_x0_1 e_x0_2 x1_0 x1_1 x1_2 a2 a3 a4)) (List.toArray [.ref h0, .ref h1, .int b2, .int b3]) s 0 0 A) (F0 m 46 ls []) := by
    intro u46_2 u46_4 x0_0_46 x0_1_46 x0_2_46 hf H locs hP hD hS ls hl
    refine lv_iload hx hb dX2_read_46 (lv_at hl 3 rfl) ?_
    refine lv_iconst (v := (-1 : Int32)) hx hb dX2_read_48 (by decide) ?_
    refine lv_icmp_eq (tgt := 64) hx hb dX2_read_49 (by decide) (fun c12 => ?_) (fun c12 => ?_)
    · have hf := of_pos hf c12
      exact kJ64 _ _ _ _ _ hf _ _ hP hD hS _ (lv_sub hl [0, 1, 2, 3] rfl)
    · have hf := of_neg hf c12
      refine lv_aload_n hx hb dX2_read_52 rfl (lv_at hl 0 rfl) ?_
      refine lv_aload_n hx hb dX2_read_53 rfl (lv_at hl 1 rfl) ?_
      refine lv_iload_n hx hb dX2_read_54 rfl (lv_at hl 2 rfl) ?_
      refine lv_iload hx hb dX2_read_55 (lv_at hl 3 rfl) ?_
      obtain ⟨⟨r_57_12, r_57_12_x0_0, r_57_12_x0_1, r_57_12_x0_2⟩, hc_r_57_12, hf⟩ := of_bnd hf
      refine cl_Vi (w2 := (wW_X2_read G h0 h1 h2 h3 h4 r_57_12_x0_0 r_57_12_x0_1 r_57_12_x0_2 x1_0 x1_1 x1_2 a2 a3 a4)) (As := [.ref h1, .int u46_2, .int u46_4]) (rest := []) ⟨hx, hb, hml, hown, ht0⟩ (c_X2_readBesideStuck l G h0 h1 h2 h3 h4 _ x0_0_46 x0_1_46 x0_2_46 x1_0 x1_1 x1_2 a2 a3 F u46_2 u46_4 _ _ _ _ hc_r_57_12) yk_X2_readBesideStuck wd_841 ⟨rfl, rfl, by decide, by decide⟩ ⟨Nat.le_refl _, Nat.le_refl _⟩ hX hK hP hD hS hA [0, 1, 2, 3] [4] [1, 2, 3, 4, 0] (va_recv hK hP (ci := 2) (q0 := 0) rfl rfl) rfl rfl (by decide) rfl rfl rfl rfl rfl hl.1 rfl (Nat.le_of_ble_eq_true rfl) dX2_read_57 (fun H locs hP hD hS => ?_)
      refine lv_if_eq (tgt := 64) hx hb dX2_read_60 (by decide) (fun c14 => ?_) (fun c14 => ?_)
      · have hf := of_pos hf c14
        exact kJ64 _ _ _ _ _ hf _ _ hP hD hS _ (lv_sub hl [0, 1, 2, 3] rfl)
      · have hf := of_neg hf c14
        cases hf
        exact ret_v hx hb hr hlk hK hP hD hS dX2_read_63
  have kJ29 : ∀ (u29_2 : Int32) (u29_3 : Int32) (s29_0 : Int32) (x0_0_29 : Int32) (x0_1_29 : Int32) (x0_2_29 : Int32), p_X2_read_J29 F x1_2 a2 a3 a4 u29_2 u29_3 s29_0 x0_0_29 x0_1_29 x0_2_29 = some (e_x0_0, e_x0_1, e_x0_2) → ∀ (H : Heap) (locs : List Loc), va_P G.1 vwCl (wW_X2_read G h0 h1 h2 h3 h4 x0_0_29 x0_1_29 x0_2_29 x1_0 x1_1 x1_2 a2 a3 a4) H → va_D A (wW_X2_read G h0 h1 h2 h3 h4 x0_0_29 x0_1_29 x0_2_29 x1_0 x1_1 x1_2 a2 a3 a4) → va_S A s.heap H locs → ∀ ls : Array Slot, lv_has ls 7 [(0, .ref h0), (1, .ref h1), (2, .int u29_2), (3, .int u29_3)] → W p l e ({ frames := 2, cells := 0, slots := 0, locals := 50 } : Room) s m (List.toArray [.ref h0, .ref h1, .int b2, .int b3]) below meth c H locs 0 0 (MQ below (QvS G A (wW_X2_read G h0 h1 h2 h3 h4 e_x0_0 e_x0_1 e_x0_2 x1_0 x1_1 x1_2 a2 a3 a4)) (List.toArray [.ref h0, .ref h1, .int b2, .int b3]) s 0 0 A) (F0 m 29 ls [.int s29_0]) := by
    intro u29_2 u29_3 s29_0 x0_0_29 x0_1_29 x0_2_29 hf H locs hP hD hS ls hl
    refine lv_istore (lv' := [(4, .int s29_0), (0, .ref h0), (1, .ref h1), (2, .int u29_2), (3, .int u29_3)]) hx hb dX2_read_29 hl (by decide) rfl (fun ls hl => ?_)
    refine lv_iload_n hx hb dX2_read_31 rfl (lv_at hl 4 rfl) ?_
    refine lv_if_eq (tgt := 46) hx hb dX2_read_32 (by decide) (fun c15 => ?_) (fun c15 => ?_)
    · have hf := of_pos hf c15
      exact kJ46 _ _ _ _ _ hf _ _ hP hD hS _ (lv_sub hl [1, 2, 3, 0] rfl)
    · have hf := of_neg hf c15
      refine lv_aload_n hx hb dX2_read_35 rfl (lv_at hl 1 rfl) ?_
      refine lv_aload_n hx hb dX2_read_36 rfl (lv_at hl 2 rfl) ?_
      refine lv_iload_n hx hb dX2_read_37 rfl (lv_at hl 3 rfl) ?_
      refine lv_iload_n hx hb dX2_read_38 rfl (lv_at hl 4 rfl) ?_
      obtain ⟨⟨r_39_15, r_39_15_x0_0, r_39_15_x0_1, r_39_15_x0_2⟩, hc_r_39_15, hf⟩ := of_bnd hf
      refine cl_Vi (w2 := (wW_X2_read G h0 h1 h2 h3 h4 r_39_15_x0_0 r_39_15_x0_1 r_39_15_x0_2 x1_0 x1_1 x1_2 a2 a3 a4)) (As := [.ref h1, .int u29_2, .int u29_3]) (rest := []) ⟨hx, hb, hml, hown, ht0⟩ (c_X2_readByStuck l G h0 h1 h2 h3 h4 _ x0_0_29 x0_1_29 x0_2_29 x1_0 x1_1 x1_2 a2 F u29_2 u29_3 _ _ _ _ hc_r_39_15) yk_X2_readByStuck wd_837 ⟨rfl, rfl, by decide, by decide⟩ ⟨Nat.le_refl _, Nat.le_refl _⟩ hX hK hP hD hS hA [0, 1, 2] [3, 4] [2, 3, 4, 0, 1] (va_recv hK hP (ci := 2) (q0 := 0) rfl rfl) rfl rfl (by decide) rfl rfl rfl rfl rfl hl.1 rfl (Nat.le_of_ble_eq_true rfl) dX2_read_39 (fun H locs hP hD hS => ?_)
      refine lv_if_eq (tgt := 46) hx hb dX2_read_42 (by decide) (fun c17 => ?_) (fun c17 => ?_)
      · have hf := of_pos hf c17
        exact kJ46 _ _ _ _ _ hf _ _ hP hD hS _ (lv_sub hl [1, 2, 3, 0] rfl)
      · have hf := of_neg hf c17
        cases hf
        exact ret_v hx hb hr hlk hK hP hD hS dX2_read_45
  refine lv_aload_n hx hb dX2_read_0 rfl (lv_at hl 0 rfl) ?_
  refine lv_iconst (v := (0 : Int32)) hx hb dX2_read_1 (by decide) ?_
  refine lv_iconst (v := (-1 : Int32)) hx hb dX2_read_2 (by decide) ?_
  refine lv_iconst (v := (0 : Int32)) hx hb dX2_read_3 (by decide) ?_
  obtain ⟨⟨r_4_17, r_4_17_x0_0, r_4_17_x0_1, r_4_17_x0_2⟩, hc_r_4_17, hf⟩ := of_bnd hf
  refine cl_Vi (w2 := (wW_X2_read G h0 h1 h2 h3 h4 r_4_17_x0_0 r_4_17_x0_1 r_4_17_x0_2 x1_0 x1_1 x1_2 a2 a3 a4)) (As := [.int (0 : Int32), .int (-1 : Int32), .int (0 : Int32)]) (rest := []) ⟨hx, hb, hml, hown, ht0⟩ (c_X2_settle l G h0 _ x0_0 x0_1 x0_2 F (0 : Int32) (-1 : Int32) (0 : Int32) _ _ _ _ hc_r_4_17) yk_X2_settle wd_829 ⟨rfl, rfl, by decide, by decide⟩ ⟨Nat.le_refl _, Nat.le_refl _⟩ hX hK hP hD hS hA [0] [1, 2, 3, 4] [4, 0, 1, 2, 3] (va_recv hK hP (ci := 2) (q0 := 0) rfl rfl) rfl rfl (by decide) rfl rfl rfl rfl rfl hl.1 rfl (Nat.le_of_ble_eq_true rfl) dX2_read_4 (fun H locs hP hD hS => ?_)
  refine lv_pop hx hb dX2_read_7 rfl ?_
  refine lv_iload_n hx hb dX2_read_8 rfl (lv_at hl 2 rfl) ?_
  refine lv_if_ne (tgt := 13) hx hb dX2_read_9 (by decide) (fun c19 => ?_) (fun c19 => ?_)
  · have hf := of_neg hf c19
    refine lv_iload_n hx hb dX2_read_13 rfl (lv_at hl 3 rfl) ?_
    obtain ⟨r_14_19, hc_r_14_19, hf⟩ := of_bnd hf
    refine cl_Si (w2 := (wW_X2_read G h0 h1 h2 h3 h4 r_4_17_x0_0 r_4_17_x0_1 r_4_17_x0_2 x1_0 x1_1 x1_2 a2 a3 a4)) (As := [.int b3]) (rest := []) ⟨hx, hb, hml, hown, ht0⟩ (c_J6_bitCount_0f7a4 l G _ F b3 _ hc_r_14_19) yk_J6_bitCount_0f7a4 wd_833 ⟨rfl, rfl, by decide, by decide⟩ ⟨Nat.le_refl _, Nat.le_refl _⟩ hX hK hP hD hS hA [] [0, 1, 2, 3, 4] [0, 1, 2, 3, 4] rfl rfl (by decide) rfl rfl rfl rfl rfl hl.1 rfl (Nat.le_of_ble_eq_true rfl) dX2_read_14 (fun H locs hP hD hS => ?_)
    refine lv_iconst (v := (1 : Int32)) hx hb dX2_read_17 (by decide) ?_
    refine lv_icmp_ne (tgt := 28) hx hb dX2_read_18 (by decide) (fun c21 => ?_) (fun c21 => ?_)
    · have hf := of_neg hf c21
      refine lv_iconst (v := (-1 : Int32)) hx hb dX2_read_28 (by decide) ?_
      exact kJ29 _ _ _ _ _ _ hf _ _ hP hD hS _ (lv_sub hl [0, 1, 2, 3] rfl)
    · have hf := of_pos hf c21
      refine lv_iload_n hx hb dX2_read_21 rfl (lv_at hl 3 rfl) ?_
      obtain ⟨r_22_21, hc_r_22_21, hf⟩ := of_bnd hf
      refine cl_SNi (w2 := (wW_X2_read G h0 h1 h2 h3 h4 r_4_17_x0_0 r_4_17_x0_1 r_4_17_x0_2 x1_0 x1_1 x1_2 a2 a3 a4)) (As := [.int b3]) (rest := []) ⟨hx, hb, hml, hown, ht0⟩ (c_X10_lowestPlace l G _ F b3 _ hc_r_22_21) yk_X10_lowestPlace (List.mem_of_getElem? (i := 15) rfl) ⟨rfl, rfl, by decide, by decide⟩ ⟨Nat.le_refl _, Nat.le_refl _⟩ hX hK hP hD hS hA [] [0, 1, 2, 3, 4] [0, 1, 2, 3, 4] rfl rfl (by decide) rfl rfl rfl rfl rfl hl.1 rfl (Nat.le_of_ble_eq_true rfl) dX2_read_22 (fun H locs hP hD hS => ?_)
      refine lv_goto (tgt := 29) hx hb dX2_read_25 (by decide) ?_
      exact kJ29 _ _ _ _ _ _ hf _ _ hP hD hS _ (lv_sub hl [0, 1, 2, 3] rfl)
  · have hf := of_pos hf c19
    cases hf
    exact ret_v hx hb hr hlk hK hP hD hS dX2_read_12
theorem yk_X2_read : ykV yX2_read RX2 cX2_read 7 none 3 := ⟨wd_826, wd_827, wd_135, wd_828, rfl, by decide +kernel, by decide +kernel, by decide +kernel⟩
theorem dX2_judge_0 : decode cX2_judge 0 = .ok (.aload_n 0, 1) := by decide +kernel
theorem dX2_judge_1 : decode cX2_judge 1 = .ok (.invokevirtual 57, 3) := by decide +kernel
theorem dX2_judge_4 : decode cX2_judge 4 = .ok (.ifCond .eq 5, 3) := by decide +kernel
theorem dX2_judge_7 : decode cX2_judge 7 = .ok (.iconst 1, 1) := by decide +kernel
theorem dX2_judge_8 : decode cX2_judge 8 = .ok (.ireturn, 1) := by decide +kernel
theorem dX2_judge_9 : decode cX2_judge 9 = .ok (.aload_n 0, 1) := by decide +kernel
theorem dX2_judge_10 : decode cX2_judge 10 = .ok (.getfield 54, 3) := by decide +kernel
theorem dX2_judge_13 : decode cX2_judge 13 = .ok (.iload_n 1, 1) := by decide +kernel
theorem dX2_judge_14 : decode cX2_judge 14 = .ok (.if_icmp .ne 7, 3) := by decide +kernel
theorem dX2_judge_17 : decode cX2_judge 17 = .ok (.iconst 0, 1) := by decide +kernel
theorem dX2_judge_18 : decode cX2_judge 18 = .ok (.goto 4, 3) := by decide +kernel
theorem dX2_judge_21 : decode cX2_judge 21 = .ok (.iconst 2, 1) := by decide +kernel
theorem dX2_judge_22 : decode cX2_judge 22 = .ok (.ireturn, 1) := by decide +kernel
def wW_X2_judge (G : GG) (h0 : Nat) (x0_0 : Int32) (x0_1 : Int32) (x0_2 : Int32) : va_W := [(h0, .inr (2, [.int x0_0, .int x0_1, .int x0_2]))]
set_option maxHeartbeats 4000000 in
set_option maxRecDepth 100000 in
theorem c_X2_judge (l : Launch) (G : GG) (h0 : Nat) (sz : Nat) (x0_0 : Int32) (x0_1 : Int32) (x0_2 : Int32) (F : Nat) (b1 : Int32)  (r0 : Int32) (hf : p_X2_judge F x0_0 x0_2 b1 = some r0) : Met l yX2_judge (.code yX2_judge cX2_judge 2 (some .int) :: gtbl) ({ frames := 1, cells := 0, slots := 0, locals := 20 } : Room) (PcS G [.ref h0, .int b1] (wW_X2_judge G h0 x0_0 x0_1 x0_2) sz) (QiS G r0 (va_A (wW_X2_judge G h0 x0_0 x0_1 x0_2) sz) (wW_X2_judge G h0 x0_0 x0_1 x0_2)) 0 0 (va_A (wW_X2_judge G h0 x0_0 x0_1 x0_2) sz) := by
  refine met_start (by decide) (Nat.le_of_ble_eq_true rfl) ?_
  intro p e s m below meth c hC hr hlk hnm hK hP hD hA hS hX ls hl
  obtain ⟨hx, hb, hml, hown, ht0⟩ := hC
  have hown : s.vm.findClass RX2 = some m.cls := hown
  generalize va_A (wW_X2_judge G h0 x0_0 x0_1 x0_2) sz = A at hD hA hS hX ⊢
  have hl : lv_has ls 2 [(0, .ref h0), (1, .int b1)] := hl
  have hf : p_X2_judge F x0_0 x0_2 b1 = some r0 := hf
  refine lv_aload_n hx hb dX2_judge_0 rfl (lv_at hl 0 rfl) ?_
  obtain ⟨r_1_0, hc_r_1_0, hf⟩ := of_bnd hf
  refine cl_Vi (w2 := (wW_X2_judge G h0 x0_0 x0_1 x0_2)) (As := []) (rest := []) ⟨hx, hb, hml, hown, ht0⟩ (c_X2_isTold l G h0 _ x0_0 x0_1 x0_2 F _ hc_r_1_0) yk_X2_isTold wd_866 ⟨rfl, rfl, by decide, by decide⟩ ⟨Nat.le_refl _, Nat.le_refl _⟩ hX hK hP hD hS hA [0] [] [0] (va_recv hK hP (ci := 2) (q0 := 0) rfl rfl) rfl rfl (by decide) rfl rfl rfl rfl rfl hl.1 rfl (Nat.le_of_ble_eq_true rfl) dX2_judge_1 (fun H locs hP hD hS => ?_)
  refine lv_if_eq (tgt := 9) hx hb dX2_judge_4 (by decide) (fun c2 => ?_) (fun c2 => ?_)
  · have hf := of_pos hf c2
    refine lv_aload_n hx hb dX2_judge_9 rfl (lv_at hl 0 rfl) ?_
    refine va_get (ci := 2) (v := .int x0_2) (C := RX2) (T := TX2) (N := 3) hx hb ht0 iX2 hown hK hP 0 rfl rfl 2 (by decide) (ht0 _ wd_375) (fun _ h9 => h9) rfl dX2_judge_10 ?_
    refine lv_iload_n hx hb dX2_judge_13 rfl (lv_at hl 1 rfl) ?_
    refine lv_icmp_ne (tgt := 21) hx hb dX2_judge_14 (by decide) (fun c3 => ?_) (fun c3 => ?_)
    · have hf := of_neg hf c3
      refine lv_iconst (v := (2 : Int32)) hx hb dX2_judge_21 (by decide) ?_
      cases hf
      exact ret_i hx hb hr hlk hK hP hD hS dX2_judge_22
    · have hf := of_pos hf c3
      refine lv_iconst (v := (0 : Int32)) hx hb dX2_judge_17 (by decide) ?_
      refine lv_goto (tgt := 22) hx hb dX2_judge_18 (by decide) ?_
      cases hf
      exact ret_i hx hb hr hlk hK hP hD hS dX2_judge_22
  · have hf := of_neg hf c2
    refine lv_iconst (v := (1 : Int32)) hx hb dX2_judge_7 (by decide) ?_
    cases hf
    exact ret_i hx hb hr hlk hK hP hD hS dX2_judge_8
theorem yk_X2_judge : ykV yX2_judge RX2 cX2_judge 2 (some .int) 1 := ⟨wd_863, wd_864, wd_135, wd_865, rfl, by decide +kernel, by decide +kernel, by decide +kernel⟩
theorem dX10_depthOfGates_0 : decode cX10_depthOfGates 0 = .ok (.iload_n 0, 1) := by decide +kernel
theorem dX10_depthOfGates_1 : decode cX10_depthOfGates 1 = .ok (.iconst 1, 1) := by decide +kernel
theorem dX10_depthOfGates_2 : decode cX10_depthOfGates 2 = .ok (.if_icmp .ge 5, 3) := by decide +kernel
theorem dX10_depthOfGates_5 : decode cX10_depthOfGates 5 = .ok (.iconst (-1), 1) := by decide +kernel
theorem dX10_depthOfGates_6 : decode cX10_depthOfGates 6 = .ok (.ireturn, 1) := by decide +kernel
theorem dX10_depthOfGates_7 : decode cX10_depthOfGates 7 = .ok (.iconst 0, 1) := by decide +kernel
theorem dX10_depthOfGates_8 : decode cX10_depthOfGates 8 = .ok (.istore_n 1, 1) := by decide +kernel
theorem dX10_depthOfGates_9 : decode cX10_depthOfGates 9 = .ok (.iconst 1, 1) := by decide +kernel
theorem dX10_depthOfGates_10 : decode cX10_depthOfGates 10 = .ok (.istore_n 2, 1) := by decide +kernel
theorem dX10_depthOfGates_11 : decode cX10_depthOfGates 11 = .ok (.iload_n 2, 1) := by decide +kernel
theorem dX10_depthOfGates_12 : decode cX10_depthOfGates 12 = .ok (.iload_n 0, 1) := by decide +kernel
theorem dX10_depthOfGates_13 : decode cX10_depthOfGates 13 = .ok (.if_icmp .ge 19, 3) := by decide +kernel
theorem dX10_depthOfGates_16 : decode cX10_depthOfGates 16 = .ok (.iload_n 1, 1) := by decide +kernel
theorem dX10_depthOfGates_17 : decode cX10_depthOfGates 17 = .ok (.bipush 32, 2) := by decide +kernel
theorem dX10_depthOfGates_19 : decode cX10_depthOfGates 19 = .ok (.if_icmp .ge 13, 3) := by decide +kernel
theorem dX10_depthOfGates_22 : decode cX10_depthOfGates 22 = .ok (.iinc 1 1, 3) := by decide +kernel
theorem dX10_depthOfGates_25 : decode cX10_depthOfGates 25 = .ok (.iload_n 2, 1) := by decide +kernel
theorem dX10_depthOfGates_26 : decode cX10_depthOfGates 26 = .ok (.iconst 2, 1) := by decide +kernel
theorem dX10_depthOfGates_27 : decode cX10_depthOfGates 27 = .ok (.imul, 1) := by decide +kernel
theorem dX10_depthOfGates_28 : decode cX10_depthOfGates 28 = .ok (.istore_n 2, 1) := by decide +kernel
theorem dX10_depthOfGates_29 : decode cX10_depthOfGates 29 = .ok (.goto (-18), 3) := by decide +kernel
theorem dX10_depthOfGates_32 : decode cX10_depthOfGates 32 = .ok (.iload_n 1, 1) := by decide +kernel
theorem dX10_depthOfGates_33 : decode cX10_depthOfGates 33 = .ok (.ireturn, 1) := by decide +kernel
set_option maxHeartbeats 4000000 in
set_option maxRecDepth 100000 in
theorem c_X10_depthOfGates (l : Launch) (G : GG) (sz : Nat)  (F : Nat) (b0 : Int32)  (r0 : Int32) (hf : p_X10_depthOfGates F b0 = some r0) : Met l yX10_depthOfGates (.code yX10_depthOfGates cX10_depthOfGates 3 (some .int) :: gtbl) ({ frames := 0, cells := 0, slots := 0, locals := 0 } : Room) (PcS G [.int b0] [] sz) (QiS G r0 (va_A [] sz) []) 0 0 (va_A [] sz) := by
  refine met_start (by decide) (Nat.le_of_ble_eq_true rfl) ?_
  intro p e s m below meth c hC hr hlk hnm hK hP hD hA hS hX ls hl
  obtain ⟨hx, hb, hml, hown, ht0⟩ := hC
  have hown : s.vm.findClass RX10 = some m.cls := hown
  generalize va_A [] sz = A at hD hA hS hX ⊢
  have hl : lv_has ls 3 [(0, .int b0)] := hl
  have hf : p_X10_depthOfGates F b0 = some r0 := hf
  have kL11 : ∀ (c11_0 : Int32) (n11 : Nat) (u11_1 : Int32) (u11_2 : Int32), p_X10_depthOfGates_L11 F c11_0 n11 u11_1 u11_2 = some r0 → ∀ (H : Heap) (locs : List Loc), va_P G.1 vwCl [] H → va_D A [] → va_S A s.heap H locs → ∀ ls : Array Slot, lv_has ls 3 [(0, .int c11_0), (1, .int u11_1), (2, .int u11_2)] → W p l e ({ frames := 0, cells := 0, slots := 0, locals := 0 } : Room) s m (List.toArray [.int b0]) below meth c H locs 0 0 (MQ below (QiS G r0 A []) (List.toArray [.int b0]) s 0 0 A) (F0 m 11 ls []) := by
    intro c11_0 n11
    induction n11 with
    | zero =>
      intro u11_1 u11_2 hf
      cases hf
    | succ n11 ih11 =>
      intro u11_1 u11_2 hf H locs hP hD hS ls hl
      have hf : p_X10_depthOfGates_L11b F c11_0 (p_X10_depthOfGates_L11 F c11_0 n11) u11_1 u11_2 = some r0 := hf
      refine lv_iload_n hx hb dX10_depthOfGates_11 rfl (lv_at hl 2 rfl) ?_
      refine lv_iload_n hx hb dX10_depthOfGates_12 rfl (lv_at hl 0 rfl) ?_
      refine lv_icmp_ge (tgt := 32) hx hb dX10_depthOfGates_13 (by decide) (fun c1 => ?_) (fun c1 => ?_)
      · have hf := of_pos hf c1
        refine lv_iload_n hx hb dX10_depthOfGates_32 rfl (lv_at hl 1 rfl) ?_
        cases hf
        exact ret_i hx hb hr hlk hK hP hD hS dX10_depthOfGates_33
      · have hf := of_neg hf c1
        refine lv_iload_n hx hb dX10_depthOfGates_16 rfl (lv_at hl 1 rfl) ?_
        refine lv_bipush (v := (32 : Int32)) hx hb dX10_depthOfGates_17 (by decide) ?_
        refine lv_icmp_ge (tgt := 32) hx hb dX10_depthOfGates_19 (by decide) (fun c2 => ?_) (fun c2 => ?_)
        · have hf := of_pos hf c2
          refine lv_iload_n hx hb dX10_depthOfGates_32 rfl (lv_at hl 1 rfl) ?_
          cases hf
          exact ret_i hx hb hr hlk hK hP hD hS dX10_depthOfGates_33
        · have hf := of_neg hf c2
          refine lv_iinc (v := u11_1 + (1 : Int32)) (lv' := [(1, .int (u11_1 + (1 : Int32))), (0, .int c11_0), (2, .int u11_2)]) hx hb dX10_depthOfGates_22 hl (k := 1) rfl (by rfl) (by decide) rfl (fun ls hl => ?_)
          refine lv_iload_n hx hb dX10_depthOfGates_25 rfl (lv_at hl 2 rfl) ?_
          refine lv_iconst (v := (2 : Int32)) hx hb dX10_depthOfGates_26 (by decide) ?_
          refine lv_imul hx hb dX10_depthOfGates_27 ?_
          refine lv_istore_n (lv' := [(2, .int (u11_2 * (2 : Int32))), (1, .int (u11_1 + (1 : Int32))), (0, .int c11_0)]) hx hb dX10_depthOfGates_28 rfl hl (by decide) rfl (fun ls hl => ?_)
          refine lv_goto (tgt := 11) hx hb dX10_depthOfGates_29 (by decide) ?_
          exact ih11 _ _ hf _ _ hP hD hS _ (lv_sub hl [2, 1, 0] rfl)
  refine lv_iload_n hx hb dX10_depthOfGates_0 rfl (lv_at hl 0 rfl) ?_
  refine lv_iconst (v := (1 : Int32)) hx hb dX10_depthOfGates_1 (by decide) ?_
  refine lv_icmp_ge (tgt := 7) hx hb dX10_depthOfGates_2 (by decide) (fun c3 => ?_) (fun c3 => ?_)
  · have hf := of_pos hf c3
    refine lv_iconst (v := (0 : Int32)) hx hb dX10_depthOfGates_7 (by decide) ?_
    refine lv_istore_n (lv' := [(1, .int (0 : Int32)), (0, .int b0)]) hx hb dX10_depthOfGates_8 rfl hl (by decide) rfl (fun ls hl => ?_)
    refine lv_iconst (v := (1 : Int32)) hx hb dX10_depthOfGates_9 (by decide) ?_
    refine lv_istore_n (lv' := [(2, .int (1 : Int32)), (1, .int (0 : Int32)), (0, .int b0)]) hx hb dX10_depthOfGates_10 rfl hl (by decide) rfl (fun ls hl => ?_)
    exact kL11 _ _ _ _ hf _ _ hP hD hS _ (lv_sub hl [2, 1, 0] rfl)
  · have hf := of_neg hf c3
    refine lv_iconst (v := (-1 : Int32)) hx hb dX10_depthOfGates_5 (by decide) ?_
    cases hf
    exact ret_i hx hb hr hlk hK hP hD hS dX10_depthOfGates_6
theorem yk_X10_depthOfGates : ykS yX10_depthOfGates cX10_depthOfGates 3 (some .int) 1 := ⟨wd_1044, wd_127, wd_1045, by decide +kernel, by decide +kernel, by decide +kernel⟩
theorem dX10_threesOf_0 : decode cX10_threesOf 0 = .ok (.iload_n 0, 1) := by decide +kernel
theorem dX10_threesOf_1 : decode cX10_threesOf 1 = .ok (.iload_n 0, 1) := by decide +kernel
theorem dX10_threesOf_2 : decode cX10_threesOf 2 = .ok (.iconst 1, 1) := by decide +kernel
theorem dX10_threesOf_3 : decode cX10_threesOf 3 = .ok (.isub, 1) := by decide +kernel
theorem dX10_threesOf_4 : decode cX10_threesOf 4 = .ok (.imul, 1) := by decide +kernel
theorem dX10_threesOf_5 : decode cX10_threesOf 5 = .ok (.iload_n 0, 1) := by decide +kernel
theorem dX10_threesOf_6 : decode cX10_threesOf 6 = .ok (.iconst 2, 1) := by decide +kernel
theorem dX10_threesOf_7 : decode cX10_threesOf 7 = .ok (.isub, 1) := by decide +kernel
theorem dX10_threesOf_8 : decode cX10_threesOf 8 = .ok (.imul, 1) := by decide +kernel
theorem dX10_threesOf_9 : decode cX10_threesOf 9 = .ok (.bipush 6, 2) := by decide +kernel
theorem dX10_threesOf_11 : decode cX10_threesOf 11 = .ok (.idiv, 1) := by decide +kernel
theorem dX10_threesOf_12 : decode cX10_threesOf 12 = .ok (.ireturn, 1) := by decide +kernel
set_option maxHeartbeats 4000000 in
set_option maxRecDepth 100000 in
theorem c_X10_threesOf (l : Launch) (G : GG) (sz : Nat)  (F : Nat) (b0 : Int32)  (r0 : Int32) (hf : p_X10_threesOf F b0 = some r0) : Met l yX10_threesOf (.code yX10_threesOf cX10_threesOf 1 (some .int) :: gtbl) ({ frames := 0, cells := 0, slots := 0, locals := 0 } : Room) (PcS G [.int b0] [] sz) (QiS G r0 (va_A [] sz) []) 0 0 (va_A [] sz) := by
  refine met_start (by decide) (Nat.le_of_ble_eq_true rfl) ?_
  intro p e s m below meth c hC hr hlk hnm hK hP hD hA hS hX ls hl
  obtain ⟨hx, hb, hml, hown, ht0⟩ := hC
  have hown : s.vm.findClass RX10 = some m.cls := hown
  generalize va_A [] sz = A at hD hA hS hX ⊢
  have hl : lv_has ls 1 [(0, .int b0)] := hl
  have hf : p_X10_threesOf F b0 = some r0 := hf
  refine lv_iload_n hx hb dX10_threesOf_0 rfl (lv_at hl 0 rfl) ?_
  refine lv_iload_n hx hb dX10_threesOf_1 rfl (lv_at hl 0 rfl) ?_
  refine lv_iconst (v := (1 : Int32)) hx hb dX10_threesOf_2 (by decide) ?_
  refine lv_isub hx hb dX10_threesOf_3 ?_
  refine lv_imul hx hb dX10_threesOf_4 ?_
  refine lv_iload_n hx hb dX10_threesOf_5 rfl (lv_at hl 0 rfl) ?_
  refine lv_iconst (v := (2 : Int32)) hx hb dX10_threesOf_6 (by decide) ?_
  refine lv_isub hx hb dX10_threesOf_7 ?_
  refine lv_imul hx hb dX10_threesOf_8 ?_
  refine lv_bipush (v := (6 : Int32)) hx hb dX10_threesOf_9 (by decide) ?_
  refine lv_idiv hx hb dX10_threesOf_11 (by decide) ?_
  cases hf
  exact ret_i hx hb hr hlk hK hP hD hS dX10_threesOf_12
theorem yk_X10_threesOf : ykS yX10_threesOf cX10_threesOf 1 (some .int) 1 := ⟨wd_1085, wd_127, wd_1086, by decide +kernel, by decide +kernel, by decide +kernel⟩
theorem dX10_dataColumns_0 : decode cX10_dataColumns 0 = .ok (.iconst 1, 1) := by decide +kernel
theorem dX10_dataColumns_1 : decode cX10_dataColumns 1 = .ok (.iload_n 0, 1) := by decide +kernel
theorem dX10_dataColumns_2 : decode cX10_dataColumns 2 = .ok (.iconst 1, 1) := by decide +kernel
theorem dX10_dataColumns_3 : decode cX10_dataColumns 3 = .ok (.isub, 1) := by decide +kernel
theorem dX10_dataColumns_4 : decode cX10_dataColumns 4 = .ok (.ishl, 1) := by decide +kernel
theorem dX10_dataColumns_5 : decode cX10_dataColumns 5 = .ok (.iload_n 0, 1) := by decide +kernel
theorem dX10_dataColumns_6 : decode cX10_dataColumns 6 = .ok (.isub, 1) := by decide +kernel
theorem dX10_dataColumns_7 : decode cX10_dataColumns 7 = .ok (.ireturn, 1) := by decide +kernel
set_option maxHeartbeats 4000000 in
set_option maxRecDepth 100000 in
theorem c_X10_dataColumns (l : Launch) (G : GG) (sz : Nat)  (F : Nat) (b0 : Int32)  (r0 : Int32) (hf : p_X10_dataColumns F b0 = some r0) : Met l yX10_dataColumns (.code yX10_dataColumns cX10_dataColumns 1 (some .int) :: gtbl) ({ frames := 0, cells := 0, slots := 0, locals := 0 } : Room) (PcS G [.int b0] [] sz) (QiS G r0 (va_A [] sz) []) 0 0 (va_A [] sz) := by
  refine met_start (by decide) (Nat.le_of_ble_eq_true rfl) ?_
  intro p e s m below meth c hC hr hlk hnm hK hP hD hA hS hX ls hl
  obtain ⟨hx, hb, hml, hown, ht0⟩ := hC
  have hown : s.vm.findClass RX10 = some m.cls := hown
  generalize va_A [] sz = A at hD hA hS hX ⊢
  have hl : lv_has ls 1 [(0, .int b0)] := hl
  have hf : p_X10_dataColumns F b0 = some r0 := hf
  refine lv_iconst (v := (1 : Int32)) hx hb dX10_dataColumns_0 (by decide) ?_
  refine lv_iload_n hx hb dX10_dataColumns_1 rfl (lv_at hl 0 rfl) ?_
  refine lv_iconst (v := (1 : Int32)) hx hb dX10_dataColumns_2 (by decide) ?_
  refine lv_isub hx hb dX10_dataColumns_3 ?_
  refine lv_ishl hx hb dX10_dataColumns_4 ?_
  refine lv_iload_n hx hb dX10_dataColumns_5 rfl (lv_at hl 0 rfl) ?_
  refine lv_isub hx hb dX10_dataColumns_6 ?_
  cases hf
  exact ret_i hx hb hr hlk hK hP hD hS dX10_dataColumns_7
theorem yk_X10_dataColumns : ykS yX10_dataColumns cX10_dataColumns 1 (some .int) 1 := ⟨wd_1206, wd_127, wd_1207, by decide +kernel, by decide +kernel, by decide +kernel⟩
theorem dX10_isStorm_0 : decode cX10_isStorm 0 = .ok (.iload_n 0, 1) := by decide +kernel
theorem dX10_isStorm_1 : decode cX10_isStorm 1 = .ok (.ifCond .lt 35, 3) := by decide +kernel
theorem dX10_isStorm_4 : decode cX10_isStorm 4 = .ok (.iload_n 0, 1) := by decide +kernel
theorem dX10_isStorm_5 : decode cX10_isStorm 5 = .ok (.sipush 9999, 3) := by decide +kernel
theorem dX10_isStorm_8 : decode cX10_isStorm 8 = .ok (.if_icmp .gt 28, 3) := by decide +kernel
theorem dX10_isStorm_11 : decode cX10_isStorm 11 = .ok (.iload_n 1, 1) := by decide +kernel
theorem dX10_isStorm_12 : decode cX10_isStorm 12 = .ok (.ifCond .lt 24, 3) := by decide +kernel
theorem dX10_isStorm_15 : decode cX10_isStorm 15 = .ok (.iload_n 1, 1) := by decide +kernel
theorem dX10_isStorm_16 : decode cX10_isStorm 16 = .ok (.sipush 200, 3) := by decide +kernel
theorem dX10_isStorm_19 : decode cX10_isStorm 19 = .ok (.if_icmp .gt 17, 3) := by decide +kernel
theorem dX10_isStorm_22 : decode cX10_isStorm 22 = .ok (.iload_n 2, 1) := by decide +kernel
theorem dX10_isStorm_23 : decode cX10_isStorm 23 = .ok (.ifCond .lt 13, 3) := by decide +kernel
theorem dX10_isStorm_26 : decode cX10_isStorm 26 = .ok (.iload_n 2, 1) := by decide +kernel
theorem dX10_isStorm_27 : decode cX10_isStorm 27 = .ok (.bipush 50, 2) := by decide +kernel
theorem dX10_isStorm_29 : decode cX10_isStorm 29 = .ok (.if_icmp .gt 7, 3) := by decide +kernel
theorem dX10_isStorm_32 : decode cX10_isStorm 32 = .ok (.iconst 1, 1) := by decide +kernel
theorem dX10_isStorm_33 : decode cX10_isStorm 33 = .ok (.goto 4, 3) := by decide +kernel
theorem dX10_isStorm_36 : decode cX10_isStorm 36 = .ok (.iconst 0, 1) := by decide +kernel
theorem dX10_isStorm_37 : decode cX10_isStorm 37 = .ok (.ireturn, 1) := by decide +kernel
set_option maxHeartbeats 4000000 in
set_option maxRecDepth 100000 in
theorem c_X10_isStorm (l : Launch) (G : GG) (sz : Nat)  (F : Nat) (b0 : Int32) (b1 : Int32) (b2 : Int32)  (r0 : Int32) (hf : p_X10_isStorm F b0 b1 b2 = some r0) : Met l yX10_isStorm (.code yX10_isStorm cX10_isStorm 3 (some .boolean) :: gtbl) ({ frames := 0, cells := 0, slots := 0, locals := 0 } : Room) (PcS G [.int b0, .int b1, .int b2] [] sz) (QiS G r0 (va_A [] sz) []) 0 0 (va_A [] sz) := by
  refine met_start (by decide) (Nat.le_of_ble_eq_true rfl) ?_
  intro p e s m below meth c hC hr hlk hnm hK hP hD hA hS hX ls hl
  obtain ⟨hx, hb, hml, hown, ht0⟩ := hC
  have hown : s.vm.findClass RX10 = some m.cls := hown
  generalize va_A [] sz = A at hD hA hS hX ⊢
  have hl : lv_has ls 3 [(0, .int b0), (1, .int b1), (2, .int b2)] := hl
  have hf : p_X10_isStorm F b0 b1 b2 = some r0 := hf
  refine lv_iload_n hx hb dX10_isStorm_0 rfl (lv_at hl 0 rfl) ?_
  refine lv_if_lt (tgt := 36) hx hb dX10_isStorm_1 (by decide) (fun c1 => ?_) (fun c1 => ?_)
  · have hf := of_pos hf c1
    refine lv_iconst (v := (0 : Int32)) hx hb dX10_isStorm_36 (by decide) ?_
    cases hf
    exact ret_z hx hb hr hlk hK hP hD hS (by decide) dX10_isStorm_37
  · have hf := of_neg hf c1
    refine lv_iload_n hx hb dX10_isStorm_4 rfl (lv_at hl 0 rfl) ?_
    refine lv_sipush (v := (9999 : Int32)) hx hb dX10_isStorm_5 (by decide) ?_
    refine lv_icmp_gt (tgt := 36) hx hb dX10_isStorm_8 (by decide) (fun c2 => ?_) (fun c2 => ?_)
    · have hf := of_pos hf c2
      refine lv_iconst (v := (0 : Int32)) hx hb dX10_isStorm_36 (by decide) ?_
      cases hf
      exact ret_z hx hb hr hlk hK hP hD hS (by decide) dX10_isStorm_37
    · have hf := of_neg hf c2
      refine lv_iload_n hx hb dX10_isStorm_11 rfl (lv_at hl 1 rfl) ?_
      refine lv_if_lt (tgt := 36) hx hb dX10_isStorm_12 (by decide) (fun c3 => ?_) (fun c3 => ?_)
      · have hf := of_pos hf c3
        refine lv_iconst (v := (0 : Int32)) hx hb dX10_isStorm_36 (by decide) ?_
        cases hf
        exact ret_z hx hb hr hlk hK hP hD hS (by decide) dX10_isStorm_37
      · have hf := of_neg hf c3
        refine lv_iload_n hx hb dX10_isStorm_15 rfl (lv_at hl 1 rfl) ?_
        refine lv_sipush (v := (200 : Int32)) hx hb dX10_isStorm_16 (by decide) ?_
        refine lv_icmp_gt (tgt := 36) hx hb dX10_isStorm_19 (by decide) (fun c4 => ?_) (fun c4 => ?_)
        · have hf := of_pos hf c4
          refine lv_iconst (v := (0 : Int32)) hx hb dX10_isStorm_36 (by decide) ?_
          cases hf
          exact ret_z hx hb hr hlk hK hP hD hS (by decide) dX10_isStorm_37
        · have hf := of_neg hf c4
          refine lv_iload_n hx hb dX10_isStorm_22 rfl (lv_at hl 2 rfl) ?_
          refine lv_if_lt (tgt := 36) hx hb dX10_isStorm_23 (by decide) (fun c5 => ?_) (fun c5 => ?_)
          · have hf := of_pos hf c5
            refine lv_iconst (v := (0 : Int32)) hx hb dX10_isStorm_36 (by decide) ?_
            cases hf
            exact ret_z hx hb hr hlk hK hP hD hS (by decide) dX10_isStorm_37
          · have hf := of_neg hf c5
            refine lv_iload_n hx hb dX10_isStorm_26 rfl (lv_at hl 2 rfl) ?_
            refine lv_bipush (v := (50 : Int32)) hx hb dX10_isStorm_27 (by decide) ?_
            refine lv_icmp_gt (tgt := 36) hx hb dX10_isStorm_29 (by decide) (fun c6 => ?_) (fun c6 => ?_)
            · have hf := of_pos hf c6
              refine lv_iconst (v := (0 : Int32)) hx hb dX10_isStorm_36 (by decide) ?_
              cases hf
              exact ret_z hx hb hr hlk hK hP hD hS (by decide) dX10_isStorm_37
            · have hf := of_neg hf c6
              refine lv_iconst (v := (1 : Int32)) hx hb dX10_isStorm_32 (by decide) ?_
              refine lv_goto (tgt := 37) hx hb dX10_isStorm_33 (by decide) ?_
              cases hf
              exact ret_z hx hb hr hlk hK hP hD hS (by decide) dX10_isStorm_37
theorem yk_X10_isStorm : ykS yX10_isStorm cX10_isStorm 3 (some .boolean) 3 := ⟨wd_915, wd_127, wd_916, by decide +kernel, by decide +kernel, by decide +kernel⟩
theorem dX10_isWord_0 : decode cX10_isWord 0 = .ok (.iload_n 0, 1) := by decide +kernel
theorem dX10_isWord_1 : decode cX10_isWord 1 = .ok (.ifCond .lt 13, 3) := by decide +kernel
theorem dX10_isWord_4 : decode cX10_isWord 4 = .ok (.iload_n 0, 1) := by decide +kernel
theorem dX10_isWord_5 : decode cX10_isWord 5 = .ok (.bipush 16, 2) := by decide +kernel
theorem dX10_isWord_7 : decode cX10_isWord 7 = .ok (.if_icmp .ge 7, 3) := by decide +kernel
theorem dX10_isWord_10 : decode cX10_isWord 10 = .ok (.iconst 1, 1) := by decide +kernel
theorem dX10_isWord_11 : decode cX10_isWord 11 = .ok (.goto 4, 3) := by decide +kernel
theorem dX10_isWord_14 : decode cX10_isWord 14 = .ok (.iconst 0, 1) := by decide +kernel
theorem dX10_isWord_15 : decode cX10_isWord 15 = .ok (.ireturn, 1) := by decide +kernel
set_option maxHeartbeats 4000000 in
set_option maxRecDepth 100000 in
theorem c_X10_isWord (l : Launch) (G : GG) (sz : Nat)  (F : Nat) (b0 : Int32)  (r0 : Int32) (hf : p_X10_isWord F b0 = some r0) : Met l yX10_isWord (.code yX10_isWord cX10_isWord 1 (some .boolean) :: gtbl) ({ frames := 0, cells := 0, slots := 0, locals := 0 } : Room) (PcS G [.int b0] [] sz) (QiS G r0 (va_A [] sz) []) 0 0 (va_A [] sz) := by
  refine met_start (by decide) (Nat.le_of_ble_eq_true rfl) ?_
  intro p e s m below meth c hC hr hlk hnm hK hP hD hA hS hX ls hl
  obtain ⟨hx, hb, hml, hown, ht0⟩ := hC
  have hown : s.vm.findClass RX10 = some m.cls := hown
  generalize va_A [] sz = A at hD hA hS hX ⊢
  have hl : lv_has ls 1 [(0, .int b0)] := hl
  have hf : p_X10_isWord F b0 = some r0 := hf
  refine lv_iload_n hx hb dX10_isWord_0 rfl (lv_at hl 0 rfl) ?_
  refine lv_if_lt (tgt := 14) hx hb dX10_isWord_1 (by decide) (fun c1 => ?_) (fun c1 => ?_)
  · have hf := of_pos hf c1
    refine lv_iconst (v := (0 : Int32)) hx hb dX10_isWord_14 (by decide) ?_
    cases hf
    exact ret_z hx hb hr hlk hK hP hD hS (by decide) dX10_isWord_15
  · have hf := of_neg hf c1
    refine lv_iload_n hx hb dX10_isWord_4 rfl (lv_at hl 0 rfl) ?_
    refine lv_bipush (v := (16 : Int32)) hx hb dX10_isWord_5 (by decide) ?_
    refine lv_icmp_ge (tgt := 14) hx hb dX10_isWord_7 (by decide) (fun c2 => ?_) (fun c2 => ?_)
    · have hf := of_pos hf c2
      refine lv_iconst (v := (0 : Int32)) hx hb dX10_isWord_14 (by decide) ?_
      cases hf
      exact ret_z hx hb hr hlk hK hP hD hS (by decide) dX10_isWord_15
    · have hf := of_neg hf c2
      refine lv_iconst (v := (1 : Int32)) hx hb dX10_isWord_10 (by decide) ?_
      refine lv_goto (tgt := 15) hx hb dX10_isWord_11 (by decide) ?_
      cases hf
      exact ret_z hx hb hr hlk hK hP hD hS (by decide) dX10_isWord_15
theorem yk_X10_isWord : ykS yX10_isWord cX10_isWord 1 (some .boolean) 1 := ⟨wd_792, wd_127, wd_793, by decide +kernel, by decide +kernel, by decide +kernel⟩
theorem dX10_fewest_0 : decode cX10_fewest 0 = .ok (.iload_n 1, 1) := by decide +kernel
theorem dX10_fewest_1 : decode cX10_fewest 1 = .ok (.iconst 1, 1) := by decide +kernel
theorem dX10_fewest_2 : decode cX10_fewest 2 = .ok (.if_icmp .lt 10, 3) := by decide +kernel
theorem dX10_fewest_5 : decode cX10_fewest 5 = .ok (.iload_n 1, 1) := by decide +kernel
theorem dX10_fewest_6 : decode cX10_fewest 6 = .ok (.sipush 200, 3) := by decide +kernel
theorem dX10_fewest_9 : decode cX10_fewest 9 = .ok (.if_icmp .le 5, 3) := by decide +kernel
theorem dX10_fewest_12 : decode cX10_fewest 12 = .ok (.iconst (-1), 1) := by decide +kernel
theorem dX10_fewest_13 : decode cX10_fewest 13 = .ok (.ireturn, 1) := by decide +kernel
theorem dX10_fewest_14 : decode cX10_fewest 14 = .ok (.iconst 4, 1) := by decide +kernel
theorem dX10_fewest_15 : decode cX10_fewest 15 = .ok (.istore_n 2, 1) := by decide +kernel
theorem dX10_fewest_16 : decode cX10_fewest 16 = .ok (.iload_n 2, 1) := by decide +kernel
theorem dX10_fewest_17 : decode cX10_fewest 17 = .ok (.bipush 8, 2) := by decide +kernel
theorem dX10_fewest_19 : decode cX10_fewest 19 = .ok (.if_icmp .gt 19, 3) := by decide +kernel
theorem dX10_fewest_22 : decode cX10_fewest 22 = .ok (.iload_n 2, 1) := by decide +kernel
theorem dX10_fewest_23 : decode cX10_fewest 23 = .ok (.invokestatic 353, 3) := by decide +kernel
theorem dX10_fewest_26 : decode cX10_fewest 26 = .ok (.iload_n 1, 1) := by decide +kernel
theorem dX10_fewest_27 : decode cX10_fewest 27 = .ok (.if_icmp .lt 5, 3) := by decide +kernel
theorem dX10_fewest_30 : decode cX10_fewest 30 = .ok (.iload_n 2, 1) := by decide +kernel
theorem dX10_fewest_31 : decode cX10_fewest 31 = .ok (.ireturn, 1) := by decide +kernel
theorem dX10_fewest_32 : decode cX10_fewest 32 = .ok (.iinc 2 1, 3) := by decide +kernel
theorem dX10_fewest_35 : decode cX10_fewest 35 = .ok (.goto (-19), 3) := by decide +kernel
theorem dX10_fewest_38 : decode cX10_fewest 38 = .ok (.iconst (-1), 1) := by decide +kernel
theorem dX10_fewest_39 : decode cX10_fewest 39 = .ok (.ireturn, 1) := by decide +kernel
set_option maxHeartbeats 4000000 in
set_option maxRecDepth 100000 in
theorem c_X10_fewest (l : Launch) (G : GG) (g_t : Nat) (sz : Nat)  (F : Nat) (b1 : Int32)  (r0 : Int32) (hf : p_X10_fewest F b1 = some r0) : Met l yX10_fewest (.code yX10_fewest cX10_fewest 3 (some .int) :: gtbl) ({ frames := 1, cells := 0, slots := 0, locals := 20 } : Room) (PcS G [.ref g_t, .int b1] [] sz) (QiS G r0 (va_A [] sz) []) 0 0 (va_A [] sz) := by
  refine met_start (by decide) (Nat.le_of_ble_eq_true rfl) ?_
  intro p e s m below meth c hC hr hlk hnm hK hP hD hA hS hX ls hl
  obtain ⟨hx, hb, hml, hown, ht0⟩ := hC
  have hown : s.vm.findClass RX10 = some m.cls := hown
  generalize va_A [] sz = A at hD hA hS hX ⊢
  have hl : lv_has ls 3 [(0, .ref g_t), (1, .int b1)] := hl
  have hf : p_X10_fewest F b1 = some r0 := hf
  have kL16 : ∀ (c16_1 : Int32) (n16 : Nat) (u16_2 : Int32), p_X10_fewest_L16 F c16_1 n16 u16_2 = some r0 → ∀ (H : Heap) (locs : List Loc), va_P G.1 vwCl [] H → va_D A [] → va_S A s.heap H locs → ∀ ls : Array Slot, lv_has ls 3 [(1, .int c16_1), (2, .int u16_2)] → W p l e ({ frames := 1, cells := 0, slots := 0, locals := 20 } : Room) s m (List.toArray [.ref g_t, .int b1]) below meth c H locs 0 0 (MQ below (QiS G r0 A []) (List.toArray [.ref g_t, .int b1]) s 0 0 A) (F0 m 16 ls []) := by
    intro c16_1 n16
    induction n16 with
    | zero =>
      intro u16_2 hf
      cases hf
    | succ n16 ih16 =>
      intro u16_2 hf H locs hP hD hS ls hl
      have hf : p_X10_fewest_L16b F c16_1 (p_X10_fewest_L16 F c16_1 n16) u16_2 = some r0 := hf
      refine lv_iload_n hx hb dX10_fewest_16 rfl (lv_at hl 1 rfl) ?_
      refine lv_bipush (v := (8 : Int32)) hx hb dX10_fewest_17 (by decide) ?_
      refine lv_icmp_gt (tgt := 38) hx hb dX10_fewest_19 (by decide) (fun c1 => ?_) (fun c1 => ?_)
      · have hf := of_pos hf c1
        refine lv_iconst (v := (-1 : Int32)) hx hb dX10_fewest_38 (by decide) ?_
        cases hf
        exact ret_i hx hb hr hlk hK hP hD hS dX10_fewest_39
      · have hf := of_neg hf c1
        refine lv_iload_n hx hb dX10_fewest_22 rfl (lv_at hl 1 rfl) ?_
        obtain ⟨r_23_1, hc_r_23_1, hf⟩ := of_bnd hf
        refine cl_Si (w2 := []) (As := [.int u16_2]) (rest := []) ⟨hx, hb, hml, hown, ht0⟩ (c_X10_dataColumns l G _ F u16_2 _ hc_r_23_1) yk_X10_dataColumns wd_1205 ⟨rfl, rfl, by decide, by decide⟩ ⟨Nat.le_refl _, Nat.le_refl _⟩ hX hK hP hD hS hA [] [] [] rfl rfl (by decide) rfl rfl rfl rfl rfl hl.1 rfl (Nat.le_of_ble_eq_true rfl) dX10_fewest_23 (fun H locs hP hD hS => ?_)
        refine lv_iload_n hx hb dX10_fewest_26 rfl (lv_at hl 0 rfl) ?_
        refine lv_icmp_lt (tgt := 32) hx hb dX10_fewest_27 (by decide) (fun c3 => ?_) (fun c3 => ?_)
        · have hf := of_pos hf c3
          refine lv_iinc (v := u16_2 + (1 : Int32)) (lv' := [(2, .int (u16_2 + (1 : Int32))), (1, .int c16_1)]) hx hb dX10_fewest_32 hl (k := 1) rfl (by rfl) (by decide) rfl (fun ls hl => ?_)
          refine lv_goto (tgt := 16) hx hb dX10_fewest_35 (by decide) ?_
          exact ih16 _ hf _ _ hP hD hS _ (lv_sub hl [1, 0] rfl)
        · have hf := of_neg hf c3
          refine lv_iload_n hx hb dX10_fewest_30 rfl (lv_at hl 1 rfl) ?_
          cases hf
          exact ret_i hx hb hr hlk hK hP hD hS dX10_fewest_31
  refine lv_iload_n hx hb dX10_fewest_0 rfl (lv_at hl 1 rfl) ?_
  refine lv_iconst (v := (1 : Int32)) hx hb dX10_fewest_1 (by decide) ?_
  refine lv_icmp_lt (tgt := 12) hx hb dX10_fewest_2 (by decide) (fun c4 => ?_) (fun c4 => ?_)
  · have hf := of_pos hf c4
    refine lv_iconst (v := (-1 : Int32)) hx hb dX10_fewest_12 (by decide) ?_
    cases hf
    exact ret_i hx hb hr hlk hK hP hD hS dX10_fewest_13
  · have hf := of_neg hf c4
    refine lv_iload_n hx hb dX10_fewest_5 rfl (lv_at hl 1 rfl) ?_
    refine lv_sipush (v := (200 : Int32)) hx hb dX10_fewest_6 (by decide) ?_
    refine lv_icmp_le (tgt := 14) hx hb dX10_fewest_9 (by decide) (fun c5 => ?_) (fun c5 => ?_)
    · have hf := of_pos hf c5
      refine lv_iconst (v := (4 : Int32)) hx hb dX10_fewest_14 (by decide) ?_
      refine lv_istore_n (lv' := [(2, .int (4 : Int32)), (0, .ref g_t), (1, .int b1)]) hx hb dX10_fewest_15 rfl hl (by decide) rfl (fun ls hl => ?_)
      exact kL16 _ _ _ hf _ _ hP hD hS _ (lv_sub hl [2, 0] rfl)
    · have hf := of_neg hf c5
      refine lv_iconst (v := (-1 : Int32)) hx hb dX10_fewest_12 (by decide) ?_
      cases hf
      exact ret_i hx hb hr hlk hK hP hD hS dX10_fewest_13
theorem yk_X10_fewest : ykV yX10_fewest RX10 cX10_fewest 3 (some .int) 1 := ⟨wd_1202, wd_1203, wd_127, wd_1204, rfl, by decide +kernel, by decide +kernel, by decide +kernel⟩
theorem dX7_hasRoomForFive_0 : decode cX7_hasRoomForFive 0 = .ok (.aload_n 0, 1) := by decide +kernel
theorem dX7_hasRoomForFive_1 : decode cX7_hasRoomForFive 1 = .ok (.getfield 15, 3) := by decide +kernel
theorem dX7_hasRoomForFive_4 : decode cX7_hasRoomForFive 4 = .ok (.sipush 580, 3) := by decide +kernel
theorem dX7_hasRoomForFive_7 : decode cX7_hasRoomForFive 7 = .ok (.if_icmp .gt 7, 3) := by decide +kernel
theorem dX7_hasRoomForFive_10 : decode cX7_hasRoomForFive 10 = .ok (.iconst 1, 1) := by decide +kernel
theorem dX7_hasRoomForFive_11 : decode cX7_hasRoomForFive 11 = .ok (.goto 4, 3) := by decide +kernel
theorem dX7_hasRoomForFive_14 : decode cX7_hasRoomForFive 14 = .ok (.iconst 0, 1) := by decide +kernel
theorem dX7_hasRoomForFive_15 : decode cX7_hasRoomForFive 15 = .ok (.ireturn, 1) := by decide +kernel
def wW_X7_hasRoomForFive (G : GG) (h0 y0_0 : Nat) (x0_1 : Int32) : va_W := [(h0, .inr (7, [.ref y0_0, .int x0_1]))]
set_option maxHeartbeats 4000000 in
set_option maxRecDepth 100000 in
theorem c_X7_hasRoomForFive (l : Launch) (G : GG) (h0 y0_0 : Nat) (sz : Nat) (x0_1 : Int32) (F : Nat)   (r0 : Int32) (hf : p_X7_hasRoomForFive F x0_1  = some r0) : Met l yX7_hasRoomForFive (.code yX7_hasRoomForFive cX7_hasRoomForFive 1 (some .boolean) :: gtbl) ({ frames := 0, cells := 0, slots := 0, locals := 0 } : Room) (PcS G [.ref h0] (wW_X7_hasRoomForFive G h0 y0_0 x0_1) sz) (QiS G r0 (va_A (wW_X7_hasRoomForFive G h0 y0_0 x0_1) sz) (wW_X7_hasRoomForFive G h0 y0_0 x0_1)) 0 0 (va_A (wW_X7_hasRoomForFive G h0 y0_0 x0_1) sz) := by
  refine met_start (by decide) (Nat.le_of_ble_eq_true rfl) ?_
  intro p e s m below meth c hC hr hlk hnm hK hP hD hA hS hX ls hl
  obtain ⟨hx, hb, hml, hown, ht0⟩ := hC
  have hown : s.vm.findClass RX7 = some m.cls := hown
  generalize va_A (wW_X7_hasRoomForFive G h0 y0_0 x0_1) sz = A at hD hA hS hX ⊢
  have hl : lv_has ls 1 [(0, .ref h0)] := hl
  have hf : p_X7_hasRoomForFive F x0_1  = some r0 := hf
  refine lv_aload_n hx hb dX7_hasRoomForFive_0 rfl (lv_at hl 0 rfl) ?_
  refine va_get (ci := 7) (v := .int x0_1) (C := RX7) (T := TX7) (N := 2) hx hb ht0 iX7 hown hK hP 0 rfl rfl 1 (by decide) (ht0 _ wd_168) (fun _ h9 => h9) rfl dX7_hasRoomForFive_1 ?_
  refine lv_sipush (v := (580 : Int32)) hx hb dX7_hasRoomForFive_4 (by decide) ?_
  refine lv_icmp_gt (tgt := 14) hx hb dX7_hasRoomForFive_7 (by decide) (fun c1 => ?_) (fun c1 => ?_)
  · have hf := of_pos hf c1
    refine lv_iconst (v := (0 : Int32)) hx hb dX7_hasRoomForFive_14 (by decide) ?_
    cases hf
    exact ret_z hx hb hr hlk hK hP hD hS (by decide) dX7_hasRoomForFive_15
  · have hf := of_neg hf c1
    refine lv_iconst (v := (1 : Int32)) hx hb dX7_hasRoomForFive_10 (by decide) ?_
    refine lv_goto (tgt := 15) hx hb dX7_hasRoomForFive_11 (by decide) ?_
    cases hf
    exact ret_z hx hb hr hlk hK hP hD hS (by decide) dX7_hasRoomForFive_15
theorem yk_X7_hasRoomForFive : ykV yX7_hasRoomForFive RX7 cX7_hasRoomForFive 1 (some .boolean) 0 := ⟨wd_585, wd_586, wd_129, wd_587, rfl, by decide +kernel, by decide +kernel, by decide +kernel⟩
theorem dX7_put_0 : decode cX7_put 0 = .ok (.bipush 24, 2) := by decide +kernel
theorem dX7_put_2 : decode cX7_put 2 = .ok (.istore_n 2, 1) := by decide +kernel
theorem dX7_put_3 : decode cX7_put 3 = .ok (.iload_n 2, 1) := by decide +kernel
theorem dX7_put_4 : decode cX7_put 4 = .ok (.ifCond .lt 45, 3) := by decide +kernel
theorem dX7_put_7 : decode cX7_put 7 = .ok (.aload_n 0, 1) := by decide +kernel
theorem dX7_put_8 : decode cX7_put 8 = .ok (.getfield 15, 3) := by decide +kernel
theorem dX7_put_11 : decode cX7_put 11 = .ok (.sipush 600, 3) := by decide +kernel
theorem dX7_put_14 : decode cX7_put 14 = .ok (.if_icmp .ge 35, 3) := by decide +kernel
theorem dX7_put_17 : decode cX7_put 17 = .ok (.aload_n 0, 1) := by decide +kernel
theorem dX7_put_18 : decode cX7_put 18 = .ok (.getfield 11, 3) := by decide +kernel
theorem dX7_put_21 : decode cX7_put 21 = .ok (.aload_n 0, 1) := by decide +kernel
theorem dX7_put_22 : decode cX7_put 22 = .ok (.getfield 15, 3) := by decide +kernel
theorem dX7_put_25 : decode cX7_put 25 = .ok (.iload_n 1, 1) := by decide +kernel
theorem dX7_put_26 : decode cX7_put 26 = .ok (.iload_n 2, 1) := by decide +kernel
theorem dX7_put_27 : decode cX7_put 27 = .ok (.iushr, 1) := by decide +kernel
theorem dX7_put_28 : decode cX7_put 28 = .ok (.sipush 255, 3) := by decide +kernel
theorem dX7_put_31 : decode cX7_put 31 = .ok (.iand, 1) := by decide +kernel
theorem dX7_put_32 : decode cX7_put 32 = .ok (.iastore, 1) := by decide +kernel
theorem dX7_put_33 : decode cX7_put 33 = .ok (.aload_n 0, 1) := by decide +kernel
theorem dX7_put_34 : decode cX7_put 34 = .ok (.dup, 1) := by decide +kernel
theorem dX7_put_35 : decode cX7_put 35 = .ok (.getfield 15, 3) := by decide +kernel
theorem dX7_put_38 : decode cX7_put 38 = .ok (.iconst 1, 1) := by decide +kernel
theorem dX7_put_39 : decode cX7_put 39 = .ok (.iadd, 1) := by decide +kernel
theorem dX7_put_40 : decode cX7_put 40 = .ok (.putfield 15, 3) := by decide +kernel
theorem dX7_put_43 : decode cX7_put 43 = .ok (.iinc 2 (-8), 3) := by decide +kernel
theorem dX7_put_46 : decode cX7_put 46 = .ok (.goto (-43), 3) := by decide +kernel
theorem dX7_put_49 : decode cX7_put 49 = .ok (.return_, 1) := by decide +kernel
def wW_X7_put (G : GG) (h0 h1 : Nat) (x0_1 : Int32) (a1 : Nat → Int32) : va_W := [(h0, .inr (7, [.ref h1, .int x0_1])), (h1, .inl (G.2.1, 600, .inl a1))]
set_option maxHeartbeats 4000000 in
set_option maxRecDepth 100000 in
theorem c_X7_put (l : Launch) (G : GG) (h0 h1 : Nat) (sz : Nat) (x0_1 : Int32) (a1 : Nat → Int32) (F : Nat) (b1 : Int32)  (e_x0_1 : Int32) (e_a1 : Nat → Int32) (hf : p_X7_put F x0_1 a1 b1 = some (e_x0_1, e_a1)) : Met l yX7_put (.code yX7_put cX7_put 3 none :: gtbl) ({ frames := 0, cells := 0, slots := 0, locals := 0 } : Room) (PcS G [.ref h0, .int b1] (wW_X7_put G h0 h1 x0_1 a1) sz) (QvS G (va_A (wW_X7_put G h0 h1 x0_1 a1) sz) (wW_X7_put G h0 h1 e_x0_1 e_a1)) 0 0 (va_A (wW_X7_put G h0 h1 x0_1 a1) sz) := by
  refine met_start (by decide) (Nat.le_of_ble_eq_true rfl) ?_
  intro p e s m below meth c hC hr hlk hnm hK hP hD hA hS hX ls hl
  obtain ⟨hx, hb, hml, hown, ht0⟩ := hC
  have hown : s.vm.findClass RX7 = some m.cls := hown
  generalize va_A (wW_X7_put G h0 h1 x0_1 a1) sz = A at hD hA hS hX ⊢
  have hl : lv_has ls 3 [(0, .ref h0), (1, .int b1)] := hl
  have hf : p_X7_put F x0_1 a1 b1 = some (e_x0_1, e_a1) := hf
  have kL3 : ∀ (c3_1 : Int32) (n3 : Nat) (u3_2 : Int32) (x0_1_3 : Int32) (a1_3 : Nat → Int32), p_X7_put_L3 F c3_1 n3 u3_2 x0_1_3 a1_3 = some (e_x0_1, e_a1) → ∀ (H : Heap) (locs : List Loc), va_P G.1 vwCl (wW_X7_put G h0 h1 x0_1_3 a1_3) H → va_D A (wW_X7_put G h0 h1 x0_1_3 a1_3) → va_S A s.heap H locs → ∀ ls : Array Slot, lv_has ls 3 [(0, .ref h0), (1, .int c3_1), (2, .int u3_2)] → W p l e ({ frames := 0, cells := 0, slots := 0, locals := 0 } : Room) s m (List.toArray [.ref h0, .int b1]) below meth c H locs 0 0 (MQ below (QvS G A (wW_X7_put G h0 h1 e_x0_1 e_a1)) (List.toArray [.ref h0, .int b1]) s 0 0 A) (F0 m 3 ls []) := by
    intro c3_1 n3
    induction n3 with
    | zero =>
      intro u3_2 x0_1_3 a1_3 hf
      cases hf
    | succ n3 ih3 =>
      intro u3_2 x0_1_3 a1_3 hf H locs hP hD hS ls hl
      have hf : p_X7_put_L3b F c3_1 (p_X7_put_L3 F c3_1 n3) u3_2 x0_1_3 a1_3 = some (e_x0_1, e_a1) := hf
      refine lv_iload_n hx hb dX7_put_3 rfl (lv_at hl 2 rfl) ?_
      refine lv_if_lt (tgt := 49) hx hb dX7_put_4 (by decide) (fun c1 => ?_) (fun c1 => ?_)
      · have hf := of_pos hf c1
        cases hf
        exact ret_v hx hb hr hlk hK hP hD hS dX7_put_49
      · have hf := of_neg hf c1
        refine lv_aload_n hx hb dX7_put_7 rfl (lv_at hl 0 rfl) ?_
        refine va_get (ci := 7) (v := .int x0_1_3) (C := RX7) (T := TX7) (N := 2) hx hb ht0 iX7 hown hK hP 0 rfl rfl 1 (by decide) (ht0 _ wd_168) (fun _ h9 => h9) rfl dX7_put_8 ?_
        refine lv_sipush (v := (600 : Int32)) hx hb dX7_put_11 (by decide) ?_
        refine lv_icmp_ge (tgt := 49) hx hb dX7_put_14 (by decide) (fun c2 => ?_) (fun c2 => ?_)
        · have hf := of_pos hf c2
          cases hf
          exact ret_v hx hb hr hlk hK hP hD hS dX7_put_49
        · have hf := of_neg hf c2
          refine lv_aload_n hx hb dX7_put_17 rfl (lv_at hl 0 rfl) ?_
          refine va_get (ci := 7) (v := .ref h1) (C := RX7) (T := TX7) (N := 2) hx hb ht0 iX7 hown hK hP 0 rfl rfl 0 (by decide) (ht0 _ wd_167) (fun _ h9 => h9) rfl dX7_put_18 ?_
          refine lv_aload_n hx hb dX7_put_21 rfl (lv_at hl 0 rfl) ?_
          refine va_get (ci := 7) (v := .int x0_1_3) (C := RX7) (T := TX7) (N := 2) hx hb ht0 iX7 hown hK hP 0 rfl rfl 1 (by decide) (ht0 _ wd_168) (fun _ h9 => h9) rfl dX7_put_22 ?_
          refine lv_iload_n hx hb dX7_put_25 rfl (lv_at hl 1 rfl) ?_
          refine lv_iload_n hx hb dX7_put_26 rfl (lv_at hl 2 rfl) ?_
          refine lv_iushr (v := jushr c3_1 u3_2) hx hb dX7_put_27 rfl ?_
          refine lv_sipush (v := (255 : Int32)) hx hb dX7_put_28 (by decide) ?_
          refine lv_iand hx hb dX7_put_31 ?_
          obtain ⟨g3, hf⟩ := of_grd hf
          refine va_iast hx hb hK hP hD hS 1 0 rfl rfl g3 dX7_put_32 (fun H locs hP hD hS => ?_)
          have hP : va_P G.1 vwCl (wW_X7_put G h0 h1 x0_1_3 (upd a1_3 x0_1_3.toNatClampNeg ((jushr c3_1 u3_2) &&& (255 : Int32)))) H := hP
          have hD : va_D A (wW_X7_put G h0 h1 x0_1_3 (upd a1_3 x0_1_3.toNatClampNeg ((jushr c3_1 u3_2) &&& (255 : Int32)))) := hD
          refine lv_aload_n hx hb dX7_put_33 rfl (lv_at hl 0 rfl) ?_
          refine lv_dup hx hb dX7_put_34 rfl ?_
          refine va_get (ci := 7) (v := .int x0_1_3) (C := RX7) (T := TX7) (N := 2) hx hb ht0 iX7 hown hK hP 0 rfl rfl 1 (by decide) (ht0 _ wd_168) (fun _ h9 => h9) rfl dX7_put_35 ?_
          refine lv_iconst (v := (1 : Int32)) hx hb dX7_put_38 (by decide) ?_
          refine lv_iadd hx hb dX7_put_39 ?_
          refine va_put (ci := 7) (v := .int (x0_1_3 + (1 : Int32))) (ty := .int) (C := RX7) (T := TX7) (N := 2) hx hb ht0 iX7 tyX7 tyX7_ok nmX7 hown hK hP hD hS 0 rfl rfl 1 (by decide) (ht0 _ wd_168) (fun _ h9 => h9) rfl rfl rfl rfl (Nat.le_of_ble_eq_true rfl) dX7_put_40 (fun H locs hP hD hS => ?_)
          have hP : va_P G.1 vwCl (wW_X7_put G h0 h1 (x0_1_3 + (1 : Int32)) (upd a1_3 x0_1_3.toNatClampNeg ((jushr c3_1 u3_2) &&& (255 : Int32)))) H := hP
          have hD : va_D A (wW_X7_put G h0 h1 (x0_1_3 + (1 : Int32)) (upd a1_3 x0_1_3.toNatClampNeg ((jushr c3_1 u3_2) &&& (255 : Int32)))) := hD
          refine lv_iinc (v := u3_2 + (-8 : Int32)) (lv' := [(2, .int (u3_2 + (-8 : Int32))), (0, .ref h0), (1, .int c3_1)]) hx hb dX7_put_43 hl (k := 2) rfl (by rfl) (by decide) rfl (fun ls hl => ?_)
          refine lv_goto (tgt := 3) hx hb dX7_put_46 (by decide) ?_
          exact ih3 _ _ _ hf _ _ hP hD hS _ (lv_sub hl [1, 2, 0] rfl)
  refine lv_bipush (v := (24 : Int32)) hx hb dX7_put_0 (by decide) ?_
  refine lv_istore_n (lv' := [(2, .int (24 : Int32)), (0, .ref h0), (1, .int b1)]) hx hb dX7_put_2 rfl hl (by decide) rfl (fun ls hl => ?_)
  exact kL3 _ _ _ _ _ hf _ _ hP hD hS _ (lv_sub hl [1, 2, 0] rfl)
theorem yk_X7_put : ykV yX7_put RX7 cX7_put 3 none 1 := ⟨wd_589, wd_590, wd_129, wd_591, rfl, by decide +kernel, by decide +kernel, by decide +kernel⟩
theorem dX7_byteAt_0 : decode cX7_byteAt 0 = .ok (.iload_n 1, 1) := by decide +kernel
theorem dX7_byteAt_1 : decode cX7_byteAt 1 = .ok (.ifCond .lt 27, 3) := by decide +kernel
theorem dX7_byteAt_4 : decode cX7_byteAt 4 = .ok (.iload_n 1, 1) := by decide +kernel
theorem dX7_byteAt_5 : decode cX7_byteAt 5 = .ok (.aload_n 0, 1) := by decide +kernel
theorem dX7_byteAt_6 : decode cX7_byteAt 6 = .ok (.getfield 15, 3) := by decide +kernel
theorem dX7_byteAt_9 : decode cX7_byteAt 9 = .ok (.if_icmp .ge 19, 3) := by decide +kernel
theorem dX7_byteAt_12 : decode cX7_byteAt 12 = .ok (.iload_n 1, 1) := by decide +kernel
theorem dX7_byteAt_13 : decode cX7_byteAt 13 = .ok (.sipush 600, 3) := by decide +kernel
theorem dX7_byteAt_16 : decode cX7_byteAt 16 = .ok (.if_icmp .ge 12, 3) := by decide +kernel
theorem dX7_byteAt_19 : decode cX7_byteAt 19 = .ok (.aload_n 0, 1) := by decide +kernel
theorem dX7_byteAt_20 : decode cX7_byteAt 20 = .ok (.getfield 11, 3) := by decide +kernel
theorem dX7_byteAt_23 : decode cX7_byteAt 23 = .ok (.iload_n 1, 1) := by decide +kernel
theorem dX7_byteAt_24 : decode cX7_byteAt 24 = .ok (.iaload, 1) := by decide +kernel
theorem dX7_byteAt_25 : decode cX7_byteAt 25 = .ok (.goto 4, 3) := by decide +kernel
theorem dX7_byteAt_28 : decode cX7_byteAt 28 = .ok (.iconst (-1), 1) := by decide +kernel
theorem dX7_byteAt_29 : decode cX7_byteAt 29 = .ok (.ireturn, 1) := by decide +kernel
def wW_X7_byteAt (G : GG) (h0 h1 : Nat) (x0_1 : Int32) (a1 : Nat → Int32) : va_W := [(h0, .inr (7, [.ref h1, .int x0_1])), (h1, .inl (G.2.1, 600, .inl a1))]
set_option maxHeartbeats 4000000 in
set_option maxRecDepth 100000 in
theorem c_X7_byteAt (l : Launch) (G : GG) (h0 h1 : Nat) (sz : Nat) (x0_1 : Int32) (a1 : Nat → Int32) (F : Nat) (b1 : Int32)  (r0 : Int32) (hf : p_X7_byteAt F x0_1 a1 b1 = some r0) : Met l yX7_byteAt (.code yX7_byteAt cX7_byteAt 2 (some .int) :: gtbl) ({ frames := 0, cells := 0, slots := 0, locals := 0 } : Room) (PcS G [.ref h0, .int b1] (wW_X7_byteAt G h0 h1 x0_1 a1) sz) (QiS G r0 (va_A (wW_X7_byteAt G h0 h1 x0_1 a1) sz) (wW_X7_byteAt G h0 h1 x0_1 a1)) 0 0 (va_A (wW_X7_byteAt G h0 h1 x0_1 a1) sz) := by
  refine met_start (by decide) (Nat.le_of_ble_eq_true rfl) ?_
  intro p e s m below meth c hC hr hlk hnm hK hP hD hA hS hX ls hl
  obtain ⟨hx, hb, hml, hown, ht0⟩ := hC
  have hown : s.vm.findClass RX7 = some m.cls := hown
  generalize va_A (wW_X7_byteAt G h0 h1 x0_1 a1) sz = A at hD hA hS hX ⊢
  have hl : lv_has ls 2 [(0, .ref h0), (1, .int b1)] := hl
  have hf : p_X7_byteAt F x0_1 a1 b1 = some r0 := hf
  refine lv_iload_n hx hb dX7_byteAt_0 rfl (lv_at hl 1 rfl) ?_
  refine lv_if_lt (tgt := 28) hx hb dX7_byteAt_1 (by decide) (fun c1 => ?_) (fun c1 => ?_)
  · have hf := of_pos hf c1
    refine lv_iconst (v := (-1 : Int32)) hx hb dX7_byteAt_28 (by decide) ?_
    cases hf
    exact ret_i hx hb hr hlk hK hP hD hS dX7_byteAt_29
  · have hf := of_neg hf c1
    refine lv_iload_n hx hb dX7_byteAt_4 rfl (lv_at hl 1 rfl) ?_
    refine lv_aload_n hx hb dX7_byteAt_5 rfl (lv_at hl 0 rfl) ?_
    refine va_get (ci := 7) (v := .int x0_1) (C := RX7) (T := TX7) (N := 2) hx hb ht0 iX7 hown hK hP 0 rfl rfl 1 (by decide) (ht0 _ wd_168) (fun _ h9 => h9) rfl dX7_byteAt_6 ?_
    refine lv_icmp_ge (tgt := 28) hx hb dX7_byteAt_9 (by decide) (fun c2 => ?_) (fun c2 => ?_)
    · have hf := of_pos hf c2
      refine lv_iconst (v := (-1 : Int32)) hx hb dX7_byteAt_28 (by decide) ?_
      cases hf
      exact ret_i hx hb hr hlk hK hP hD hS dX7_byteAt_29
    · have hf := of_neg hf c2
      refine lv_iload_n hx hb dX7_byteAt_12 rfl (lv_at hl 1 rfl) ?_
      refine lv_sipush (v := (600 : Int32)) hx hb dX7_byteAt_13 (by decide) ?_
      refine lv_icmp_ge (tgt := 28) hx hb dX7_byteAt_16 (by decide) (fun c3 => ?_) (fun c3 => ?_)
      · have hf := of_pos hf c3
        refine lv_iconst (v := (-1 : Int32)) hx hb dX7_byteAt_28 (by decide) ?_
        cases hf
        exact ret_i hx hb hr hlk hK hP hD hS dX7_byteAt_29
      · have hf := of_neg hf c3
        refine lv_aload_n hx hb dX7_byteAt_19 rfl (lv_at hl 0 rfl) ?_
        refine va_get (ci := 7) (v := .ref h1) (C := RX7) (T := TX7) (N := 2) hx hb ht0 iX7 hown hK hP 0 rfl rfl 0 (by decide) (ht0 _ wd_167) (fun _ h9 => h9) rfl dX7_byteAt_20 ?_
        refine lv_iload_n hx hb dX7_byteAt_23 rfl (lv_at hl 1 rfl) ?_
        obtain ⟨g4, hf⟩ := of_grd hf
        refine va_iald hx hb hK hP 1 0 rfl rfl g4 dX7_byteAt_24 ?_
        refine lv_goto (tgt := 29) hx hb dX7_byteAt_25 (by decide) ?_
        cases hf
        exact ret_i hx hb hr hlk hK hP hD hS dX7_byteAt_29
theorem yk_X7_byteAt : ykV yX7_byteAt RX7 cX7_byteAt 2 (some .int) 1 := ⟨wd_618, wd_619, wd_129, wd_620, rfl, by decide +kernel, by decide +kernel, by decide +kernel⟩
