theorem dX0_listInOrder_0 : decode cX0_listInOrder 0 = .ok (.aload_n 0, 1) := by decide +kernel
theorem dX0_listInOrder_1 : decode cX0_listInOrder 1 = .ok (.iconst 0, 1) := by decide +kernel
theorem dX0_listInOrder_2 : decode cX0_listInOrder 2 = .ok (.putfield 38, 3) := by decide +kernel
theorem dX0_listInOrder_5 : decode cX0_listInOrder 5 = .ok (.iconst 3, 1) := by decide +kernel
theorem dX0_listInOrder_6 : decode cX0_listInOrder 6 = .ok (.istore_n 2, 1) := by decide +kernel
theorem dX0_listInOrder_7 : decode cX0_listInOrder 7 = .ok (.iload_n 2, 1) := by decide +kernel
theorem dX0_listInOrder_8 : decode cX0_listInOrder 8 = .ok (.iload_n 1, 1) := by decide +kernel
theorem dX0_listInOrder_9 : decode cX0_listInOrder 9 = .ok (.if_icmp .gt 52, 3) := by decide +kernel
theorem dX0_listInOrder_12 : decode cX0_listInOrder 12 = .ok (.iconst 0, 1) := by decide +kernel
theorem dX0_listInOrder_13 : decode cX0_listInOrder 13 = .ok (.istore_n 3, 1) := by decide +kernel
theorem dX0_listInOrder_14 : decode cX0_listInOrder 14 = .ok (.iload_n 3, 1) := by decide +kernel
theorem dX0_listInOrder_15 : decode cX0_listInOrder 15 = .ok (.iconst 1, 1) := by decide +kernel
theorem dX0_listInOrder_16 : decode cX0_listInOrder 16 = .ok (.iload_n 1, 1) := by decide +kernel
theorem dX0_listInOrder_17 : decode cX0_listInOrder 17 = .ok (.ishl, 1) := by decide +kernel
theorem dX0_listInOrder_18 : decode cX0_listInOrder 18 = .ok (.if_icmp .ge 37, 3) := by decide +kernel
theorem dX0_listInOrder_21 : decode cX0_listInOrder 21 = .ok (.iload_n 3, 1) := by decide +kernel
theorem dX0_listInOrder_22 : decode cX0_listInOrder 22 = .ok (.invokestatic 70, 3) := by decide +kernel
theorem dX0_listInOrder_25 : decode cX0_listInOrder 25 = .ok (.iload_n 2, 1) := by decide +kernel
theorem dX0_listInOrder_26 : decode cX0_listInOrder 26 = .ok (.if_icmp .ne 23, 3) := by decide +kernel
theorem dX0_listInOrder_29 : decode cX0_listInOrder 29 = .ok (.aload_n 0, 1) := by decide +kernel
theorem dX0_listInOrder_30 : decode cX0_listInOrder 30 = .ok (.getfield 9, 3) := by decide +kernel
theorem dX0_listInOrder_33 : decode cX0_listInOrder 33 = .ok (.aload_n 0, 1) := by decide +kernel
theorem dX0_listInOrder_34 : decode cX0_listInOrder 34 = .ok (.getfield 38, 3) := by decide +kernel
theorem dX0_listInOrder_37 : decode cX0_listInOrder 37 = .ok (.iload_n 3, 1) := by decide +kernel
theorem dX0_listInOrder_38 : decode cX0_listInOrder 38 = .ok (.iastore, 1) := by decide +kernel
theorem dX0_listInOrder_39 : decode cX0_listInOrder 39 = .ok (.aload_n 0, 1) := by decide +kernel
theorem dX0_listInOrder_40 : decode cX0_listInOrder 40 = .ok (.dup, 1) := by decide +kernel
theorem dX0_listInOrder_41 : decode cX0_listInOrder 41 = .ok (.getfield 38, 3) := by decide +kernel
theorem dX0_listInOrder_44 : decode cX0_listInOrder 44 = .ok (.iconst 1, 1) := by decide +kernel
theorem dX0_listInOrder_45 : decode cX0_listInOrder 45 = .ok (.iadd, 1) := by decide +kernel
theorem dX0_listInOrder_46 : decode cX0_listInOrder 46 = .ok (.putfield 38, 3) := by decide +kernel
theorem dX0_listInOrder_49 : decode cX0_listInOrder 49 = .ok (.iinc 3 1, 3) := by decide +kernel
theorem dX0_listInOrder_52 : decode cX0_listInOrder 52 = .ok (.goto (-38), 3) := by decide +kernel
theorem dX0_listInOrder_55 : decode cX0_listInOrder 55 = .ok (.iinc 2 2, 3) := by decide +kernel
theorem dX0_listInOrder_58 : decode cX0_listInOrder 58 = .ok (.goto (-51), 3) := by decide +kernel
theorem dX0_listInOrder_61 : decode cX0_listInOrder 61 = .ok (.return_, 1) := by decide +kernel
def wW_X0_listInOrder (G : GG) (h0 h1 y0_2 y0_3 y0_4 y0_5 : Nat) (x0_1 : Int32) (a1 : Nat → Int32) : va_W := [(h0, .inr (0, [.ref h1, .int x0_1, .ref y0_2, .ref y0_3, .ref y0_4, .ref y0_5])), (h1, .inl (G.2.1, 256, .inl a1))]
set_option maxHeartbeats 4000000 in
set_option maxRecDepth 100000 in
theorem c_X0_listInOrder (l : Launch) (G : GG) (h0 h1 y0_2 y0_3 y0_4 y0_5 : Nat) (sz : Nat) (x0_1 : Int32) (a1 : Nat → Int32) (F : Nat) (b1 : Int32)  (e_x0_1 : Int32) (e_a1 : Nat → Int32) (hf : p_X0_listInOrder F x0_1 a1 b1 = some (e_x0_1, e_a1)) : Met l yX0_listInOrder (.code yX0_listInOrder cX0_listInOrder 4 none :: gtbl) ({ frames := 1, cells := 0, slots := 0, locals := 20 } : Room) (PcS G [.ref h0, .int b1] (wW_X0_listInOrder G h0 h1 y0_2 y0_3 y0_4 y0_5 x0_1 a1) sz) (QvS G (va_A (wW_X0_listInOrder G h0 h1 y0_2 y0_3 y0_4 y0_5 x0_1 a1) sz) (wW_X0_listInOrder G h0 h1 y0_2 y0_3 y0_4 y0_5 e_x0_1 e_a1)) 0 0 (va_A (wW_X0_listInOrder G h0 h1 y0_2 y0_3 y0_4 y0_5 x0_1 a1) sz) := by
  refine met_start (by decide) (Nat.le_of_ble_eq_true rfl) ?_
  intro p e s m below meth c hC hr hlk hnm hK hP hD hA hS hX ls hl
  obtain ⟨hx, hb, hml, hown, ht0⟩ := hC
  have hown : s.vm.findClass RX0 = some m.cls := hown
  generalize va_A (wW_X0_listInOrder G h0 h1 y0_2 y0_3 y0_4 y0_5 x0_1 a1) sz = A at hD hA hS hX ⊢
  have hl : lv_has ls 4 [(0, .ref h0), (1, .int b1)] := hl
  have hf : p_X0_listInOrder F x0_1 a1 b1 = some (e_x0_1, e_a1) := hf
  have kL7 : ∀ (c7_1 : Int32) (n7 : Nat) (u7_2 : Int32) (x0_1_7 : Int32) (a1_7 : Nat → Int32), p_X0_listInOrder_L7 F c7_1 n7 u7_2 x0_1_7 a1_7 = some (e_x0_1, e_a1) → ∀ (H : Heap) (locs : List Loc), va_P G.1 vwCl (wW_X0_listInOrder G h0 h1 y0_2 y0_3 y0_4 y0_5 x0_1_7 a1_7) H → va_D A (wW_X0_listInOrder G h0 h1 y0_2 y0_3 y0_4 y0_5 x0_1_7 a1_7) → va_S A s.heap H locs → ∀ ls : Array Slot, lv_has ls 4 [(0, .ref h0), (1, .int c7_1), (2, .int u7_2)] → W p l e ({ frames := 1, cells := 0, slots := 0, locals := 20 } : Room) s m (List.toArray [.ref h0, .int b1]) below meth c H locs 0 0 (MQ below (QvS G A (wW_X0_listInOrder G h0 h1 y0_2 y0_3 y0_4 y0_5 e_x0_1 e_a1)) (List.toArray [.ref h0, .int b1]) s 0 0 A) (F0 m 7 ls []) := by
    intro c7_1 n7
    induction n7 with
    | zero =>
      intro u7_2 x0_1_7 a1_7 hf
      cases hf
    | succ n7 ih7 =>
      have kL14 : ∀ (c14_2 : Int32) (n14 : Nat) (u14_3 : Int32) (x0_1_14 : Int32) (a1_14 : Nat → Int32), p_X0_listInOrder_L14 F c7_1 c14_2 (p_X0_listInOrder_L7 F c7_1 n7) n14 u14_3 x0_1_14 a1_14 = some (e_x0_1, e_a1) → ∀ (H : Heap) (locs : List Loc), va_P G.1 vwCl (wW_X0_listInOrder G h0 h1 y0_2 y0_3 y0_4 y0_5 x0_1_14 a1_14) H → va_D A (wW_X0_listInOrder G h0 h1 y0_2 y0_3 y0_4 y0_5 x0_1_14 a1_14) → va_S A s.heap H locs → ∀ ls : Array Slot, lv_has ls 4 [(0, .ref h0), (1, .int c7_1), (2, .int c14_2), (3, .int u14_3)] → W p l e ({ frames := 1, cells := 0, slots := 0, locals := 20 } : Room) s m (List.toArray [.ref h0, .int b1]) below meth c H locs 0 0 (MQ below (QvS G A (wW_X0_listInOrder G h0 h1 y0_2 y0_3 y0_4 y0_5 e_x0_1 e_a1)) (List.toArray [.ref h0, .int b1]) s 0 0 A) (F0 m 14 ls []) := by
        intro c14_2 n14
        induction n14 with
        | zero =>
          intro u14_3 x0_1_14 a1_14 hf
          cases hf
        | succ n14 ih14 =>
          have kJ49 : ∀ (u49_3 : Int32) (x0_1_49 : Int32) (a1_49 : Nat → Int32), p_X0_listInOrder_J49 F c7_1 c14_2 (p_X0_listInOrder_L7 F c7_1 n7) (p_X0_listInOrder_L14 F c7_1 c14_2 (p_X0_listInOrder_L7 F c7_1 n7) n14) u49_3 x0_1_49 a1_49 = some (e_x0_1, e_a1) → ∀ (H : Heap) (locs : List Loc), va_P G.1 vwCl (wW_X0_listInOrder G h0 h1 y0_2 y0_3 y0_4 y0_5 x0_1_49 a1_49) H → va_D A (wW_X0_listInOrder G h0 h1 y0_2 y0_3 y0_4 y0_5 x0_1_49 a1_49) → va_S A s.heap H locs → ∀ ls : Array Slot, lv_has ls 4 [(0, .ref h0), (1, .int c7_1), (2, .int c14_2), (3, .int u49_3)] → W p l e ({ frames := 1, cells := 0, slots := 0, locals := 20 } : Room) s m (List.toArray [.ref h0, .int b1]) below meth c H locs 0 0 (MQ below (QvS G A (wW_X0_listInOrder G h0 h1 y0_2 y0_3 y0_4 y0_5 e_x0_1 e_a1)) (List.toArray [.ref h0, .int b1]) s 0 0 A) (F0 m 49 ls []) := by
            intro u49_3 x0_1_49 a1_49 hf H locs hP hD hS ls hl
            refine lv_iinc (v := u49_3 + (1 : Int32)) (lv' := [(3, .int (u49_3 + (1 : Int32))), (0, .ref h0), (1, .int c7_1), (2, .int c14_2)]) hx hb dX0_listInOrder_49 hl (k := 3) rfl (by rfl) (by decide) rfl (fun ls hl => ?_)
            refine lv_goto (tgt := 14) hx hb dX0_listInOrder_52 (by decide) ?_
            exact ih14 _ _ _ hf _ _ hP hD hS _ (lv_sub hl [1, 2, 3, 0] rfl)
          intro u14_3 x0_1_14 a1_14 hf H locs hP hD hS ls hl
          have hf : p_X0_listInOrder_L14b F c7_1 c14_2 (p_X0_listInOrder_L7 F c7_1 n7) (p_X0_listInOrder_L14 F c7_1 c14_2 (p_X0_listInOrder_L7 F c7_1 n7) n14) u14_3 x0_1_14 a1_14 = some (e_x0_1, e_a1) := hf
          refine lv_iload_n hx hb dX0_listInOrder_14 rfl (lv_at hl 3 rfl) ?_
          refine lv_iconst (v := (1 : Int32)) hx hb dX0_listInOrder_15 (by decide) ?_
          refine lv_iload_n hx hb dX0_listInOrder_16 rfl (lv_at hl 1 rfl) ?_
          refine lv_ishl hx hb dX0_listInOrder_17 ?_
          refine lv_icmp_ge (tgt := 55) hx hb dX0_listInOrder_18 (by decide) (fun c1 => ?_) (fun c1 => ?_)
          · have hf := of_pos hf c1
            refine lv_iinc (v := c14_2 + (2 : Int32)) (lv' := [(2, .int (c14_2 + (2 : Int32))), (0, .ref h0), (1, .int c7_1), (3, .int u14_3)]) hx hb dX0_listInOrder_55 hl (k := 2) rfl (by rfl) (by decide) rfl (fun ls hl => ?_)
            refine lv_goto (tgt := 7) hx hb dX0_listInOrder_58 (by decide) ?_
            exact ih7 _ _ _ hf _ _ hP hD hS _ (lv_sub hl [1, 2, 0] rfl)
          · have hf := of_neg hf c1
            refine lv_iload_n hx hb dX0_listInOrder_21 rfl (lv_at hl 3 rfl) ?_
            obtain ⟨r_22_1, hc_r_22_1, hf⟩ := of_bnd hf
            refine cl_Si (w2 := (wW_X0_listInOrder G h0 h1 y0_2 y0_3 y0_4 y0_5 x0_1_14 a1_14)) (As := [.int u14_3]) (rest := []) ⟨hx, hb, hml, hown, ht0⟩ (c_J6_bitCount_0f7a4 l G _ F u14_3 _ hc_r_22_1) yk_J6_bitCount_0f7a4 wd_466 ⟨rfl, rfl, by decide, by decide⟩ ⟨Nat.le_refl _, Nat.le_refl _⟩ hX hK hP hD hS hA [] [0, 1] [0, 1] rfl rfl (by decide) rfl rfl rfl rfl rfl hl.1 rfl (Nat.le_of_ble_eq_true rfl) dX0_listInOrder_22 (fun H locs hP hD hS => ?_)
            refine lv_iload_n hx hb dX0_listInOrder_25 rfl (lv_at hl 2 rfl) ?_
            refine lv_icmp_ne (tgt := 49) hx hb dX0_listInOrder_26 (by decide) (fun c3 => ?_) (fun c3 => ?_)
            · have hf := of_neg hf c3
              exact kJ49 _ _ _ hf _ _ hP hD hS _ (lv_sub hl [0, 1, 2, 3] rfl)
            · have hf := of_pos hf c3
              refine lv_aload_n hx hb dX0_listInOrder_29 rfl (lv_at hl 0 rfl) ?_
              refine va_get (ci := 0) (v := .ref h1) (C := RX0) (T := TX0) (N := 6) hx hb ht0 iX0 hown hK hP 0 rfl rfl 0 (by decide) (ht0 _ wd_183) (fun _ h9 => h9) rfl dX0_listInOrder_30 ?_
              refine lv_aload_n hx hb dX0_listInOrder_33 rfl (lv_at hl 0 rfl) ?_
              refine va_get (ci := 0) (v := .int x0_1_14) (C := RX0) (T := TX0) (N := 6) hx hb ht0 iX0 hown hK hP 0 rfl rfl 1 (by decide) (ht0 _ wd_184) (fun _ h9 => h9) rfl dX0_listInOrder_34 ?_
              refine lv_iload_n hx hb dX0_listInOrder_37 rfl (lv_at hl 3 rfl) ?_
              obtain ⟨g4, hf⟩ := of_grd hf
              refine va_iast hx hb hK hP hD hS 1 0 rfl rfl g4 dX0_listInOrder_38 (fun H locs hP hD hS => ?_)
              have hP : va_P G.1 vwCl (wW_X0_listInOrder G h0 h1 y0_2 y0_3 y0_4 y0_5 x0_1_14 (upd a1_14 x0_1_14.toNatClampNeg u14_3)) H := hP
              have hD : va_D A (wW_X0_listInOrder G h0 h1 y0_2 y0_3 y0_4 y0_5 x0_1_14 (upd a1_14 x0_1_14.toNatClampNeg u14_3)) := hD
              refine lv_aload_n hx hb dX0_listInOrder_39 rfl (lv_at hl 0 rfl) ?_
              refine lv_dup hx hb dX0_listInOrder_40 rfl ?_
              refine va_get (ci := 0) (v := .int x0_1_14) (C := RX0) (T := TX0) (N := 6) hx hb ht0 iX0 hown hK hP 0 rfl rfl 1 (by decide) (ht0 _ wd_184) (fun _ h9 => h9) rfl dX0_listInOrder_41 ?_
              refine lv_iconst (v := (1 : Int32)) hx hb dX0_listInOrder_44 (by decide) ?_
              refine lv_iadd hx hb dX0_listInOrder_45 ?_
              refine va_put (ci := 0) (v := .int (x0_1_14 + (1 : Int32))) (ty := .int) (C := RX0) (T := TX0) (N := 6) hx hb ht0 iX0 tyX0 tyX0_ok nmX0 hown hK hP hD hS 0 rfl rfl 1 (by decide) (ht0 _ wd_184) (fun _ h9 => h9) rfl rfl rfl rfl (Nat.le_of_ble_eq_true rfl) dX0_listInOrder_46 (fun H locs hP hD hS => ?_)
              have hP : va_P G.1 vwCl (wW_X0_listInOrder G h0 h1 y0_2 y0_3 y0_4 y0_5 (x0_1_14 + (1 : Int32)) (upd a1_14 x0_1_14.toNatClampNeg u14_3)) H := hP
              have hD : va_D A (wW_X0_listInOrder G h0 h1 y0_2 y0_3 y0_4 y0_5 (x0_1_14 + (1 : Int32)) (upd a1_14 x0_1_14.toNatClampNeg u14_3)) := hD
              exact kJ49 _ _ _ hf _ _ hP hD hS _ (lv_sub hl [0, 1, 2, 3] rfl)
      intro u7_2 x0_1_7 a1_7 hf H locs hP hD hS ls hl
      have hf : p_X0_listInOrder_L7b F c7_1 (p_X0_listInOrder_L7 F c7_1 n7) u7_2 x0_1_7 a1_7 = some (e_x0_1, e_a1) := hf
      refine lv_iload_n hx hb dX0_listInOrder_7 rfl (lv_at hl 2 rfl) ?_
      refine lv_iload_n hx hb dX0_listInOrder_8 rfl (lv_at hl 1 rfl) ?_
      refine lv_icmp_gt (tgt := 61) hx hb dX0_listInOrder_9 (by decide) (fun c5 => ?_) (fun c5 => ?_)
      · have hf := of_pos hf c5
        cases hf
        exact ret_v hx hb hr hlk hK hP hD hS dX0_listInOrder_61
      · have hf := of_neg hf c5
        refine lv_iconst (v := (0 : Int32)) hx hb dX0_listInOrder_12 (by decide) ?_
        refine lv_istore_n (lv' := [(3, .int (0 : Int32)), (0, .ref h0), (1, .int c7_1), (2, .int u7_2)]) hx hb dX0_listInOrder_13 rfl hl (by decide) rfl (fun ls hl => ?_)
        exact kL14 _ _ _ _ _ hf _ _ hP hD hS _ (lv_sub hl [1, 2, 3, 0] rfl)
  refine lv_aload_n hx hb dX0_listInOrder_0 rfl (lv_at hl 0 rfl) ?_
  refine lv_iconst (v := (0 : Int32)) hx hb dX0_listInOrder_1 (by decide) ?_
  refine va_put (ci := 0) (v := .int (0 : Int32)) (ty := .int) (C := RX0) (T := TX0) (N := 6) hx hb ht0 iX0 tyX0 tyX0_ok nmX0 hown hK hP hD hS 0 rfl rfl 1 (by decide) (ht0 _ wd_184) (fun _ h9 => h9) rfl rfl rfl rfl (Nat.le_of_ble_eq_true rfl) dX0_listInOrder_2 (fun H locs hP hD hS => ?_)
  have hP : va_P G.1 vwCl (wW_X0_listInOrder G h0 h1 y0_2 y0_3 y0_4 y0_5 (0 : Int32) a1) H := hP
  have hD : va_D A (wW_X0_listInOrder G h0 h1 y0_2 y0_3 y0_4 y0_5 (0 : Int32) a1) := hD
  refine lv_iconst (v := (3 : Int32)) hx hb dX0_listInOrder_5 (by decide) ?_
  refine lv_istore_n (lv' := [(2, .int (3 : Int32)), (0, .ref h0), (1, .int b1)]) hx hb dX0_listInOrder_6 rfl hl (by decide) rfl (fun ls hl => ?_)
  exact kL7 _ _ _ _ _ hf _ _ hP hD hS _ (lv_sub hl [1, 2, 0] rfl)
theorem yk_X0_listInOrder : ykV yX0_listInOrder RX0 cX0_listInOrder 4 none 1 := ⟨wd_464, wd_0, wd_130, wd_465, rfl, by decide +kernel, by decide +kernel, by decide +kernel⟩
theorem dX0_freeAll_0 : decode cX0_freeAll 0 = .ok (.iconst 0, 1) := by decide +kernel
theorem dX0_freeAll_1 : decode cX0_freeAll 1 = .ok (.istore_n 1, 1) := by decide +kernel
theorem dX0_freeAll_2 : decode cX0_freeAll 2 = .ok (.iload_n 1, 1) := by decide +kernel
theorem dX0_freeAll_3 : decode cX0_freeAll 3 = .ok (.sipush 256, 3) := by decide +kernel
theorem dX0_freeAll_6 : decode cX0_freeAll 6 = .ok (.if_icmp .ge 23, 3) := by decide +kernel
theorem dX0_freeAll_9 : decode cX0_freeAll 9 = .ok (.aload_n 0, 1) := by decide +kernel
theorem dX0_freeAll_10 : decode cX0_freeAll 10 = .ok (.getfield 15, 3) := by decide +kernel
theorem dX0_freeAll_13 : decode cX0_freeAll 13 = .ok (.iload_n 1, 1) := by decide +kernel
theorem dX0_freeAll_14 : decode cX0_freeAll 14 = .ok (.iconst 0, 1) := by decide +kernel
theorem dX0_freeAll_15 : decode cX0_freeAll 15 = .ok (.bastore, 1) := by decide +kernel
theorem dX0_freeAll_16 : decode cX0_freeAll 16 = .ok (.aload_n 0, 1) := by decide +kernel
theorem dX0_freeAll_17 : decode cX0_freeAll 17 = .ok (.getfield 19, 3) := by decide +kernel
theorem dX0_freeAll_20 : decode cX0_freeAll 20 = .ok (.iload_n 1, 1) := by decide +kernel
theorem dX0_freeAll_21 : decode cX0_freeAll 21 = .ok (.iconst 0, 1) := by decide +kernel
theorem dX0_freeAll_22 : decode cX0_freeAll 22 = .ok (.bastore, 1) := by decide +kernel
theorem dX0_freeAll_23 : decode cX0_freeAll 23 = .ok (.iinc 1 1, 3) := by decide +kernel
theorem dX0_freeAll_26 : decode cX0_freeAll 26 = .ok (.goto (-24), 3) := by decide +kernel
theorem dX0_freeAll_29 : decode cX0_freeAll 29 = .ok (.return_, 1) := by decide +kernel
def wW_X0_freeAll (G : GG) (h0 h1 h2 y0_0 y0_4 y0_5 : Nat) (x0_1 : Int32) (a1 : Nat → Int32) (a2 : Nat → Int32) : va_W := [(h0, .inr (0, [.ref y0_0, .int x0_1, .ref h1, .ref h2, .ref y0_4, .ref y0_5])), (h1, .inl (G.2.2.1, 256, .inl a1)), (h2, .inl (G.2.2.1, 256, .inl a2))]
set_option maxHeartbeats 4000000 in
set_option maxRecDepth 100000 in
theorem c_X0_freeAll (l : Launch) (G : GG) (h0 h1 h2 y0_0 y0_4 y0_5 : Nat) (sz : Nat) (x0_1 : Int32) (a1 : Nat → Int32) (a2 : Nat → Int32) (F : Nat)   (e_a1 : Nat → Int32) (e_a2 : Nat → Int32) (hf : p_X0_freeAll F a1 a2  = some (e_a1, e_a2)) : Met l yX0_freeAll (.code yX0_freeAll cX0_freeAll 2 none :: gtbl) ({ frames := 0, cells := 0, slots := 0, locals := 0 } : Room) (PcS G [.ref h0] (wW_X0_freeAll G h0 h1 h2 y0_0 y0_4 y0_5 x0_1 a1 a2) sz) (QvS G (va_A (wW_X0_freeAll G h0 h1 h2 y0_0 y0_4 y0_5 x0_1 a1 a2) sz) (wW_X0_freeAll G h0 h1 h2 y0_0 y0_4 y0_5 x0_1 e_a1 e_a2)) 0 0 (va_A (wW_X0_freeAll G h0 h1 h2 y0_0 y0_4 y0_5 x0_1 a1 a2) sz) := by
  refine met_start (by decide) (Nat.le_of_ble_eq_true rfl) ?_
  intro p e s m below meth c hC hr hlk hnm hK hP hD hA hS hX ls hl
  obtain ⟨hx, hb, hml, hown, ht0⟩ := hC
  have hown : s.vm.findClass RX0 = some m.cls := hown
  generalize va_A (wW_X0_freeAll G h0 h1 h2 y0_0 y0_4 y0_5 x0_1 a1 a2) sz = A at hD hA hS hX ⊢
  have hl : lv_has ls 2 [(0, .ref h0)] := hl
  have hf : p_X0_freeAll F a1 a2  = some (e_a1, e_a2) := hf
  have kL2 : ∀ (n2 : Nat) (u2_1 : Int32) (a1_2 : Nat → Int32) (a2_2 : Nat → Int32), p_X0_freeAll_L2 F n2 u2_1 a1_2 a2_2 = some (e_a1, e_a2) → ∀ (H : Heap) (locs : List Loc), va_P G.1 vwCl (wW_X0_freeAll G h0 h1 h2 y0_0 y0_4 y0_5 x0_1 a1_2 a2_2) H → va_D A (wW_X0_freeAll G h0 h1 h2 y0_0 y0_4 y0_5 x0_1 a1_2 a2_2) → va_S A s.heap H locs → ∀ ls : Array Slot, lv_has ls 2 [(0, .ref h0), (1, .int u2_1)] → W p l e ({ frames := 0, cells := 0, slots := 0, locals := 0 } : Room) s m (List.toArray [.ref h0]) below meth c H locs 0 0 (MQ below (QvS G A (wW_X0_freeAll G h0 h1 h2 y0_0 y0_4 y0_5 x0_1 e_a1 e_a2)) (List.toArray [.ref h0]) s 0 0 A) (F0 m 2 ls []) := by
    intro n2
    induction n2 with
    | zero =>
      intro u2_1 a1_2 a2_2 hf
      cases hf
    | succ n2 ih2 =>
      intro u2_1 a1_2 a2_2 hf H locs hP hD hS ls hl
      have hf : p_X0_freeAll_L2b F (p_X0_freeAll_L2 F n2) u2_1 a1_2 a2_2 = some (e_a1, e_a2) := hf
      refine lv_iload_n hx hb dX0_freeAll_2 rfl (lv_at hl 1 rfl) ?_
      refine lv_sipush (v := (256 : Int32)) hx hb dX0_freeAll_3 (by decide) ?_
      refine lv_icmp_ge (tgt := 29) hx hb dX0_freeAll_6 (by decide) (fun c1 => ?_) (fun c1 => ?_)
      · have hf := of_pos hf c1
        cases hf
        exact ret_v hx hb hr hlk hK hP hD hS dX0_freeAll_29
      · have hf := of_neg hf c1
        refine lv_aload_n hx hb dX0_freeAll_9 rfl (lv_at hl 0 rfl) ?_
        refine va_get (ci := 0) (v := .ref h1) (C := RX0) (T := TX0) (N := 6) hx hb ht0 iX0 hown hK hP 0 rfl rfl 2 (by decide) (ht0 _ wd_185) (fun _ h9 => h9) rfl dX0_freeAll_10 ?_
        refine lv_iload_n hx hb dX0_freeAll_13 rfl (lv_at hl 1 rfl) ?_
        refine lv_iconst (v := (0 : Int32)) hx hb dX0_freeAll_14 (by decide) ?_
        obtain ⟨g2, hf⟩ := of_grd hf
        refine va_zast hx hb hK hP hD hS 1 1 rfl rfl g2 dX0_freeAll_15 (fun H locs hP hD hS => ?_)
        have hP : va_P G.1 vwCl (wW_X0_freeAll G h0 h1 h2 y0_0 y0_4 y0_5 x0_1 (upd a1_2 u2_1.toNatClampNeg (vp_nar .boolean (0 : Int32))) a2_2) H := hP
        have hD : va_D A (wW_X0_freeAll G h0 h1 h2 y0_0 y0_4 y0_5 x0_1 (upd a1_2 u2_1.toNatClampNeg (vp_nar .boolean (0 : Int32))) a2_2) := hD
        refine lv_aload_n hx hb dX0_freeAll_16 rfl (lv_at hl 0 rfl) ?_
        refine va_get (ci := 0) (v := .ref h2) (C := RX0) (T := TX0) (N := 6) hx hb ht0 iX0 hown hK hP 0 rfl rfl 3 (by decide) (ht0 _ wd_186) (fun _ h9 => h9) rfl dX0_freeAll_17 ?_
        refine lv_iload_n hx hb dX0_freeAll_20 rfl (lv_at hl 1 rfl) ?_
        refine lv_iconst (v := (0 : Int32)) hx hb dX0_freeAll_21 (by decide) ?_
        obtain ⟨g3, hf⟩ := of_grd hf
        refine va_zast hx hb hK hP hD hS 2 1 rfl rfl g3 dX0_freeAll_22 (fun H locs hP hD hS => ?_)
        have hP : va_P G.1 vwCl (wW_X0_freeAll G h0 h1 h2 y0_0 y0_4 y0_5 x0_1 (upd a1_2 u2_1.toNatClampNeg (vp_nar .boolean (0 : Int32))) (upd a2_2 u2_1.toNatClampNeg (vp_nar .boolean (0 : Int32)))) H := hP
        have hD : va_D A (wW_X0_freeAll G h0 h1 h2 y0_0 y0_4 y0_5 x0_1 (upd a1_2 u2_1.toNatClampNeg (vp_nar .boolean (0 : Int32))) (upd a2_2 u2_1.toNatClampNeg (vp_nar .boolean (0 : Int32)))) := hD
        refine lv_iinc (v := u2_1 + (1 : Int32)) (lv' := [(1, .int (u2_1 + (1 : Int32))), (0, .ref h0)]) hx hb dX0_freeAll_23 hl (k := 1) rfl (by rfl) (by decide) rfl (fun ls hl => ?_)
        refine lv_goto (tgt := 2) hx hb dX0_freeAll_26 (by decide) ?_
        exact ih2 _ _ _ hf _ _ hP hD hS _ (lv_sub hl [1, 0] rfl)
  refine lv_iconst (v := (0 : Int32)) hx hb dX0_freeAll_0 (by decide) ?_
  refine lv_istore_n (lv' := [(1, .int (0 : Int32)), (0, .ref h0)]) hx hb dX0_freeAll_1 rfl hl (by decide) rfl (fun ls hl => ?_)
  exact kL2 _ _ _ _ hf _ _ hP hD hS _ (lv_sub hl [1, 0] rfl)
theorem yk_X0_freeAll : ykV yX0_freeAll RX0 cX0_freeAll 2 none 0 := ⟨wd_474, wd_1, wd_130, wd_475, rfl, by decide +kernel, by decide +kernel, by decide +kernel⟩
theorem dX0_joinChecks_0 : decode cX0_joinChecks 0 = .ok (.iconst 1, 1) := by decide +kernel
theorem dX0_joinChecks_1 : decode cX0_joinChecks 1 = .ok (.istore_n 2, 1) := by decide +kernel
theorem dX0_joinChecks_2 : decode cX0_joinChecks 2 = .ok (.iload_n 2, 1) := by decide +kernel
theorem dX0_joinChecks_3 : decode cX0_joinChecks 3 = .ok (.iload_n 1, 1) := by decide +kernel
theorem dX0_joinChecks_4 : decode cX0_joinChecks 4 = .ok (.if_icmp .ge 20, 3) := by decide +kernel
theorem dX0_joinChecks_7 : decode cX0_joinChecks 7 = .ok (.aload_n 0, 1) := by decide +kernel
theorem dX0_joinChecks_8 : decode cX0_joinChecks 8 = .ok (.getfield 19, 3) := by decide +kernel
theorem dX0_joinChecks_11 : decode cX0_joinChecks 11 = .ok (.iconst 3, 1) := by decide +kernel
theorem dX0_joinChecks_12 : decode cX0_joinChecks 12 = .ok (.iload_n 2, 1) := by decide +kernel
theorem dX0_joinChecks_13 : decode cX0_joinChecks 13 = .ok (.iconst 1, 1) := by decide +kernel
theorem dX0_joinChecks_14 : decode cX0_joinChecks 14 = .ok (.isub, 1) := by decide +kernel
theorem dX0_joinChecks_15 : decode cX0_joinChecks 15 = .ok (.ishl, 1) := by decide +kernel
theorem dX0_joinChecks_16 : decode cX0_joinChecks 16 = .ok (.iconst 1, 1) := by decide +kernel
theorem dX0_joinChecks_17 : decode cX0_joinChecks 17 = .ok (.bastore, 1) := by decide +kernel
theorem dX0_joinChecks_18 : decode cX0_joinChecks 18 = .ok (.iinc 2 1, 3) := by decide +kernel
theorem dX0_joinChecks_21 : decode cX0_joinChecks 21 = .ok (.goto (-19), 3) := by decide +kernel
theorem dX0_joinChecks_24 : decode cX0_joinChecks 24 = .ok (.return_, 1) := by decide +kernel
def wW_X0_joinChecks (G : GG) (h0 h1 y0_0 y0_2 y0_4 y0_5 : Nat) (x0_1 : Int32) (a1 : Nat → Int32) : va_W := [(h0, .inr (0, [.ref y0_0, .int x0_1, .ref y0_2, .ref h1, .ref y0_4, .ref y0_5])), (h1, .inl (G.2.2.1, 256, .inl a1))]
set_option maxHeartbeats 4000000 in
set_option maxRecDepth 100000 in
theorem c_X0_joinChecks (l : Launch) (G : GG) (h0 h1 y0_0 y0_2 y0_4 y0_5 : Nat) (sz : Nat) (x0_1 : Int32) (a1 : Nat → Int32) (F : Nat) (b1 : Int32)  (e_a1 : Nat → Int32) (hf : p_X0_joinChecks F a1 b1 = some e_a1) : Met l yX0_joinChecks (.code yX0_joinChecks cX0_joinChecks 3 none :: gtbl) ({ frames := 0, cells := 0, slots := 0, locals := 0 } : Room) (PcS G [.ref h0, .int b1] (wW_X0_joinChecks G h0 h1 y0_0 y0_2 y0_4 y0_5 x0_1 a1) sz) (QvS G (va_A (wW_X0_joinChecks G h0 h1 y0_0 y0_2 y0_4 y0_5 x0_1 a1) sz) (wW_X0_joinChecks G h0 h1 y0_0 y0_2 y0_4 y0_5 x0_1 e_a1)) 0 0 (va_A (wW_X0_joinChecks G h0 h1 y0_0 y0_2 y0_4 y0_5 x0_1 a1) sz) := by
  refine met_start (by decide) (Nat.le_of_ble_eq_true rfl) ?_
  intro p e s m below meth c hC hr hlk hnm hK hP hD hA hS hX ls hl
  obtain ⟨hx, hb, hml, hown, ht0⟩ := hC
  have hown : s.vm.findClass RX0 = some m.cls := hown
  generalize va_A (wW_X0_joinChecks G h0 h1 y0_0 y0_2 y0_4 y0_5 x0_1 a1) sz = A at hD hA hS hX ⊢
  have hl : lv_has ls 3 [(0, .ref h0), (1, .int b1)] := hl
  have hf : p_X0_joinChecks F a1 b1 = some e_a1 := hf
  have kL2 : ∀ (c2_1 : Int32) (n2 : Nat) (u2_2 : Int32) (a1_2 : Nat → Int32), p_X0_joinChecks_L2 F c2_1 n2 u2_2 a1_2 = some e_a1 → ∀ (H : Heap) (locs : List Loc), va_P G.1 vwCl (wW_X0_joinChecks G h0 h1 y0_0 y0_2 y0_4 y0_5 x0_1 a1_2) H → va_D A (wW_X0_joinChecks G h0 h1 y0_0 y0_2 y0_4 y0_5 x0_1 a1_2) → va_S A s.heap H locs → ∀ ls : Array Slot, lv_has ls 3 [(0, .ref h0), (1, .int c2_1), (2, .int u2_2)] → W p l e ({ frames := 0, cells := 0, slots := 0, locals := 0 } : Room) s m (List.toArray [.ref h0, .int b1]) below meth c H locs 0 0 (MQ below (QvS G A (wW_X0_joinChecks G h0 h1 y0_0 y0_2 y0_4 y0_5 x0_1 e_a1)) (List.toArray [.ref h0, .int b1]) s 0 0 A) (F0 m 2 ls []) := by
    intro c2_1 n2
    induction n2 with
    | zero =>
      intro u2_2 a1_2 hf
      cases hf
    | succ n2 ih2 =>
      intro u2_2 a1_2 hf H locs hP hD hS ls hl
      have hf : p_X0_joinChecks_L2b F c2_1 (p_X0_joinChecks_L2 F c2_1 n2) u2_2 a1_2 = some e_a1 := hf
      refine lv_iload_n hx hb dX0_joinChecks_2 rfl (lv_at hl 2 rfl) ?_
      refine lv_iload_n hx hb dX0_joinChecks_3 rfl (lv_at hl 1 rfl) ?_
      refine lv_icmp_ge (tgt := 24) hx hb dX0_joinChecks_4 (by decide) (fun c1 => ?_) (fun c1 => ?_)
      · have hf := of_pos hf c1
        cases hf
        exact ret_v hx hb hr hlk hK hP hD hS dX0_joinChecks_24
      · have hf := of_neg hf c1
        refine lv_aload_n hx hb dX0_joinChecks_7 rfl (lv_at hl 0 rfl) ?_
        refine va_get (ci := 0) (v := .ref h1) (C := RX0) (T := TX0) (N := 6) hx hb ht0 iX0 hown hK hP 0 rfl rfl 3 (by decide) (ht0 _ wd_186) (fun _ h9 => h9) rfl dX0_joinChecks_8 ?_
        refine lv_iconst (v := (3 : Int32)) hx hb dX0_joinChecks_11 (by decide) ?_
        refine lv_iload_n hx hb dX0_joinChecks_12 rfl (lv_at hl 2 rfl) ?_
        refine lv_iconst (v := (1 : Int32)) hx hb dX0_joinChecks_13 (by decide) ?_
        refine lv_isub hx hb dX0_joinChecks_14 ?_
        refine lv_ishl hx hb dX0_joinChecks_15 ?_
        refine lv_iconst (v := (1 : Int32)) hx hb dX0_joinChecks_16 (by decide) ?_
        obtain ⟨g2, hf⟩ := of_grd hf
        refine va_zast hx hb hK hP hD hS 1 1 rfl rfl g2 dX0_joinChecks_17 (fun H locs hP hD hS => ?_)
        have hP : va_P G.1 vwCl (wW_X0_joinChecks G h0 h1 y0_0 y0_2 y0_4 y0_5 x0_1 (upd a1_2 ((3 : Int32) <<< ((u2_2 - (1 : Int32)) &&& 31)).toNatClampNeg (vp_nar .boolean (1 : Int32)))) H := hP
        have hD : va_D A (wW_X0_joinChecks G h0 h1 y0_0 y0_2 y0_4 y0_5 x0_1 (upd a1_2 ((3 : Int32) <<< ((u2_2 - (1 : Int32)) &&& 31)).toNatClampNeg (vp_nar .boolean (1 : Int32)))) := hD
        refine lv_iinc (v := u2_2 + (1 : Int32)) (lv' := [(2, .int (u2_2 + (1 : Int32))), (0, .ref h0), (1, .int c2_1)]) hx hb dX0_joinChecks_18 hl (k := 2) rfl (by rfl) (by decide) rfl (fun ls hl => ?_)
        refine lv_goto (tgt := 2) hx hb dX0_joinChecks_21 (by decide) ?_
        exact ih2 _ _ hf _ _ hP hD hS _ (lv_sub hl [1, 2, 0] rfl)
  refine lv_iconst (v := (1 : Int32)) hx hb dX0_joinChecks_0 (by decide) ?_
  refine lv_istore_n (lv' := [(2, .int (1 : Int32)), (0, .ref h0), (1, .int b1)]) hx hb dX0_joinChecks_1 rfl hl (by decide) rfl (fun ls hl => ?_)
  exact kL2 _ _ _ _ hf _ _ hP hD hS _ (lv_sub hl [1, 2, 0] rfl)
theorem yk_X0_joinChecks : ykV yX0_joinChecks RX0 cX0_joinChecks 3 none 1 := ⟨wd_486, wd_3, wd_130, wd_487, rfl, by decide +kernel, by decide +kernel, by decide +kernel⟩
theorem dX0_takeAway_0 : decode cX0_takeAway 0 = .ok (.aload_n 1, 1) := by decide +kernel
theorem dX0_takeAway_1 : decode cX0_takeAway 1 = .ok (.getfield 58, 3) := by decide +kernel
theorem dX0_takeAway_4 : decode cX0_takeAway 4 = .ok (.iload_n 2, 1) := by decide +kernel
theorem dX0_takeAway_5 : decode cX0_takeAway 5 = .ok (.iaload, 1) := by decide +kernel
theorem dX0_takeAway_6 : decode cX0_takeAway 6 = .ok (.istore_n 3, 1) := by decide +kernel
theorem dX0_takeAway_7 : decode cX0_takeAway 7 = .ok (.aload_n 0, 1) := by decide +kernel
theorem dX0_takeAway_8 : decode cX0_takeAway 8 = .ok (.getfield 15, 3) := by decide +kernel
theorem dX0_takeAway_11 : decode cX0_takeAway 11 = .ok (.iload_n 3, 1) := by decide +kernel
theorem dX0_takeAway_12 : decode cX0_takeAway 12 = .ok (.iconst 0, 1) := by decide +kernel
theorem dX0_takeAway_13 : decode cX0_takeAway 13 = .ok (.bastore, 1) := by decide +kernel
theorem dX0_takeAway_14 : decode cX0_takeAway 14 = .ok (.iload_n 2, 1) := by decide +kernel
theorem dX0_takeAway_15 : decode cX0_takeAway 15 = .ok (.ifCond .le 19, 3) := by decide +kernel
theorem dX0_takeAway_18 : decode cX0_takeAway 18 = .ok (.aload_n 0, 1) := by decide +kernel
theorem dX0_takeAway_19 : decode cX0_takeAway 19 = .ok (.getfield 19, 3) := by decide +kernel
theorem dX0_takeAway_22 : decode cX0_takeAway 22 = .ok (.aload_n 1, 1) := by decide +kernel
theorem dX0_takeAway_23 : decode cX0_takeAway 23 = .ok (.getfield 58, 3) := by decide +kernel
theorem dX0_takeAway_26 : decode cX0_takeAway 26 = .ok (.iload_n 2, 1) := by decide +kernel
theorem dX0_takeAway_27 : decode cX0_takeAway 27 = .ok (.iconst 1, 1) := by decide +kernel
theorem dX0_takeAway_28 : decode cX0_takeAway 28 = .ok (.isub, 1) := by decide +kernel
theorem dX0_takeAway_29 : decode cX0_takeAway 29 = .ok (.iaload, 1) := by decide +kernel
theorem dX0_takeAway_30 : decode cX0_takeAway 30 = .ok (.iload_n 3, 1) := by decide +kernel
theorem dX0_takeAway_31 : decode cX0_takeAway 31 = .ok (.ixor, 1) := by decide +kernel
theorem dX0_takeAway_32 : decode cX0_takeAway 32 = .ok (.iconst 0, 1) := by decide +kernel
theorem dX0_takeAway_33 : decode cX0_takeAway 33 = .ok (.bastore, 1) := by decide +kernel
theorem dX0_takeAway_34 : decode cX0_takeAway 34 = .ok (.return_, 1) := by decide +kernel
def wW_X0_takeAway (G : GG) (h0 h1 h2 h3 h4 y0_0 y0_4 y0_5 y3_4 y3_5 : Nat) (x0_1 : Int32) (a1 : Nat → Int32) (a2 : Nat → Int32) (x3_0 : Int32) (x3_1 : Int32) (x3_2 : Int32) (a4 : Nat → Int32) : va_W := [(h0, .inr (0, [.ref y0_0, .int x0_1, .ref h1, .ref h2, .ref y0_4, .ref y0_5])), (h1, .inl (G.2.2.1, 256, .inl a1)), (h2, .inl (G.2.2.1, 256, .inl a2)), (h3, .inr (1, [.int x3_0, .int x3_1, .int x3_2, .ref h4, .ref y3_4, .ref y3_5])), (h4, .inl (G.2.1, 32, .inl a4))]
set_option maxHeartbeats 4000000 in
set_option maxRecDepth 100000 in
theorem c_X0_takeAway (l : Launch) (G : GG) (h0 h1 h2 h3 h4 y0_0 y0_4 y0_5 y3_4 y3_5 : Nat) (sz : Nat) (x0_1 : Int32) (a1 : Nat → Int32) (a2 : Nat → Int32) (x3_0 : Int32) (x3_1 : Int32) (x3_2 : Int32) (a4 : Nat → Int32) (F : Nat) (b2 : Int32)  (e_a1 : Nat → Int32) (e_a2 : Nat → Int32) (hf : p_X0_takeAway F a1 a2 a4 b2 = some (e_a1, e_a2)) : Met l yX0_takeAway (.code yX0_takeAway cX0_takeAway 4 none :: gtbl) ({ frames := 0, cells := 0, slots := 0, locals := 0 } : Room) (PcS G [.ref h0, .ref h3, .int b2] (wW_X0_takeAway G h0 h1 h2 h3 h4 y0_0 y0_4 y0_5 y3_4 y3_5 x0_1 a1 a2 x3_0 x3_1 x3_2 a4) sz) (QvS G (va_A (wW_X0_takeAway G h0 h1 h2 h3 h4 y0_0 y0_4 y0_5 y3_4 y3_5 x0_1 a1 a2 x3_0 x3_1 x3_2 a4) sz) (wW_X0_takeAway G h0 h1 h2 h3 h4 y0_0 y0_4 y0_5 y3_4 y3_5 x0_1 e_a1 e_a2 x3_0 x3_1 x3_2 a4)) 0 0 (va_A (wW_X0_takeAway G h0 h1 h2 h3 h4 y0_0 y0_4 y0_5 y3_4 y3_5 x0_1 a1 a2 x3_0 x3_1 x3_2 a4) sz) := by
  refine met_start (by decide) (Nat.le_of_ble_eq_true rfl) ?_
  intro p e s m below meth c hC hr hlk hnm hK hP hD hA hS hX ls hl
  obtain ⟨hx, hb, hml, hown, ht0⟩ := hC
  have hown : s.vm.findClass RX0 = some m.cls := hown
  generalize va_A (wW_X0_takeAway G h0 h1 h2 h3 h4 y0_0 y0_4 y0_5 y3_4 y3_5 x0_1 a1 a2 x3_0 x3_1 x3_2 a4) sz = A at hD hA hS hX ⊢
  have hl : lv_has ls 4 [(0, .ref h0), (1, .ref h3), (2, .int b2)] := hl
  have hf : p_X0_takeAway F a1 a2 a4 b2 = some (e_a1, e_a2) := hf
  refine lv_aload_n hx hb dX0_takeAway_0 rfl (lv_at hl 1 rfl) ?_
  refine va_get (ci := 1) (v := .ref h4) (C := RX1) (T := TX1) (N := 6) hx hb ht0 iX1 hown hK hP 3 rfl rfl 3 (by decide) (ht0 _ wd_227) (fun _ h9 => h9) rfl dX0_takeAway_1 ?_
  refine lv_iload_n hx hb dX0_takeAway_4 rfl (lv_at hl 2 rfl) ?_
  obtain ⟨g1, hf⟩ := of_grd hf
  refine va_iald hx hb hK hP 4 0 rfl rfl g1 dX0_takeAway_5 ?_
  refine lv_istore_n (lv' := [(3, .int (a4 b2.toNatClampNeg)), (0, .ref h0), (1, .ref h3), (2, .int b2)]) hx hb dX0_takeAway_6 rfl hl (by decide) rfl (fun ls hl => ?_)
  refine lv_aload_n hx hb dX0_takeAway_7 rfl (lv_at hl 1 rfl) ?_
  refine va_get (ci := 0) (v := .ref h1) (C := RX0) (T := TX0) (N := 6) hx hb ht0 iX0 hown hK hP 0 rfl rfl 2 (by decide) (ht0 _ wd_185) (fun _ h9 => h9) rfl dX0_takeAway_8 ?_
  refine lv_iload_n hx hb dX0_takeAway_11 rfl (lv_at hl 0 rfl) ?_
  refine lv_iconst (v := (0 : Int32)) hx hb dX0_takeAway_12 (by decide) ?_
  obtain ⟨g2, hf⟩ := of_grd hf
  refine va_zast hx hb hK hP hD hS 1 1 rfl rfl g2 dX0_takeAway_13 (fun H locs hP hD hS => ?_)
  have hP : va_P G.1 vwCl (wW_X0_takeAway G h0 h1 h2 h3 h4 y0_0 y0_4 y0_5 y3_4 y3_5 x0_1 (upd a1 (a4 b2.toNatClampNeg).toNatClampNeg (vp_nar .boolean (0 : Int32))) a2 x3_0 x3_1 x3_2 a4) H := hP
  have hD : va_D A (wW_X0_takeAway G h0 h1 h2 h3 h4 y0_0 y0_4 y0_5 y3_4 y3_5 x0_1 (upd a1 (a4 b2.toNatClampNeg).toNatClampNeg (vp_nar .boolean (0 : Int32))) a2 x3_0 x3_1 x3_2 a4) := hD
  refine lv_iload_n hx hb dX0_takeAway_14 rfl (lv_at hl 3 rfl) ?_
  refine lv_if_le (tgt := 34) hx hb dX0_takeAway_15 (by decide) (fun c3 => ?_) (fun c3 => ?_)
  · have hf := of_pos hf c3
    cases hf
    exact ret_v hx hb hr hlk hK hP hD hS dX0_takeAway_34
  · have hf := of_neg hf c3
    refine lv_aload_n hx hb dX0_takeAway_18 rfl (lv_at hl 1 rfl) ?_
    refine va_get (ci := 0) (v := .ref h2) (C := RX0) (T := TX0) (N := 6) hx hb ht0 iX0 hown hK hP 0 rfl rfl 3 (by decide) (ht0 _ wd_186) (fun _ h9 => h9) rfl dX0_takeAway_19 ?_
    refine lv_aload_n hx hb dX0_takeAway_22 rfl (lv_at hl 2 rfl) ?_
    refine va_get (ci := 1) (v := .ref h4) (C := RX1) (T := TX1) (N := 6) hx hb ht0 iX1 hown hK hP 3 rfl rfl 3 (by decide) (ht0 _ wd_227) (fun _ h9 => h9) rfl dX0_takeAway_23 ?_
    refine lv_iload_n hx hb dX0_takeAway_26 rfl (lv_at hl 3 rfl) ?_
    refine lv_iconst (v := (1 : Int32)) hx hb dX0_takeAway_27 (by decide) ?_
    refine lv_isub hx hb dX0_takeAway_28 ?_
    obtain ⟨g4, hf⟩ := of_grd hf
    refine va_iald hx hb hK hP 4 0 rfl rfl g4 dX0_takeAway_29 ?_
    refine lv_iload_n hx hb dX0_takeAway_30 rfl (lv_at hl 0 rfl) ?_
    refine lv_ixor hx hb dX0_takeAway_31 ?_
    refine lv_iconst (v := (0 : Int32)) hx hb dX0_takeAway_32 (by decide) ?_
    obtain ⟨g5, hf⟩ := of_grd hf
    refine va_zast hx hb hK hP hD hS 2 1 rfl rfl g5 dX0_takeAway_33 (fun H locs hP hD hS => ?_)
    have hP : va_P G.1 vwCl (wW_X0_takeAway G h0 h1 h2 h3 h4 y0_0 y0_4 y0_5 y3_4 y3_5 x0_1 (upd a1 (a4 b2.toNatClampNeg).toNatClampNeg (vp_nar .boolean (0 : Int32))) (upd a2 ((a4 (b2 - (1 : Int32)).toNatClampNeg) ^^^ (a4 b2.toNatClampNeg)).toNatClampNeg (vp_nar .boolean (0 : Int32))) x3_0 x3_1 x3_2 a4) H := hP
    have hD : va_D A (wW_X0_takeAway G h0 h1 h2 h3 h4 y0_0 y0_4 y0_5 y3_4 y3_5 x0_1 (upd a1 (a4 b2.toNatClampNeg).toNatClampNeg (vp_nar .boolean (0 : Int32))) (upd a2 ((a4 (b2 - (1 : Int32)).toNatClampNeg) ^^^ (a4 b2.toNatClampNeg)).toNatClampNeg (vp_nar .boolean (0 : Int32))) x3_0 x3_1 x3_2 a4) := hD
    cases hf
    exact ret_v hx hb hr hlk hK hP hD hS dX0_takeAway_34
theorem yk_X0_takeAway : ykV yX0_takeAway RX0 cX0_takeAway 4 none 2 := ⟨wd_491, wd_4, wd_130, wd_492, rfl, by decide +kernel, by decide +kernel, by decide +kernel⟩
theorem dX0_fits_0 : decode cX0_fits 0 = .ok (.iload_n 2, 1) := by decide +kernel
theorem dX0_fits_1 : decode cX0_fits 1 = .ok (.ifCond .le 23, 3) := by decide +kernel
theorem dX0_fits_4 : decode cX0_fits 4 = .ok (.aload_n 0, 1) := by decide +kernel
theorem dX0_fits_5 : decode cX0_fits 5 = .ok (.getfield 19, 3) := by decide +kernel
theorem dX0_fits_8 : decode cX0_fits 8 = .ok (.aload_n 1, 1) := by decide +kernel
theorem dX0_fits_9 : decode cX0_fits 9 = .ok (.getfield 58, 3) := by decide +kernel
theorem dX0_fits_12 : decode cX0_fits 12 = .ok (.iload_n 2, 1) := by decide +kernel
theorem dX0_fits_13 : decode cX0_fits 13 = .ok (.iconst 1, 1) := by decide +kernel
theorem dX0_fits_14 : decode cX0_fits 14 = .ok (.isub, 1) := by decide +kernel
theorem dX0_fits_15 : decode cX0_fits 15 = .ok (.iaload, 1) := by decide +kernel
theorem dX0_fits_16 : decode cX0_fits 16 = .ok (.iload_n 3, 1) := by decide +kernel
theorem dX0_fits_17 : decode cX0_fits 17 = .ok (.ixor, 1) := by decide +kernel
theorem dX0_fits_18 : decode cX0_fits 18 = .ok (.baload, 1) := by decide +kernel
theorem dX0_fits_19 : decode cX0_fits 19 = .ok (.ifCond .eq 5, 3) := by decide +kernel
theorem dX0_fits_22 : decode cX0_fits 22 = .ok (.iconst 0, 1) := by decide +kernel
theorem dX0_fits_23 : decode cX0_fits 23 = .ok (.ireturn, 1) := by decide +kernel
theorem dX0_fits_24 : decode cX0_fits 24 = .ok (.iload_n 2, 1) := by decide +kernel
theorem dX0_fits_25 : decode cX0_fits 25 = .ok (.aload_n 1, 1) := by decide +kernel
theorem dX0_fits_26 : decode cX0_fits 26 = .ok (.getfield 41, 3) := by decide +kernel
theorem dX0_fits_29 : decode cX0_fits 29 = .ok (.iconst 1, 1) := by decide +kernel
theorem dX0_fits_30 : decode cX0_fits 30 = .ok (.isub, 1) := by decide +kernel
theorem dX0_fits_31 : decode cX0_fits 31 = .ok (.if_icmp .lt 14, 3) := by decide +kernel
theorem dX0_fits_34 : decode cX0_fits 34 = .ok (.aload_n 0, 1) := by decide +kernel
theorem dX0_fits_35 : decode cX0_fits 35 = .ok (.getfield 19, 3) := by decide +kernel
theorem dX0_fits_38 : decode cX0_fits 38 = .ok (.iload_n 3, 1) := by decide +kernel
theorem dX0_fits_39 : decode cX0_fits 39 = .ok (.iconst 1, 1) := by decide +kernel
theorem dX0_fits_40 : decode cX0_fits 40 = .ok (.ixor, 1) := by decide +kernel
theorem dX0_fits_41 : decode cX0_fits 41 = .ok (.baload, 1) := by decide +kernel
theorem dX0_fits_42 : decode cX0_fits 42 = .ok (.ifCond .ne 7, 3) := by decide +kernel
theorem dX0_fits_45 : decode cX0_fits 45 = .ok (.iconst 1, 1) := by decide +kernel
theorem dX0_fits_46 : decode cX0_fits 46 = .ok (.goto 4, 3) := by decide +kernel
theorem dX0_fits_49 : decode cX0_fits 49 = .ok (.iconst 0, 1) := by decide +kernel
theorem dX0_fits_50 : decode cX0_fits 50 = .ok (.ireturn, 1) := by decide +kernel
def wW_X0_fits (G : GG) (h0 h1 h2 h3 y0_0 y0_2 y0_4 y0_5 y2_4 y2_5 : Nat) (x0_1 : Int32) (a1 : Nat → Int32) (x2_0 : Int32) (x2_1 : Int32) (x2_2 : Int32) (a3 : Nat → Int32) : va_W := [(h0, .inr (0, [.ref y0_0, .int x0_1, .ref y0_2, .ref h1, .ref y0_4, .ref y0_5])), (h1, .inl (G.2.2.1, 256, .inl a1)), (h2, .inr (1, [.int x2_0, .int x2_1, .int x2_2, .ref h3, .ref y2_4, .ref y2_5])), (h3, .inl (G.2.1, 32, .inl a3))]
set_option maxHeartbeats 4000000 in
set_option maxRecDepth 100000 in
theorem c_X0_fits (l : Launch) (G : GG) (h0 h1 h2 h3 y0_0 y0_2 y0_4 y0_5 y2_4 y2_5 : Nat) (sz : Nat) (x0_1 : Int32) (a1 : Nat → Int32) (x2_0 : Int32) (x2_1 : Int32) (x2_2 : Int32) (a3 : Nat → Int32) (F : Nat) (b2 : Int32) (b3 : Int32)  (r0 : Int32) (hf : p_X0_fits F a1 x2_0 a3 b2 b3 = some r0) : Met l yX0_fits (.code yX0_fits cX0_fits 4 (some .boolean) :: gtbl) ({ frames := 0, cells := 0, slots := 0, locals := 0 } : Room) (PcS G [.ref h0, .ref h2, .int b2, .int b3] (wW_X0_fits G h0 h1 h2 h3 y0_0 y0_2 y0_4 y0_5 y2_4 y2_5 x0_1 a1 x2_0 x2_1 x2_2 a3) sz) (QiS G r0 (va_A (wW_X0_fits G h0 h1 h2 h3 y0_0 y0_2 y0_4 y0_5 y2_4 y2_5 x0_1 a1 x2_0 x2_1 x2_2 a3) sz) (wW_X0_fits G h0 h1 h2 h3 y0_0 y0_2 y0_4 y0_5 y2_4 y2_5 x0_1 a1 x2_0 x2_1 x2_2 a3)) 0 0 (va_A (wW_X0_fits G h0 h1 h2 h3 y0_0 y0_2 y0_4 y0_5 y2_4 y2_5 x0_1 a1 x2_0 x2_1 x2_2 a3) sz) := by
  refine met_start (by decide) (Nat.le_of_ble_eq_true rfl) ?_
  intro p e s m below meth c hC hr hlk hnm hK hP hD hA hS hX ls hl
  obtain ⟨hx, hb, hml, hown, ht0⟩ := hC
  have hown : s.vm.findClass RX0 = some m.cls := hown
  generalize va_A (wW_X0_fits G h0 h1 h2 h3 y0_0 y0_2 y0_4 y0_5 y2_4 y2_5 x0_1 a1 x2_0 x2_1 x2_2 a3) sz = A at hD hA hS hX ⊢
  have hl : lv_has ls 4 [(0, .ref h0), (1, .ref h2), (2, .int b2), (3, .int b3)] := hl
  have hf : p_X0_fits F a1 x2_0 a3 b2 b3 = some r0 := hf
  have kJ24 : ∀ (u24_2 : Int32) (u24_3 : Int32), p_X0_fits_J24 F a1 x2_0 a3 u24_2 u24_3 = some r0 → ∀ (H : Heap) (locs : List Loc), va_P G.1 vwCl (wW_X0_fits G h0 h1 h2 h3 y0_0 y0_2 y0_4 y0_5 y2_4 y2_5 x0_1 a1 x2_0 x2_1 x2_2 a3) H → va_D A (wW_X0_fits G h0 h1 h2 h3 y0_0 y0_2 y0_4 y0_5 y2_4 y2_5 x0_1 a1 x2_0 x2_1 x2_2 a3) → va_S A s.heap H locs → ∀ ls : Array Slot, lv_has ls 4 [(0, .ref h0), (1, .ref h2), (2, .int u24_2), (3, .int u24_3)] → W p l e ({ frames := 0, cells := 0, slots := 0, locals := 0 } : Room) s m (List.toArray [.ref h0, .ref h2, .int b2, .int b3]) below meth c H locs 0 0 (MQ below (QiS G r0 A (wW_X0_fits G h0 h1 h2 h3 y0_0 y0_2 y0_4 y0_5 y2_4 y2_5 x0_1 a1 x2_0 x2_1 x2_2 a3)) (List.toArray [.ref h0, .ref h2, .int b2, .int b3]) s 0 0 A) (F0 m 24 ls []) := by
    intro u24_2 u24_3 hf H locs hP hD hS ls hl
    refine lv_iload_n hx hb dX0_fits_24 rfl (lv_at hl 2 rfl) ?_
    refine lv_aload_n hx hb dX0_fits_25 rfl (lv_at hl 1 rfl) ?_
    refine va_get (ci := 1) (v := .int x2_0) (C := RX1) (T := TX1) (N := 6) hx hb ht0 iX1 hown hK hP 2 rfl rfl 0 (by decide) (ht0 _ wd_210) (fun _ h9 => h9) rfl dX0_fits_26 ?_
    refine lv_iconst (v := (1 : Int32)) hx hb dX0_fits_29 (by decide) ?_
    refine lv_isub hx hb dX0_fits_30 ?_
    refine lv_icmp_lt (tgt := 45) hx hb dX0_fits_31 (by decide) (fun c1 => ?_) (fun c1 => ?_)
    · have hf := of_pos hf c1
      refine lv_iconst (v := (1 : Int32)) hx hb dX0_fits_45 (by decide) ?_
      refine lv_goto (tgt := 50) hx hb dX0_fits_46 (by decide) ?_
      cases hf
      exact ret_z hx hb hr hlk hK hP hD hS (by decide) dX0_fits_50
    · have hf := of_neg hf c1
      refine lv_aload_n hx hb dX0_fits_34 rfl (lv_at hl 0 rfl) ?_
      refine va_get (ci := 0) (v := .ref h1) (C := RX0) (T := TX0) (N := 6) hx hb ht0 iX0 hown hK hP 0 rfl rfl 3 (by decide) (ht0 _ wd_186) (fun _ h9 => h9) rfl dX0_fits_35 ?_
      refine lv_iload_n hx hb dX0_fits_38 rfl (lv_at hl 3 rfl) ?_
      refine lv_iconst (v := (1 : Int32)) hx hb dX0_fits_39 (by decide) ?_
      refine lv_ixor hx hb dX0_fits_40 ?_
      obtain ⟨g2, hf⟩ := of_grd hf
      refine va_zald hx hb hK hP 1 1 rfl rfl g2 dX0_fits_41 ?_
      refine lv_if_ne (tgt := 49) hx hb dX0_fits_42 (by decide) (fun c3 => ?_) (fun c3 => ?_)
      · have hf := of_neg hf c3
        refine lv_iconst (v := (0 : Int32)) hx hb dX0_fits_49 (by decide) ?_
        cases hf
        exact ret_z hx hb hr hlk hK hP hD hS (by decide) dX0_fits_50
      · have hf := of_pos hf c3
        refine lv_iconst (v := (1 : Int32)) hx hb dX0_fits_45 (by decide) ?_
        refine lv_goto (tgt := 50) hx hb dX0_fits_46 (by decide) ?_
        cases hf
        exact ret_z hx hb hr hlk hK hP hD hS (by decide) dX0_fits_50
  refine lv_iload_n hx hb dX0_fits_0 rfl (lv_at hl 2 rfl) ?_
  refine lv_if_le (tgt := 24) hx hb dX0_fits_1 (by decide) (fun c4 => ?_) (fun c4 => ?_)
  · have hf := of_pos hf c4
    exact kJ24 _ _ hf _ _ hP hD hS _ (lv_sub hl [0, 1, 2, 3] rfl)
  · have hf := of_neg hf c4
    refine lv_aload_n hx hb dX0_fits_4 rfl (lv_at hl 0 rfl) ?_
    refine va_get (ci := 0) (v := .ref h1) (C := RX0) (T := TX0) (N := 6) hx hb ht0 iX0 hown hK hP 0 rfl rfl 3 (by decide) (ht0 _ wd_186) (fun _ h9 => h9) rfl dX0_fits_5 ?_
    refine lv_aload_n hx hb dX0_fits_8 rfl (lv_at hl 1 rfl) ?_
    refine va_get (ci := 1) (v := .ref h3) (C := RX1) (T := TX1) (N := 6) hx hb ht0 iX1 hown hK hP 2 rfl rfl 3 (by decide) (ht0 _ wd_227) (fun _ h9 => h9) rfl dX0_fits_9 ?_
    refine lv_iload_n hx hb dX0_fits_12 rfl (lv_at hl 2 rfl) ?_
    refine lv_iconst (v := (1 : Int32)) hx hb dX0_fits_13 (by decide) ?_
    refine lv_isub hx hb dX0_fits_14 ?_
    obtain ⟨g5, hf⟩ := of_grd hf
    refine va_iald hx hb hK hP 3 0 rfl rfl g5 dX0_fits_15 ?_
    refine lv_iload_n hx hb dX0_fits_16 rfl (lv_at hl 3 rfl) ?_
    refine lv_ixor hx hb dX0_fits_17 ?_
    obtain ⟨g6, hf⟩ := of_grd hf
    refine va_zald hx hb hK hP 1 1 rfl rfl g6 dX0_fits_18 ?_
    refine lv_if_eq (tgt := 24) hx hb dX0_fits_19 (by decide) (fun c7 => ?_) (fun c7 => ?_)
    · have hf := of_pos hf c7
      exact kJ24 _ _ hf _ _ hP hD hS _ (lv_sub hl [0, 1, 2, 3] rfl)
    · have hf := of_neg hf c7
      refine lv_iconst (v := (0 : Int32)) hx hb dX0_fits_22 (by decide) ?_
      cases hf
      exact ret_z hx hb hr hlk hK hP hD hS (by decide) dX0_fits_23
theorem yk_X0_fits : ykV yX0_fits RX0 cX0_fits 4 (some .boolean) 3 := ⟨wd_495, wd_5, wd_130, wd_496, rfl, by decide +kernel, by decide +kernel, by decide +kernel⟩
theorem dX0_put_0 : decode cX0_put 0 = .ok (.aload_n 1, 1) := by decide +kernel
theorem dX0_put_1 : decode cX0_put 1 = .ok (.getfield 58, 3) := by decide +kernel
theorem dX0_put_4 : decode cX0_put 4 = .ok (.iload_n 2, 1) := by decide +kernel
theorem dX0_put_5 : decode cX0_put 5 = .ok (.iload_n 3, 1) := by decide +kernel
theorem dX0_put_6 : decode cX0_put 6 = .ok (.iastore, 1) := by decide +kernel
theorem dX0_put_7 : decode cX0_put 7 = .ok (.aload_n 0, 1) := by decide +kernel
theorem dX0_put_8 : decode cX0_put 8 = .ok (.getfield 15, 3) := by decide +kernel
theorem dX0_put_11 : decode cX0_put 11 = .ok (.iload_n 3, 1) := by decide +kernel
theorem dX0_put_12 : decode cX0_put 12 = .ok (.iconst 1, 1) := by decide +kernel
theorem dX0_put_13 : decode cX0_put 13 = .ok (.bastore, 1) := by decide +kernel
theorem dX0_put_14 : decode cX0_put 14 = .ok (.iload_n 2, 1) := by decide +kernel
theorem dX0_put_15 : decode cX0_put 15 = .ok (.ifCond .le 19, 3) := by decide +kernel
theorem dX0_put_18 : decode cX0_put 18 = .ok (.aload_n 0, 1) := by decide +kernel
theorem dX0_put_19 : decode cX0_put 19 = .ok (.getfield 19, 3) := by decide +kernel
theorem dX0_put_22 : decode cX0_put 22 = .ok (.aload_n 1, 1) := by decide +kernel
theorem dX0_put_23 : decode cX0_put 23 = .ok (.getfield 58, 3) := by decide +kernel
theorem dX0_put_26 : decode cX0_put 26 = .ok (.iload_n 2, 1) := by decide +kernel
theorem dX0_put_27 : decode cX0_put 27 = .ok (.iconst 1, 1) := by decide +kernel
theorem dX0_put_28 : decode cX0_put 28 = .ok (.isub, 1) := by decide +kernel
theorem dX0_put_29 : decode cX0_put 29 = .ok (.iaload, 1) := by decide +kernel
theorem dX0_put_30 : decode cX0_put 30 = .ok (.iload_n 3, 1) := by decide +kernel
theorem dX0_put_31 : decode cX0_put 31 = .ok (.ixor, 1) := by decide +kernel
theorem dX0_put_32 : decode cX0_put 32 = .ok (.iconst 1, 1) := by decide +kernel
theorem dX0_put_33 : decode cX0_put 33 = .ok (.bastore, 1) := by decide +kernel
theorem dX0_put_34 : decode cX0_put 34 = .ok (.return_, 1) := by decide +kernel
def wW_X0_put (G : GG) (h0 h1 h2 h3 h4 y0_0 y0_4 y0_5 y3_4 y3_5 : Nat) (x0_1 : Int32) (a1 : Nat → Int32) (a2 : Nat → Int32) (x3_0 : Int32) (x3_1 : Int32) (x3_2 : Int32) (a4 : Nat → Int32) : va_W := [(h0, .inr (0, [.ref y0_0, .int x0_1, .ref h1, .ref h2, .ref y0_4, .ref y0_5])), (h1, .inl (G.2.2.1, 256, .inl a1)), (h2, .inl (G.2.2.1, 256, .inl a2)), (h3, .inr (1, [.int x3_0, .int x3_1, .int x3_2, .ref h4, .ref y3_4, .ref y3_5])), (h4, .inl (G.2.1, 32, .inl a4))]
set_option maxHeartbeats 4000000 in
set_option maxRecDepth 100000 in
theorem c_X0_put (l : Launch) (G : GG) (h0 h1 h2 h3 h4 y0_0 y0_4 y0_5 y3_4 y3_5 : Nat) (sz : Nat) (x0_1 : Int32) (a1 : Nat → Int32) (a2 : Nat → Int32) (x3_0 : Int32) (x3_1 : Int32) (x3_2 : Int32) (a4 : Nat → Int32) (F : Nat) (b2 : Int32) (b3 : Int32)  (e_a1 : Nat → Int32) (e_a2 : Nat → Int32) (e_a4 : Nat → Int32) (hf : p_X0_put F a1 a2 a4 b2 b3 = some (e_a1, e_a2, e_a4)) : Met l yX0_put (.code yX0_put cX0_put 4 none :: gtbl) ({ frames := 0, cells := 0, slots := 0, locals := 0 } : Room) (PcS G [.ref h0, .ref h3, .int b2, .int b3] (wW_X0_put G h0 h1 h2 h3 h4 y0_0 y0_4 y0_5 y3_4 y3_5 x0_1 a1 a2 x3_0 x3_1 x3_2 a4) sz) (QvS G (va_A (wW_X0_put G h0 h1 h2 h3 h4 y0_0 y0_4 y0_5 y3_4 y3_5 x0_1 a1 a2 x3_0 x3_1 x3_2 a4) sz) (wW_X0_put G h0 h1 h2 h3 h4 y0_0 y0_4 y0_5 y3_4 y3_5 x0_1 e_a1 e_a2 x3_0 x3_1 x3_2 e_a4)) 0 0 (va_A (wW_X0_put G h0 h1 h2 h3 h4 y0_0 y0_4 y0_5 y3_4 y3_5 x0_1 a1 a2 x3_0 x3_1 x3_2 a4) sz) := by
  refine met_start (by decide) (Nat.le_of_ble_eq_true rfl) ?_
  intro p e s m below meth c hC hr hlk hnm hK hP hD hA hS hX ls hl
  obtain ⟨hx, hb, hml, hown, ht0⟩ := hC
  have hown : s.vm.findClass RX0 = some m.cls := hown
  generalize va_A (wW_X0_put G h0 h1 h2 h3 h4 y0_0 y0_4 y0_5 y3_4 y3_5 x0_1 a1 a2 x3_0 x3_1 x3_2 a4) sz = A at hD hA hS hX ⊢
  have hl : lv_has ls 4 [(0, .ref h0), (1, .ref h3), (2, .int b2), (3, .int b3)] := hl
  have hf : p_X0_put F a1 a2 a4 b2 b3 = some (e_a1, e_a2, e_a4) := hf
  refine lv_aload_n hx hb dX0_put_0 rfl (lv_at hl 1 rfl) ?_
  refine va_get (ci := 1) (v := .ref h4) (C := RX1) (T := TX1) (N := 6) hx hb ht0 iX1 hown hK hP 3 rfl rfl 3 (by decide) (ht0 _ wd_227) (fun _ h9 => h9) rfl dX0_put_1 ?_
  refine lv_iload_n hx hb dX0_put_4 rfl (lv_at hl 2 rfl) ?_
  refine lv_iload_n hx hb dX0_put_5 rfl (lv_at hl 3 rfl) ?_
  obtain ⟨g1, hf⟩ := of_grd hf
  refine va_iast hx hb hK hP hD hS 4 0 rfl rfl g1 dX0_put_6 (fun H locs hP hD hS => ?_)
  have hP : va_P G.1 vwCl (wW_X0_put G h0 h1 h2 h3 h4 y0_0 y0_4 y0_5 y3_4 y3_5 x0_1 a1 a2 x3_0 x3_1 x3_2 (upd a4 b2.toNatClampNeg b3)) H := hP
  have hD : va_D A (wW_X0_put G h0 h1 h2 h3 h4 y0_0 y0_4 y0_5 y3_4 y3_5 x0_1 a1 a2 x3_0 x3_1 x3_2 (upd a4 b2.toNatClampNeg b3)) := hD
  refine lv_aload_n hx hb dX0_put_7 rfl (lv_at hl 0 rfl) ?_
  refine va_get (ci := 0) (v := .ref h1) (C := RX0) (T := TX0) (N := 6) hx hb ht0 iX0 hown hK hP 0 rfl rfl 2 (by decide) (ht0 _ wd_185) (fun _ h9 => h9) rfl dX0_put_8 ?_
  refine lv_iload_n hx hb dX0_put_11 rfl (lv_at hl 3 rfl) ?_
  refine lv_iconst (v := (1 : Int32)) hx hb dX0_put_12 (by decide) ?_
  obtain ⟨g2, hf⟩ := of_grd hf
  refine va_zast hx hb hK hP hD hS 1 1 rfl rfl g2 dX0_put_13 (fun H locs hP hD hS => ?_)
  have hP : va_P G.1 vwCl (wW_X0_put G h0 h1 h2 h3 h4 y0_0 y0_4 y0_5 y3_4 y3_5 x0_1 (upd a1 b3.toNatClampNeg (vp_nar .boolean (1 : Int32))) a2 x3_0 x3_1 x3_2 (upd a4 b2.toNatClampNeg b3)) H := hP
  have hD : va_D A (wW_X0_put G h0 h1 h2 h3 h4 y0_0 y0_4 y0_5 y3_4 y3_5 x0_1 (upd a1 b3.toNatClampNeg (vp_nar .boolean (1 : Int32))) a2 x3_0 x3_1 x3_2 (upd a4 b2.toNatClampNeg b3)) := hD
  refine lv_iload_n hx hb dX0_put_14 rfl (lv_at hl 2 rfl) ?_
  refine lv_if_le (tgt := 34) hx hb dX0_put_15 (by decide) (fun c3 => ?_) (fun c3 => ?_)
  · have hf := of_pos hf c3
    cases hf
    exact ret_v hx hb hr hlk hK hP hD hS dX0_put_34
  · have hf := of_neg hf c3
    refine lv_aload_n hx hb dX0_put_18 rfl (lv_at hl 0 rfl) ?_
    refine va_get (ci := 0) (v := .ref h2) (C := RX0) (T := TX0) (N := 6) hx hb ht0 iX0 hown hK hP 0 rfl rfl 3 (by decide) (ht0 _ wd_186) (fun _ h9 => h9) rfl dX0_put_19 ?_
    refine lv_aload_n hx hb dX0_put_22 rfl (lv_at hl 1 rfl) ?_
    refine va_get (ci := 1) (v := .ref h4) (C := RX1) (T := TX1) (N := 6) hx hb ht0 iX1 hown hK hP 3 rfl rfl 3 (by decide) (ht0 _ wd_227) (fun _ h9 => h9) rfl dX0_put_23 ?_
    refine lv_iload_n hx hb dX0_put_26 rfl (lv_at hl 2 rfl) ?_
    refine lv_iconst (v := (1 : Int32)) hx hb dX0_put_27 (by decide) ?_
    refine lv_isub hx hb dX0_put_28 ?_
    obtain ⟨g4, hf⟩ := of_grd hf
    refine va_iald hx hb hK hP 4 0 rfl rfl g4 dX0_put_29 ?_
    refine lv_iload_n hx hb dX0_put_30 rfl (lv_at hl 3 rfl) ?_
    refine lv_ixor hx hb dX0_put_31 ?_
    refine lv_iconst (v := (1 : Int32)) hx hb dX0_put_32 (by decide) ?_
    obtain ⟨g5, hf⟩ := of_grd hf
    refine va_zast hx hb hK hP hD hS 2 1 rfl rfl g5 dX0_put_33 (fun H locs hP hD hS => ?_)
    have hP : va_P G.1 vwCl (wW_X0_put G h0 h1 h2 h3 h4 y0_0 y0_4 y0_5 y3_4 y3_5 x0_1 (upd a1 b3.toNatClampNeg (vp_nar .boolean (1 : Int32))) (upd a2 (((upd a4 b2.toNatClampNeg b3) (b2 - (1 : Int32)).toNatClampNeg) ^^^ b3).toNatClampNeg (vp_nar .boolean (1 : Int32))) x3_0 x3_1 x3_2 (upd a4 b2.toNatClampNeg b3)) H := hP
    have hD : va_D A (wW_X0_put G h0 h1 h2 h3 h4 y0_0 y0_4 y0_5 y3_4 y3_5 x0_1 (upd a1 b3.toNatClampNeg (vp_nar .boolean (1 : Int32))) (upd a2 (((upd a4 b2.toNatClampNeg b3) (b2 - (1 : Int32)).toNatClampNeg) ^^^ b3).toNatClampNeg (vp_nar .boolean (1 : Int32))) x3_0 x3_1 x3_2 (upd a4 b2.toNatClampNeg b3)) := hD
    cases hf
    exact ret_v hx hb hr hlk hK hP hD hS dX0_put_34
theorem yk_X0_put : ykV yX0_put RX0 cX0_put 4 none 3 := ⟨wd_499, wd_6, wd_130, wd_500, rfl, by decide +kernel, by decide +kernel, by decide +kernel⟩
theorem dX0_choosePaired_0 : decode cX0_choosePaired 0 = .ok (.aload_n 0, 1) := by decide +kernel
theorem dX0_choosePaired_1 : decode cX0_choosePaired 1 = .ok (.aload_n 1, 1) := by decide +kernel
theorem dX0_choosePaired_2 : decode cX0_choosePaired 2 = .ok (.getfield 28, 3) := by decide +kernel
theorem dX0_choosePaired_5 : decode cX0_choosePaired 5 = .ok (.invokevirtual 95, 3) := by decide +kernel
theorem dX0_choosePaired_8 : decode cX0_choosePaired 8 = .ok (.iconst 0, 1) := by decide +kernel
theorem dX0_choosePaired_9 : decode cX0_choosePaired 9 = .ok (.istore_n 2, 1) := by decide +kernel
theorem dX0_choosePaired_10 : decode cX0_choosePaired 10 = .ok (.iconst 0, 1) := by decide +kernel
theorem dX0_choosePaired_11 : decode cX0_choosePaired 11 = .ok (.istore_n 3, 1) := by decide +kernel
theorem dX0_choosePaired_12 : decode cX0_choosePaired 12 = .ok (.aload_n 0, 1) := by decide +kernel
theorem dX0_choosePaired_13 : decode cX0_choosePaired 13 = .ok (.getfield 22, 3) := by decide +kernel
theorem dX0_choosePaired_16 : decode cX0_choosePaired 16 = .ok (.iconst 0, 1) := by decide +kernel
theorem dX0_choosePaired_17 : decode cX0_choosePaired 17 = .ok (.iconst 0, 1) := by decide +kernel
theorem dX0_choosePaired_18 : decode cX0_choosePaired 18 = .ok (.iastore, 1) := by decide +kernel
theorem dX0_choosePaired_19 : decode cX0_choosePaired 19 = .ok (.iconst 0, 1) := by decide +kernel
theorem dX0_choosePaired_20 : decode cX0_choosePaired 20 = .ok (.istore 4, 2) := by decide +kernel
theorem dX0_choosePaired_22 : decode cX0_choosePaired 22 = .ok (.iload 4, 2) := by decide +kernel
theorem dX0_choosePaired_24 : decode cX0_choosePaired 24 = .ok (.ldc 98, 2) := by decide +kernel
theorem dX0_choosePaired_26 : decode cX0_choosePaired 26 = .ok (.if_icmp .ge 133, 3) := by decide +kernel
theorem dX0_choosePaired_29 : decode cX0_choosePaired 29 = .ok (.aload_n 0, 1) := by decide +kernel
theorem dX0_choosePaired_30 : decode cX0_choosePaired 30 = .ok (.getfield 22, 3) := by decide +kernel
theorem dX0_choosePaired_33 : decode cX0_choosePaired 33 = .ok (.iload_n 2, 1) := by decide +kernel
theorem dX0_choosePaired_34 : decode cX0_choosePaired 34 = .ok (.iaload, 1) := by decide +kernel
theorem dX0_choosePaired_35 : decode cX0_choosePaired 35 = .ok (.aload_n 0, 1) := by decide +kernel
theorem dX0_choosePaired_36 : decode cX0_choosePaired 36 = .ok (.getfield 38, 3) := by decide +kernel
theorem dX0_choosePaired_39 : decode cX0_choosePaired 39 = .ok (.if_icmp .lt 21, 3) := by decide +kernel
theorem dX0_choosePaired_42 : decode cX0_choosePaired 42 = .ok (.iload_n 2, 1) := by decide +kernel
theorem dX0_choosePaired_43 : decode cX0_choosePaired 43 = .ok (.ifCond .ne 5, 3) := by decide +kernel
theorem dX0_choosePaired_46 : decode cX0_choosePaired 46 = .ok (.iconst 0, 1) := by decide +kernel
theorem dX0_choosePaired_47 : decode cX0_choosePaired 47 = .ok (.ireturn, 1) := by decide +kernel
theorem dX0_choosePaired_48 : decode cX0_choosePaired 48 = .ok (.iinc 2 (-1), 3) := by decide +kernel
theorem dX0_choosePaired_51 : decode cX0_choosePaired 51 = .ok (.aload_n 0, 1) := by decide +kernel
theorem dX0_choosePaired_52 : decode cX0_choosePaired 52 = .ok (.aload_n 1, 1) := by decide +kernel
theorem dX0_choosePaired_53 : decode cX0_choosePaired 53 = .ok (.iload_n 2, 1) := by decide +kernel
theorem dX0_choosePaired_54 : decode cX0_choosePaired 54 = .ok (.invokevirtual 99, 3) := by decide +kernel
theorem dX0_choosePaired_57 : decode cX0_choosePaired 57 = .ok (.goto 96, 3) := by decide +kernel
theorem dX0_choosePaired_60 : decode cX0_choosePaired 60 = .ok (.aload_n 0, 1) := by decide +kernel
theorem dX0_choosePaired_61 : decode cX0_choosePaired 61 = .ok (.getfield 9, 3) := by decide +kernel
theorem dX0_choosePaired_64 : decode cX0_choosePaired 64 = .ok (.aload_n 0, 1) := by decide +kernel
theorem dX0_choosePaired_65 : decode cX0_choosePaired 65 = .ok (.getfield 22, 3) := by decide +kernel
theorem dX0_choosePaired_68 : decode cX0_choosePaired 68 = .ok (.iload_n 2, 1) := by decide +kernel
theorem dX0_choosePaired_69 : decode cX0_choosePaired 69 = .ok (.iaload, 1) := by decide +kernel
theorem dX0_choosePaired_70 : decode cX0_choosePaired 70 = .ok (.iaload, 1) := by decide +kernel
theorem dX0_choosePaired_71 : decode cX0_choosePaired 71 = .ok (.istore 5, 2) := by decide +kernel
theorem dX0_choosePaired_73 : decode cX0_choosePaired 73 = .ok (.aload_n 0, 1) := by decide +kernel
theorem dX0_choosePaired_74 : decode cX0_choosePaired 74 = .ok (.getfield 22, 3) := by decide +kernel
theorem dX0_choosePaired_77 : decode cX0_choosePaired 77 = .ok (.iload_n 2, 1) := by decide +kernel
theorem dX0_choosePaired_78 : decode cX0_choosePaired 78 = .ok (.dup2, 1) := by decide +kernel
theorem dX0_choosePaired_79 : decode cX0_choosePaired 79 = .ok (.iaload, 1) := by decide +kernel
theorem dX0_choosePaired_80 : decode cX0_choosePaired 80 = .ok (.iconst 1, 1) := by decide +kernel
theorem dX0_choosePaired_81 : decode cX0_choosePaired 81 = .ok (.iadd, 1) := by decide +kernel
theorem dX0_choosePaired_82 : decode cX0_choosePaired 82 = .ok (.iastore, 1) := by decide +kernel
theorem dX0_choosePaired_83 : decode cX0_choosePaired 83 = .ok (.aload_n 0, 1) := by decide +kernel
theorem dX0_choosePaired_84 : decode cX0_choosePaired 84 = .ok (.getfield 15, 3) := by decide +kernel
theorem dX0_choosePaired_87 : decode cX0_choosePaired 87 = .ok (.iload 5, 2) := by decide +kernel
theorem dX0_choosePaired_89 : decode cX0_choosePaired 89 = .ok (.baload, 1) := by decide +kernel
theorem dX0_choosePaired_90 : decode cX0_choosePaired 90 = .ok (.ifCond .eq 6, 3) := by decide +kernel
theorem dX0_choosePaired_93 : decode cX0_choosePaired 93 = .ok (.goto 60, 3) := by decide +kernel
theorem dX0_choosePaired_96 : decode cX0_choosePaired 96 = .ok (.iinc 3 1, 3) := by decide +kernel
theorem dX0_choosePaired_99 : decode cX0_choosePaired 99 = .ok (.iload_n 3, 1) := by decide +kernel
theorem dX0_choosePaired_100 : decode cX0_choosePaired 100 = .ok (.sipush 20000, 3) := by decide +kernel
theorem dX0_choosePaired_103 : decode cX0_choosePaired 103 = .ok (.if_icmp .le 5, 3) := by decide +kernel
theorem dX0_choosePaired_106 : decode cX0_choosePaired 106 = .ok (.iconst 0, 1) := by decide +kernel
theorem dX0_choosePaired_107 : decode cX0_choosePaired 107 = .ok (.ireturn, 1) := by decide +kernel
theorem dX0_choosePaired_108 : decode cX0_choosePaired 108 = .ok (.aload_n 0, 1) := by decide +kernel
theorem dX0_choosePaired_109 : decode cX0_choosePaired 109 = .ok (.aload_n 1, 1) := by decide +kernel
theorem dX0_choosePaired_110 : decode cX0_choosePaired 110 = .ok (.iload_n 2, 1) := by decide +kernel
theorem dX0_choosePaired_111 : decode cX0_choosePaired 111 = .ok (.iload 5, 2) := by decide +kernel
theorem dX0_choosePaired_113 : decode cX0_choosePaired 113 = .ok (.invokevirtual 103, 3) := by decide +kernel
theorem dX0_choosePaired_116 : decode cX0_choosePaired 116 = .ok (.ifCond .eq 37, 3) := by decide +kernel
theorem dX0_choosePaired_119 : decode cX0_choosePaired 119 = .ok (.aload_n 0, 1) := by decide +kernel
theorem dX0_choosePaired_120 : decode cX0_choosePaired 120 = .ok (.aload_n 1, 1) := by decide +kernel
theorem dX0_choosePaired_121 : decode cX0_choosePaired 121 = .ok (.iload_n 2, 1) := by decide +kernel
theorem dX0_choosePaired_122 : decode cX0_choosePaired 122 = .ok (.iload 5, 2) := by decide +kernel
theorem dX0_choosePaired_124 : decode cX0_choosePaired 124 = .ok (.invokevirtual 107, 3) := by decide +kernel
theorem dX0_choosePaired_127 : decode cX0_choosePaired 127 = .ok (.iinc 2 1, 3) := by decide +kernel
theorem dX0_choosePaired_130 : decode cX0_choosePaired 130 = .ok (.iload_n 2, 1) := by decide +kernel
theorem dX0_choosePaired_131 : decode cX0_choosePaired 131 = .ok (.aload_n 1, 1) := by decide +kernel
theorem dX0_choosePaired_132 : decode cX0_choosePaired 132 = .ok (.getfield 41, 3) := by decide +kernel
theorem dX0_choosePaired_135 : decode cX0_choosePaired 135 = .ok (.if_icmp .ge 9, 3) := by decide +kernel
theorem dX0_choosePaired_138 : decode cX0_choosePaired 138 = .ok (.iload_n 2, 1) := by decide +kernel
theorem dX0_choosePaired_139 : decode cX0_choosePaired 139 = .ok (.bipush 24, 2) := by decide +kernel
theorem dX0_choosePaired_141 : decode cX0_choosePaired 141 = .ok (.if_icmp .lt 5, 3) := by decide +kernel
theorem dX0_choosePaired_144 : decode cX0_choosePaired 144 = .ok (.iconst 1, 1) := by decide +kernel
theorem dX0_choosePaired_145 : decode cX0_choosePaired 145 = .ok (.ireturn, 1) := by decide +kernel
theorem dX0_choosePaired_146 : decode cX0_choosePaired 146 = .ok (.aload_n 0, 1) := by decide +kernel
theorem dX0_choosePaired_147 : decode cX0_choosePaired 147 = .ok (.getfield 22, 3) := by decide +kernel
theorem dX0_choosePaired_150 : decode cX0_choosePaired 150 = .ok (.iload_n 2, 1) := by decide +kernel
theorem dX0_choosePaired_151 : decode cX0_choosePaired 151 = .ok (.iconst 0, 1) := by decide +kernel
theorem dX0_choosePaired_152 : decode cX0_choosePaired 152 = .ok (.iastore, 1) := by decide +kernel
theorem dX0_choosePaired_153 : decode cX0_choosePaired 153 = .ok (.iinc 4 1, 3) := by decide +kernel
theorem dX0_choosePaired_156 : decode cX0_choosePaired 156 = .ok (.goto (-134), 3) := by decide +kernel
theorem dX0_choosePaired_159 : decode cX0_choosePaired 159 = .ok (.iconst 0, 1) := by decide +kernel
theorem dX0_choosePaired_160 : decode cX0_choosePaired 160 = .ok (.ireturn, 1) := by decide +kernel
def wW_X0_choosePaired (G : GG) (h0 h1 h2 h3 h4 h5 h6 y0_5 y5_4 y5_5 : Nat) (x0_1 : Int32) (a1 : Nat → Int32) (a2 : Nat → Int32) (a3 : Nat → Int32) (a4 : Nat → Int32) (x5_0 : Int32) (x5_1 : Int32) (x5_2 : Int32) (a6 : Nat → Int32) : va_W := [(h0, .inr (0, [.ref h1, .int x0_1, .ref h2, .ref h3, .ref h4, .ref y0_5])), (h1, .inl (G.2.1, 256, .inl a1)), (h2, .inl (G.2.2.1, 256, .inl a2)), (h3, .inl (G.2.2.1, 256, .inl a3)), (h4, .inl (G.2.1, 24, .inl a4)), (h5, .inr (1, [.int x5_0, .int x5_1, .int x5_2, .ref h6, .ref y5_4, .ref y5_5])), (h6, .inl (G.2.1, 32, .inl a6))]
set_option maxHeartbeats 4000000 in
set_option maxRecDepth 100000 in
theorem c_X0_choosePaired (l : Launch) (G : GG) (h0 h1 h2 h3 h4 h5 h6 y0_5 y5_4 y5_5 : Nat) (sz : Nat) (x0_1 : Int32) (a1 : Nat → Int32) (a2 : Nat → Int32) (a3 : Nat → Int32) (a4 : Nat → Int32) (x5_0 : Int32) (x5_1 : Int32) (x5_2 : Int32) (a6 : Nat → Int32) (F : Nat)   (r0 : Int32) (e_a2 : Nat → Int32) (e_a3 : Nat → Int32) (e_a4 : Nat → Int32) (e_a6 : Nat → Int32) (hf : p_X0_choosePaired F x0_1 a1 a2 a3 a4 x5_0 x5_1 a6  = some (r0, e_a2, e_a3, e_a4, e_a6)) : Met l yX0_choosePaired (.code yX0_choosePaired cX0_choosePaired 6 (some .boolean) :: gtbl) ({ frames := 1, cells := 0, slots := 0, locals := 23 } : Room) (PcS G [.ref h0, .ref h5] (wW_X0_choosePaired G h0 h1 h2 h3 h4 h5 h6 y0_5 y5_4 y5_5 x0_1 a1 a2 a3 a4 x5_0 x5_1 x5_2 a6) sz) (QiS G r0 (va_A (wW_X0_choosePaired G h0 h1 h2 h3 h4 h5 h6 y0_5 y5_4 y5_5 x0_1 a1 a2 a3 a4 x5_0 x5_1 x5_2 a6) sz) (wW_X0_choosePaired G h0 h1 h2 h3 h4 h5 h6 y0_5 y5_4 y5_5 x0_1 a1 e_a2 e_a3 e_a4 x5_0 x5_1 x5_2 e_a6)) 0 0 (va_A (wW_X0_choosePaired G h0 h1 h2 h3 h4 h5 h6 y0_5 y5_4 y5_5 x0_1 a1 a2 a3 a4 x5_0 x5_1 x5_2 a6) sz) := by
  refine met_start (by decide) (Nat.le_of_ble_eq_true rfl) ?_
  intro p e s m below meth c hC hr hlk hnm hK hP hD hA hS hX ls hl
  obtain ⟨hx, hb, hml, hown, ht0⟩ := hC
  have hown : s.vm.findClass RX0 = some m.cls := hown
  generalize va_A (wW_X0_choosePaired G h0 h1 h2 h3 h4 h5 h6 y0_5 y5_4 y5_5 x0_1 a1 a2 a3 a4 x5_0 x5_1 x5_2 a6) sz = A at hD hA hS hX ⊢
  have hl : lv_has ls 6 [(0, .ref h0), (1, .ref h5)] := hl
  have hf : p_X0_choosePaired F x0_1 a1 a2 a3 a4 x5_0 x5_1 a6  = some (r0, e_a2, e_a3, e_a4, e_a6) := hf
  have kL22 : ∀ (n22 : Nat) (u22_2 : Int32) (u22_3 : Int32) (u22_4 : Int32) (a2_22 : Nat → Int32) (a3_22 : Nat → Int32) (a4_22 : Nat → Int32) (a6_22 : Nat → Int32), p_X0_choosePaired_L22 F x0_1 a1 x5_0 x5_1 n22 u22_2 u22_3 u22_4 a2_22 a3_22 a4_22 a6_22 = some (r0, e_a2, e_a3, e_a4, e_a6) → ∀ (H : Heap) (locs : List Loc), va_P G.1 vwCl (wW_X0_choosePaired G h0 h1 h2 h3 h4 h5 h6 y0_5 y5_4 y5_5 x0_1 a1 a2_22 a3_22 a4_22 x5_0 x5_1 x5_2 a6_22) H → va_D A (wW_X0_choosePaired G h0 h1 h2 h3 h4 h5 h6 y0_5 y5_4 y5_5 x0_1 a1 a2_22 a3_22 a4_22 x5_0 x5_1 x5_2 a6_22) → va_S A s.heap H locs → ∀ ls : Array Slot, lv_has ls 6 [(0, .ref h0), (1, .ref h5), (2, .int u22_2), (3, .int u22_3), (4, .int u22_4)] → W p l e ({ frames := 1, cells := 0, slots := 0, locals := 23 } : Room) s m (List.toArray [.ref h0, .ref h5]) below meth c H locs 0 0 (MQ below (QiS G r0 A (wW_X0_choosePaired G h0 h1 h2 h3 h4 h5 h6 y0_5 y5_4 y5_5 x0_1 a1 e_a2 e_a3 e_a4 x5_0 x5_1 x5_2 e_a6)) (List.toArray [.ref h0, .ref h5]) s 0 0 A) (F0 m 22 ls []) := by
    intro n22
    induction n22 with
    | zero =>
      intro u22_2 u22_3 u22_4 a2_22 a3_22 a4_22 a6_22 hf
      cases hf
    | succ n22 ih22 =>
      have kJ153 : ∀ (u153_2 : Int32) (u153_3 : Int32) (u153_4 : Int32) (a2_153 : Nat → Int32) (a3_153 : Nat → Int32) (a4_153 : Nat → Int32) (a6_153 : Nat → Int32), p_X0_choosePaired_J153 F x0_1 a1 x5_0 x5_1 (p_X0_choosePaired_L22 F x0_1 a1 x5_0 x5_1 n22) u153_2 u153_3 u153_4 a2_153 a3_153 a4_153 a6_153 = some (r0, e_a2, e_a3, e_a4, e_a6) → ∀ (H : Heap) (locs : List Loc), va_P G.1 vwCl (wW_X0_choosePaired G h0 h1 h2 h3 h4 h5 h6 y0_5 y5_4 y5_5 x0_1 a1 a2_153 a3_153 a4_153 x5_0 x5_1 x5_2 a6_153) H → va_D A (wW_X0_choosePaired G h0 h1 h2 h3 h4 h5 h6 y0_5 y5_4 y5_5 x0_1 a1 a2_153 a3_153 a4_153 x5_0 x5_1 x5_2 a6_153) → va_S A s.heap H locs → ∀ ls : Array Slot, lv_has ls 6 [(0, .ref h0), (1, .ref h5), (2, .int u153_2), (3, .int u153_3), (4, .int u153_4)] → W p l e ({ frames := 1, cells := 0, slots := 0, locals := 23 } : Room) s m (List.toArray [.ref h0, .ref h5]) below meth c H locs 0 0 (MQ below (QiS G r0 A (wW_X0_choosePaired G h0 h1 h2 h3 h4 h5 h6 y0_5 y5_4 y5_5 x0_1 a1 e_a2 e_a3 e_a4 x5_0 x5_1 x5_2 e_a6)) (List.toArray [.ref h0, .ref h5]) s 0 0 A) (F0 m 153 ls []) := by
        intro u153_2 u153_3 u153_4 a2_153 a3_153 a4_153 a6_153 hf H locs hP hD hS ls hl
        refine lv_iinc (v := u153_4 + (1 : Int32)) (lv' := [(4, .int (u153_4 + (1 : Int32))), (0, .ref h0), (1, .ref h5), (2, .int u153_2), (3, .int u153_3)]) hx hb dX0_choosePaired_153 hl (k := 4) rfl (by rfl) (by decide) rfl (fun ls hl => ?_)
        refine lv_goto (tgt := 22) hx hb dX0_choosePaired_156 (by decide) ?_
        exact ih22 _ _ _ _ _ _ _ hf _ _ hP hD hS _ (lv_sub hl [1, 2, 3, 4, 0] rfl)
      intro u22_2 u22_3 u22_4 a2_22 a3_22 a4_22 a6_22 hf H locs hP hD hS ls hl
      have hf : p_X0_choosePaired_L22b F x0_1 a1 x5_0 x5_1 (p_X0_choosePaired_L22 F x0_1 a1 x5_0 x5_1 n22) u22_2 u22_3 u22_4 a2_22 a3_22 a4_22 a6_22 = some (r0, e_a2, e_a3, e_a4, e_a6) := hf
      refine lv_iload hx hb dX0_choosePaired_22 (lv_at hl 4 rfl) ?_
      refine lv_ldc (v := (2000000 : Int32)) hx hb hown (ht0 _ wd_488) dX0_choosePaired_24 ?_
      refine lv_icmp_ge (tgt := 159) hx hb dX0_choosePaired_26 (by decide) (fun c1 => ?_) (fun c1 => ?_)
      · have hf := of_pos hf c1
        refine lv_iconst (v := (0 : Int32)) hx hb dX0_choosePaired_159 (by decide) ?_
        cases hf
        exact ret_z hx hb hr hlk hK hP hD hS (by decide) dX0_choosePaired_160
      · have hf := of_neg hf c1
        refine lv_aload_n hx hb dX0_choosePaired_29 rfl (lv_at hl 0 rfl) ?_
        refine va_get (ci := 0) (v := .ref h4) (C := RX0) (T := TX0) (N := 6) hx hb ht0 iX0 hown hK hP 0 rfl rfl 4 (by decide) (ht0 _ wd_187) (fun _ h9 => h9) rfl dX0_choosePaired_30 ?_
        refine lv_iload_n hx hb dX0_choosePaired_33 rfl (lv_at hl 2 rfl) ?_
        obtain ⟨g2, hf⟩ := of_grd hf
        refine va_iald hx hb hK hP 4 0 rfl rfl g2 dX0_choosePaired_34 ?_
        refine lv_aload_n hx hb dX0_choosePaired_35 rfl (lv_at hl 0 rfl) ?_
        refine va_get (ci := 0) (v := .int x0_1) (C := RX0) (T := TX0) (N := 6) hx hb ht0 iX0 hown hK hP 0 rfl rfl 1 (by decide) (ht0 _ wd_184) (fun _ h9 => h9) rfl dX0_choosePaired_36 ?_
        refine lv_icmp_lt (tgt := 60) hx hb dX0_choosePaired_39 (by decide) (fun c3 => ?_) (fun c3 => ?_)
        · have hf := of_pos hf c3
          refine lv_aload_n hx hb dX0_choosePaired_60 rfl (lv_at hl 0 rfl) ?_
          refine va_get (ci := 0) (v := .ref h1) (C := RX0) (T := TX0) (N := 6) hx hb ht0 iX0 hown hK hP 0 rfl rfl 0 (by decide) (ht0 _ wd_183) (fun _ h9 => h9) rfl dX0_choosePaired_61 ?_
          refine lv_aload_n hx hb dX0_choosePaired_64 rfl (lv_at hl 0 rfl) ?_
          refine va_get (ci := 0) (v := .ref h4) (C := RX0) (T := TX0) (N := 6) hx hb ht0 iX0 hown hK hP 0 rfl rfl 4 (by decide) (ht0 _ wd_187) (fun _ h9 => h9) rfl dX0_choosePaired_65 ?_
          refine lv_iload_n hx hb dX0_choosePaired_68 rfl (lv_at hl 2 rfl) ?_
          obtain ⟨g4, hf⟩ := of_grd hf
          refine va_iald hx hb hK hP 4 0 rfl rfl g4 dX0_choosePaired_69 ?_
          obtain ⟨g5, hf⟩ := of_grd hf
          refine va_iald hx hb hK hP 1 0 rfl rfl g5 dX0_choosePaired_70 ?_
          refine lv_topi (fun z6 ez6 => ?_)
          have hf := of_jlet hf ez6
          refine lv_istore (lv' := [(5, .int z6), (0, .ref h0), (1, .ref h5), (2, .int u22_2), (3, .int u22_3), (4, .int u22_4)]) hx hb dX0_choosePaired_71 hl (by decide) rfl (fun ls hl => ?_)
          refine lv_aload_n hx hb dX0_choosePaired_73 rfl (lv_at hl 1 rfl) ?_
          refine va_get (ci := 0) (v := .ref h4) (C := RX0) (T := TX0) (N := 6) hx hb ht0 iX0 hown hK hP 0 rfl rfl 4 (by decide) (ht0 _ wd_187) (fun _ h9 => h9) rfl dX0_choosePaired_74 ?_
          refine lv_iload_n hx hb dX0_choosePaired_77 rfl (lv_at hl 3 rfl) ?_
          refine lv_dup2_11 hx hb dX0_choosePaired_78 rfl rfl ?_
          obtain ⟨g7, hf⟩ := of_grd hf
          refine va_iald hx hb hK hP 4 0 rfl rfl g7 dX0_choosePaired_79 ?_
          refine lv_iconst (v := (1 : Int32)) hx hb dX0_choosePaired_80 (by decide) ?_
          refine lv_iadd hx hb dX0_choosePaired_81 ?_
          obtain ⟨g8, hf⟩ := of_grd hf
          refine va_iast hx hb hK hP hD hS 4 0 rfl rfl g8 dX0_choosePaired_82 (fun H locs hP hD hS => ?_)
          have hP : va_P G.1 vwCl (wW_X0_choosePaired G h0 h1 h2 h3 h4 h5 h6 y0_5 y5_4 y5_5 x0_1 a1 a2_22 a3_22 (upd a4_22 u22_2.toNatClampNeg ((a4_22 u22_2.toNatClampNeg) + (1 : Int32))) x5_0 x5_1 x5_2 a6_22) H := hP
          have hD : va_D A (wW_X0_choosePaired G h0 h1 h2 h3 h4 h5 h6 y0_5 y5_4 y5_5 x0_1 a1 a2_22 a3_22 (upd a4_22 u22_2.toNatClampNeg ((a4_22 u22_2.toNatClampNeg) + (1 : Int32))) x5_0 x5_1 x5_2 a6_22) := hD
          refine lv_aload_n hx hb dX0_choosePaired_83 rfl (lv_at hl 1 rfl) ?_
          refine va_get (ci := 0) (v := .ref h2) (C := RX0) (T := TX0) (N := 6) hx hb ht0 iX0 hown hK hP 0 rfl rfl 2 (by decide) (ht0 _ wd_185) (fun _ h9 => h9) rfl dX0_choosePaired_84 ?_
          refine lv_iload hx hb dX0_choosePaired_87 (lv_at hl 0 rfl) ?_
          obtain ⟨g9, hf⟩ := of_grd hf
          refine va_zald hx hb hK hP 2 1 rfl rfl g9 dX0_choosePaired_89 ?_
          refine lv_if_eq (tgt := 96) hx hb dX0_choosePaired_90 (by decide) (fun c10 => ?_) (fun c10 => ?_)
          · have hf := of_pos hf c10
            refine lv_iinc (v := u22_3 + (1 : Int32)) (lv' := [(3, .int (u22_3 + (1 : Int32))), (5, .int z6), (0, .ref h0), (1, .ref h5), (2, .int u22_2), (4, .int u22_4)]) hx hb dX0_choosePaired_96 hl (k := 4) rfl (by rfl) (by decide) rfl (fun ls hl => ?_)
            refine lv_iload_n hx hb dX0_choosePaired_99 rfl (lv_at hl 0 rfl) ?_
            refine lv_sipush (v := (20000 : Int32)) hx hb dX0_choosePaired_100 (by decide) ?_
            refine lv_icmp_le (tgt := 108) hx hb dX0_choosePaired_103 (by decide) (fun c11 => ?_) (fun c11 => ?_)
            · have hf := of_pos hf c11
              refine lv_aload_n hx hb dX0_choosePaired_108 rfl (lv_at hl 2 rfl) ?_
              refine lv_aload_n hx hb dX0_choosePaired_109 rfl (lv_at hl 3 rfl) ?_
              refine lv_iload_n hx hb dX0_choosePaired_110 rfl (lv_at hl 4 rfl) ?_
              refine lv_iload hx hb dX0_choosePaired_111 (lv_at hl 1 rfl) ?_
              obtain ⟨r_113_11, hc_r_113_11, hf⟩ := of_bnd hf
              refine cl_Vi (w2 := (wW_X0_choosePaired G h0 h1 h2 h3 h4 h5 h6 y0_5 y5_4 y5_5 x0_1 a1 a2_22 a3_22 (upd a4_22 u22_2.toNatClampNeg ((a4_22 u22_2.toNatClampNeg) + (1 : Int32))) x5_0 x5_1 x5_2 a6_22)) (As := [.ref h5, .int u22_2, .int z6]) (rest := []) ⟨hx, hb, hml, hown, ht0⟩ (c_X0_fits l G h0 h3 h5 h6 h1 h2 h4 y0_5 y5_4 y5_5 _ x0_1 a3_22 x5_0 x5_1 x5_2 a6_22 F u22_2 z6 _ hc_r_113_11) yk_X0_fits wd_493 ⟨rfl, rfl, by decide, by decide⟩ ⟨Nat.le_refl _, Nat.le_refl _⟩ hX hK hP hD hS hA [0, 3, 5, 6] [1, 2, 4] [3, 0, 1, 4, 2, 5, 6] (va_recv hK hP (ci := 0) (q0 := 0) rfl rfl) rfl rfl (by decide) rfl rfl rfl rfl rfl hl.1 rfl (Nat.le_of_ble_eq_true rfl) dX0_choosePaired_113 (fun H locs hP hD hS => ?_)
              refine lv_if_eq (tgt := 153) hx hb dX0_choosePaired_116 (by decide) (fun c13 => ?_) (fun c13 => ?_)
              · have hf := of_pos hf c13
                exact kJ153 _ _ _ _ _ _ _ hf _ _ hP hD hS _ (lv_sub hl [2, 3, 4, 0, 5] rfl)
              · have hf := of_neg hf c13
                refine lv_aload_n hx hb dX0_choosePaired_119 rfl (lv_at hl 2 rfl) ?_
                refine lv_aload_n hx hb dX0_choosePaired_120 rfl (lv_at hl 3 rfl) ?_
                refine lv_iload_n hx hb dX0_choosePaired_121 rfl (lv_at hl 4 rfl) ?_
                refine lv_iload hx hb dX0_choosePaired_122 (lv_at hl 1 rfl) ?_
                obtain ⟨⟨r_124_13_a1, r_124_13_a2, r_124_13_a4⟩, hc_r_124_13, hf⟩ := of_bnd hf
                refine cl_Vv (w2 := (wW_X0_choosePaired G h0 h1 h2 h3 h4 h5 h6 y0_5 y5_4 y5_5 x0_1 a1 r_124_13_a1 r_124_13_a2 (upd a4_22 u22_2.toNatClampNeg ((a4_22 u22_2.toNatClampNeg) + (1 : Int32))) x5_0 x5_1 x5_2 r_124_13_a4)) (As := [.ref h5, .int u22_2, .int z6]) (rest := []) ⟨hx, hb, hml, hown, ht0⟩ (c_X0_put l G h0 h2 h3 h5 h6 h1 h4 y0_5 y5_4 y5_5 _ x0_1 a2_22 a3_22 x5_0 x5_1 x5_2 a6_22 F u22_2 z6 _ _ _ hc_r_124_13) yk_X0_put wd_497 ⟨rfl, rfl, by decide, by decide⟩ ⟨Nat.le_refl _, Nat.le_refl _⟩ hX hK hP hD hS hA [0, 2, 3, 5, 6] [1, 4] [2, 0, 3, 4, 1, 5, 6] (va_recv hK hP (ci := 0) (q0 := 0) rfl rfl) rfl rfl (by decide) rfl rfl rfl rfl rfl hl.1 rfl (Nat.le_of_ble_eq_true rfl) dX0_choosePaired_124 (fun H locs hP hD hS => ?_)
                refine lv_iinc (v := u22_2 + (1 : Int32)) (lv' := [(2, .int (u22_2 + (1 : Int32))), (3, .int (u22_3 + (1 : Int32))), (5, .int z6), (0, .ref h0), (1, .ref h5), (4, .int u22_4)]) hx hb dX0_choosePaired_127 hl (k := 4) rfl (by rfl) (by decide) rfl (fun ls hl => ?_)
                refine lv_iload_n hx hb dX0_choosePaired_130 rfl (lv_at hl 0 rfl) ?_
                refine lv_aload_n hx hb dX0_choosePaired_131 rfl (lv_at hl 4 rfl) ?_
                refine va_get (ci := 1) (v := .int x5_0) (C := RX1) (T := TX1) (N := 6) hx hb ht0 iX1 hown hK hP 5 rfl rfl 0 (by decide) (ht0 _ wd_210) (fun _ h9 => h9) rfl dX0_choosePaired_132 ?_
                refine lv_icmp_ge (tgt := 144) hx hb dX0_choosePaired_135 (by decide) (fun c15 => ?_) (fun c15 => ?_)
                · have hf := of_pos hf c15
                  refine lv_iconst (v := (1 : Int32)) hx hb dX0_choosePaired_144 (by decide) ?_
                  cases hf
                  exact ret_z hx hb hr hlk hK hP hD hS (by decide) dX0_choosePaired_145
                · have hf := of_neg hf c15
                  refine lv_iload_n hx hb dX0_choosePaired_138 rfl (lv_at hl 0 rfl) ?_
                  refine lv_bipush (v := (24 : Int32)) hx hb dX0_choosePaired_139 (by decide) ?_
                  refine lv_icmp_lt (tgt := 146) hx hb dX0_choosePaired_141 (by decide) (fun c16 => ?_) (fun c16 => ?_)
                  · have hf := of_pos hf c16
                    refine lv_aload_n hx hb dX0_choosePaired_146 rfl (lv_at hl 3 rfl) ?_
                    refine va_get (ci := 0) (v := .ref h4) (C := RX0) (T := TX0) (N := 6) hx hb ht0 iX0 hown hK hP 0 rfl rfl 4 (by decide) (ht0 _ wd_187) (fun _ h9 => h9) rfl dX0_choosePaired_147 ?_
                    refine lv_iload_n hx hb dX0_choosePaired_150 rfl (lv_at hl 0 rfl) ?_
                    refine lv_iconst (v := (0 : Int32)) hx hb dX0_choosePaired_151 (by decide) ?_
                    obtain ⟨g17, hf⟩ := of_grd hf
                    refine va_iast hx hb hK hP hD hS 4 0 rfl rfl g17 dX0_choosePaired_152 (fun H locs hP hD hS => ?_)
                    have hP : va_P G.1 vwCl (wW_X0_choosePaired G h0 h1 h2 h3 h4 h5 h6 y0_5 y5_4 y5_5 x0_1 a1 r_124_13_a1 r_124_13_a2 (upd (upd a4_22 u22_2.toNatClampNeg ((a4_22 u22_2.toNatClampNeg) + (1 : Int32))) (u22_2 + (1 : Int32)).toNatClampNeg (0 : Int32)) x5_0 x5_1 x5_2 r_124_13_a4) H := hP
                    have hD : va_D A (wW_X0_choosePaired G h0 h1 h2 h3 h4 h5 h6 y0_5 y5_4 y5_5 x0_1 a1 r_124_13_a1 r_124_13_a2 (upd (upd a4_22 u22_2.toNatClampNeg ((a4_22 u22_2.toNatClampNeg) + (1 : Int32))) (u22_2 + (1 : Int32)).toNatClampNeg (0 : Int32)) x5_0 x5_1 x5_2 r_124_13_a4) := hD
                    exact kJ153 _ _ _ _ _ _ _ hf _ _ hP hD hS _ (lv_sub hl [3, 4, 0, 1, 5] rfl)
                  · have hf := of_neg hf c16
                    refine lv_iconst (v := (1 : Int32)) hx hb dX0_choosePaired_144 (by decide) ?_
                    cases hf
                    exact ret_z hx hb hr hlk hK hP hD hS (by decide) dX0_choosePaired_145
            · have hf := of_neg hf c11
              refine lv_iconst (v := (0 : Int32)) hx hb dX0_choosePaired_106 (by decide) ?_
              cases hf
              exact ret_z hx hb hr hlk hK hP hD hS (by decide) dX0_choosePaired_107
          · have hf := of_neg hf c10
            refine lv_goto (tgt := 153) hx hb dX0_choosePaired_93 (by decide) ?_
            exact kJ153 _ _ _ _ _ _ _ hf _ _ hP hD hS _ (lv_sub hl [1, 2, 3, 4, 5] rfl)
        · have hf := of_neg hf c3
          refine lv_iload_n hx hb dX0_choosePaired_42 rfl (lv_at hl 2 rfl) ?_
          refine lv_if_ne (tgt := 48) hx hb dX0_choosePaired_43 (by decide) (fun c18 => ?_) (fun c18 => ?_)
          · have hf := of_neg hf c18
            refine lv_iinc (v := u22_2 + (-1 : Int32)) (lv' := [(2, .int (u22_2 + (-1 : Int32))), (0, .ref h0), (1, .ref h5), (3, .int u22_3), (4, .int u22_4)]) hx hb dX0_choosePaired_48 hl (k := 2) rfl (by rfl) (by decide) rfl (fun ls hl => ?_)
            refine lv_aload_n hx hb dX0_choosePaired_51 rfl (lv_at hl 1 rfl) ?_
            refine lv_aload_n hx hb dX0_choosePaired_52 rfl (lv_at hl 2 rfl) ?_
            refine lv_iload_n hx hb dX0_choosePaired_53 rfl (lv_at hl 0 rfl) ?_
            obtain ⟨⟨r_54_18_a1, r_54_18_a2⟩, hc_r_54_18, hf⟩ := of_bnd hf
            refine cl_Vv (w2 := (wW_X0_choosePaired G h0 h1 h2 h3 h4 h5 h6 y0_5 y5_4 y5_5 x0_1 a1 r_54_18_a1 r_54_18_a2 a4_22 x5_0 x5_1 x5_2 a6_22)) (As := [.ref h5, .int (u22_2 + (-1 : Int32))]) (rest := []) ⟨hx, hb, hml, hown, ht0⟩ (c_X0_takeAway l G h0 h2 h3 h5 h6 h1 h4 y0_5 y5_4 y5_5 _ x0_1 a2_22 a3_22 x5_0 x5_1 x5_2 a6_22 F (u22_2 + (-1 : Int32)) _ _ hc_r_54_18) yk_X0_takeAway wd_489 ⟨rfl, rfl, by decide, by decide⟩ ⟨Nat.le_refl _, Nat.le_refl _⟩ hX hK hP hD hS hA [0, 2, 3, 5, 6] [1, 4] [2, 0, 3, 4, 1, 5, 6] (va_recv hK hP (ci := 0) (q0 := 0) rfl rfl) rfl rfl (by decide) rfl rfl rfl rfl rfl hl.1 rfl (Nat.le_of_ble_eq_true rfl) dX0_choosePaired_54 (fun H locs hP hD hS => ?_)
            refine lv_goto (tgt := 153) hx hb dX0_choosePaired_57 (by decide) ?_
            exact kJ153 _ _ _ _ _ _ _ hf _ _ hP hD hS _ (lv_sub hl [1, 2, 0, 3, 4] rfl)
          · have hf := of_pos hf c18
            refine lv_iconst (v := (0 : Int32)) hx hb dX0_choosePaired_46 (by decide) ?_
            cases hf
            exact ret_z hx hb hr hlk hK hP hD hS (by decide) dX0_choosePaired_47
  refine lv_aload_n hx hb dX0_choosePaired_0 rfl (lv_at hl 0 rfl) ?_
  refine lv_aload_n hx hb dX0_choosePaired_1 rfl (lv_at hl 1 rfl) ?_
  refine va_get (ci := 1) (v := .int x5_1) (C := RX1) (T := TX1) (N := 6) hx hb ht0 iX1 hown hK hP 5 rfl rfl 1 (by decide) (ht0 _ wd_216) (fun _ h9 => h9) rfl dX0_choosePaired_2 ?_
  obtain ⟨r_5_19_a1, hc_r_5_19, hf⟩ := of_bnd hf
  refine cl_Vv (w2 := (wW_X0_choosePaired G h0 h1 h2 h3 h4 h5 h6 y0_5 y5_4 y5_5 x0_1 a1 a2 r_5_19_a1 a4 x5_0 x5_1 x5_2 a6)) (As := [.int x5_1]) (rest := []) ⟨hx, hb, hml, hown, ht0⟩ (c_X0_joinChecks l G h0 h3 h1 h2 h4 y0_5 _ x0_1 a3 F x5_1 _ hc_r_5_19) yk_X0_joinChecks wd_484 ⟨rfl, rfl, by decide, by decide⟩ ⟨Nat.le_refl _, Nat.le_refl _⟩ hX hK hP hD hS hA [0, 3] [1, 2, 4, 5, 6] [5, 0, 1, 6, 2, 3, 4] (va_recv hK hP (ci := 0) (q0 := 0) rfl rfl) rfl rfl (by decide) rfl rfl rfl rfl rfl hl.1 rfl (Nat.le_of_ble_eq_true rfl) dX0_choosePaired_5 (fun H locs hP hD hS => ?_)
  refine lv_iconst (v := (0 : Int32)) hx hb dX0_choosePaired_8 (by decide) ?_
  refine lv_istore_n (lv' := [(2, .int (0 : Int32)), (0, .ref h0), (1, .ref h5)]) hx hb dX0_choosePaired_9 rfl hl (by decide) rfl (fun ls hl => ?_)
  refine lv_iconst (v := (0 : Int32)) hx hb dX0_choosePaired_10 (by decide) ?_
  refine lv_istore_n (lv' := [(3, .int (0 : Int32)), (2, .int (0 : Int32)), (0, .ref h0), (1, .ref h5)]) hx hb dX0_choosePaired_11 rfl hl (by decide) rfl (fun ls hl => ?_)
  refine lv_aload_n hx hb dX0_choosePaired_12 rfl (lv_at hl 2 rfl) ?_
  refine va_get (ci := 0) (v := .ref h4) (C := RX0) (T := TX0) (N := 6) hx hb ht0 iX0 hown hK hP 0 rfl rfl 4 (by decide) (ht0 _ wd_187) (fun _ h9 => h9) rfl dX0_choosePaired_13 ?_
  refine lv_iconst (v := (0 : Int32)) hx hb dX0_choosePaired_16 (by decide) ?_
  refine lv_iconst (v := (0 : Int32)) hx hb dX0_choosePaired_17 (by decide) ?_
  refine va_iast hx hb hK hP hD hS 4 0 rfl rfl (show ¬ ixBad (0 : Int32) 24 by decide) dX0_choosePaired_18 (fun H locs hP hD hS => ?_)
  have hP : va_P G.1 vwCl (wW_X0_choosePaired G h0 h1 h2 h3 h4 h5 h6 y0_5 y5_4 y5_5 x0_1 a1 a2 r_5_19_a1 (upd a4 (0 : Int32).toNatClampNeg (0 : Int32)) x5_0 x5_1 x5_2 a6) H := hP
  have hD : va_D A (wW_X0_choosePaired G h0 h1 h2 h3 h4 h5 h6 y0_5 y5_4 y5_5 x0_1 a1 a2 r_5_19_a1 (upd a4 (0 : Int32).toNatClampNeg (0 : Int32)) x5_0 x5_1 x5_2 a6) := hD
  refine lv_iconst (v := (0 : Int32)) hx hb dX0_choosePaired_19 (by decide) ?_
  refine lv_istore (lv' := [(4, .int (0 : Int32)), (3, .int (0 : Int32)), (2, .int (0 : Int32)), (0, .ref h0), (1, .ref h5)]) hx hb dX0_choosePaired_20 hl (by decide) rfl (fun ls hl => ?_)
  exact kL22 _ _ _ _ _ _ _ _ hf _ _ hP hD hS _ (lv_sub hl [3, 4, 2, 1, 0] rfl)
theorem yk_X0_choosePaired : ykV yX0_choosePaired RX0 cX0_choosePaired 6 (some .boolean) 1 := ⟨wd_482, wd_2, wd_130, wd_483, rfl, by decide +kernel, by decide +kernel, by decide +kernel⟩
theorem dX0_greatestWith_0 : decode cX0_greatestWith 0 = .ok (.iconst 0, 1) := by decide +kernel
theorem dX0_greatestWith_1 : decode cX0_greatestWith 1 = .ok (.istore_n 2, 1) := by decide +kernel
theorem dX0_greatestWith_2 : decode cX0_greatestWith 2 = .ok (.iconst 0, 1) := by decide +kernel
theorem dX0_greatestWith_3 : decode cX0_greatestWith 3 = .ok (.istore_n 3, 1) := by decide +kernel
theorem dX0_greatestWith_4 : decode cX0_greatestWith 4 = .ok (.iload_n 3, 1) := by decide +kernel
theorem dX0_greatestWith_5 : decode cX0_greatestWith 5 = .ok (.bipush 8, 2) := by decide +kernel
theorem dX0_greatestWith_7 : decode cX0_greatestWith 7 = .ok (.if_icmp .ge 26, 3) := by decide +kernel
theorem dX0_greatestWith_10 : decode cX0_greatestWith 10 = .ok (.iload_n 2, 1) := by decide +kernel
theorem dX0_greatestWith_11 : decode cX0_greatestWith 11 = .ok (.aload_n 0, 1) := by decide +kernel
theorem dX0_greatestWith_12 : decode cX0_greatestWith 12 = .ok (.getfield 25, 3) := by decide +kernel
theorem dX0_greatestWith_15 : decode cX0_greatestWith 15 = .ok (.iload_n 3, 1) := by decide +kernel
theorem dX0_greatestWith_16 : decode cX0_greatestWith 16 = .ok (.iaload, 1) := by decide +kernel
theorem dX0_greatestWith_17 : decode cX0_greatestWith 17 = .ok (.iload_n 1, 1) := by decide +kernel
theorem dX0_greatestWith_18 : decode cX0_greatestWith 18 = .ok (.iload_n 3, 1) := by decide +kernel
theorem dX0_greatestWith_19 : decode cX0_greatestWith 19 = .ok (.iushr, 1) := by decide +kernel
theorem dX0_greatestWith_20 : decode cX0_greatestWith 20 = .ok (.iconst 1, 1) := by decide +kernel
theorem dX0_greatestWith_21 : decode cX0_greatestWith 21 = .ok (.iand, 1) := by decide +kernel
theorem dX0_greatestWith_22 : decode cX0_greatestWith 22 = .ok (.iadd, 1) := by decide +kernel
theorem dX0_greatestWith_23 : decode cX0_greatestWith 23 = .ok (.invokestatic 89, 3) := by decide +kernel
theorem dX0_greatestWith_26 : decode cX0_greatestWith 26 = .ok (.istore_n 2, 1) := by decide +kernel
theorem dX0_greatestWith_27 : decode cX0_greatestWith 27 = .ok (.iinc 3 1, 3) := by decide +kernel
theorem dX0_greatestWith_30 : decode cX0_greatestWith 30 = .ok (.goto (-26), 3) := by decide +kernel
theorem dX0_greatestWith_33 : decode cX0_greatestWith 33 = .ok (.iload_n 2, 1) := by decide +kernel
theorem dX0_greatestWith_34 : decode cX0_greatestWith 34 = .ok (.ireturn, 1) := by decide +kernel
def wW_X0_greatestWith (G : GG) (h0 h1 y0_0 y0_2 y0_3 y0_4 : Nat) (x0_1 : Int32) (a1 : Nat → Int32) : va_W := [(h0, .inr (0, [.ref y0_0, .int x0_1, .ref y0_2, .ref y0_3, .ref y0_4, .ref h1])), (h1, .inl (G.2.1, 8, .inl a1))]
set_option maxHeartbeats 4000000 in
set_option maxRecDepth 100000 in
theorem c_X0_greatestWith (l : Launch) (G : GG) (h0 h1 y0_0 y0_2 y0_3 y0_4 : Nat) (sz : Nat) (x0_1 : Int32) (a1 : Nat → Int32) (F : Nat) (b1 : Int32)  (r0 : Int32) (hf : p_X0_greatestWith F a1 b1 = some r0) : Met l yX0_greatestWith (.code yX0_greatestWith cX0_greatestWith 4 (some .int) :: gtbl) ({ frames := 1, cells := 0, slots := 0, locals := 21 } : Room) (PcS G [.ref h0, .int b1] (wW_X0_greatestWith G h0 h1 y0_0 y0_2 y0_3 y0_4 x0_1 a1) sz) (QiS G r0 (va_A (wW_X0_greatestWith G h0 h1 y0_0 y0_2 y0_3 y0_4 x0_1 a1) sz) (wW_X0_greatestWith G h0 h1 y0_0 y0_2 y0_3 y0_4 x0_1 a1)) 0 0 (va_A (wW_X0_greatestWith G h0 h1 y0_0 y0_2 y0_3 y0_4 x0_1 a1) sz) := by
  refine met_start (by decide) (Nat.le_of_ble_eq_true rfl) ?_
  intro p e s m below meth c hC hr hlk hnm hK hP hD hA hS hX ls hl
  obtain ⟨hx, hb, hml, hown, ht0⟩ := hC
  have hown : s.vm.findClass RX0 = some m.cls := hown
  generalize va_A (wW_X0_greatestWith G h0 h1 y0_0 y0_2 y0_3 y0_4 x0_1 a1) sz = A at hD hA hS hX ⊢
  have hl : lv_has ls 4 [(0, .ref h0), (1, .int b1)] := hl
  have hf : p_X0_greatestWith F a1 b1 = some r0 := hf
  have kL4 : ∀ (c4_1 : Int32) (n4 : Nat) (u4_2 : Int32) (u4_3 : Int32), p_X0_greatestWith_L4 F a1 c4_1 n4 u4_2 u4_3 = some r0 → ∀ (H : Heap) (locs : List Loc), va_P G.1 vwCl (wW_X0_greatestWith G h0 h1 y0_0 y0_2 y0_3 y0_4 x0_1 a1) H → va_D A (wW_X0_greatestWith G h0 h1 y0_0 y0_2 y0_3 y0_4 x0_1 a1) → va_S A s.heap H locs → ∀ ls : Array Slot, lv_has ls 4 [(0, .ref h0), (1, .int c4_1), (2, .int u4_2), (3, .int u4_3)] → W p l e ({ frames := 1, cells := 0, slots := 0, locals := 21 } : Room) s m (List.toArray [.ref h0, .int b1]) below meth c H locs 0 0 (MQ below (QiS G r0 A (wW_X0_greatestWith G h0 h1 y0_0 y0_2 y0_3 y0_4 x0_1 a1)) (List.toArray [.ref h0, .int b1]) s 0 0 A) (F0 m 4 ls []) := by
    intro c4_1 n4
    induction n4 with
    | zero =>
      intro u4_2 u4_3 hf
      cases hf
    | succ n4 ih4 =>
      intro u4_2 u4_3 hf H locs hP hD hS ls hl
      have hf : p_X0_greatestWith_L4b F a1 c4_1 (p_X0_greatestWith_L4 F a1 c4_1 n4) u4_2 u4_3 = some r0 := hf
      refine lv_iload_n hx hb dX0_greatestWith_4 rfl (lv_at hl 3 rfl) ?_
      refine lv_bipush (v := (8 : Int32)) hx hb dX0_greatestWith_5 (by decide) ?_
      refine lv_icmp_ge (tgt := 33) hx hb dX0_greatestWith_7 (by decide) (fun c1 => ?_) (fun c1 => ?_)
      · have hf := of_pos hf c1
        refine lv_iload_n hx hb dX0_greatestWith_33 rfl (lv_at hl 2 rfl) ?_
        cases hf
        exact ret_i hx hb hr hlk hK hP hD hS dX0_greatestWith_34
      · have hf := of_neg hf c1
        refine lv_iload_n hx hb dX0_greatestWith_10 rfl (lv_at hl 2 rfl) ?_
        refine lv_aload_n hx hb dX0_greatestWith_11 rfl (lv_at hl 0 rfl) ?_
        refine va_get (ci := 0) (v := .ref h1) (C := RX0) (T := TX0) (N := 6) hx hb ht0 iX0 hown hK hP 0 rfl rfl 5 (by decide) (ht0 _ wd_188) (fun _ h9 => h9) rfl dX0_greatestWith_12 ?_
        refine lv_iload_n hx hb dX0_greatestWith_15 rfl (lv_at hl 3 rfl) ?_
        obtain ⟨g2, hf⟩ := of_grd hf
        refine va_iald hx hb hK hP 1 0 rfl rfl g2 dX0_greatestWith_16 ?_
        refine lv_iload_n hx hb dX0_greatestWith_17 rfl (lv_at hl 1 rfl) ?_
        refine lv_iload_n hx hb dX0_greatestWith_18 rfl (lv_at hl 3 rfl) ?_
        refine lv_iushr (v := jushr c4_1 u4_3) hx hb dX0_greatestWith_19 rfl ?_
        refine lv_iconst (v := (1 : Int32)) hx hb dX0_greatestWith_20 (by decide) ?_
        refine lv_iand hx hb dX0_greatestWith_21 ?_
        refine lv_iadd hx hb dX0_greatestWith_22 ?_
        refine va_mmax hx hb (by rw [hml]; exact hl.1.symm) hown (ht0 _ wd_516) (ht0 _ wd_517) (ht0 _ wd_140) (ht0 _ wd_518) (by decide) (Nat.le_of_ble_eq_true rfl) (Nat.zero_le _) (Nat.zero_le _) dX0_greatestWith_23 ?_
        refine lv_topi (fun z3 ez3 => ?_)
        have hf := of_jlet hf ez3
        refine lv_istore_n (lv' := [(2, .int z3), (0, .ref h0), (1, .int c4_1), (3, .int u4_3)]) hx hb dX0_greatestWith_26 rfl hl (by decide) rfl (fun ls hl => ?_)
        refine lv_iinc (v := u4_3 + (1 : Int32)) (lv' := [(3, .int (u4_3 + (1 : Int32))), (2, .int z3), (0, .ref h0), (1, .int c4_1)]) hx hb dX0_greatestWith_27 hl (k := 3) rfl (by rfl) (by decide) rfl (fun ls hl => ?_)
        refine lv_goto (tgt := 4) hx hb dX0_greatestWith_30 (by decide) ?_
        exact ih4 _ _ hf _ _ hP hD hS _ (lv_sub hl [2, 3, 1, 0] rfl)
  refine lv_iconst (v := (0 : Int32)) hx hb dX0_greatestWith_0 (by decide) ?_
  refine lv_istore_n (lv' := [(2, .int (0 : Int32)), (0, .ref h0), (1, .int b1)]) hx hb dX0_greatestWith_1 rfl hl (by decide) rfl (fun ls hl => ?_)
  refine lv_iconst (v := (0 : Int32)) hx hb dX0_greatestWith_2 (by decide) ?_
  refine lv_istore_n (lv' := [(3, .int (0 : Int32)), (2, .int (0 : Int32)), (0, .ref h0), (1, .int b1)]) hx hb dX0_greatestWith_3 rfl hl (by decide) rfl (fun ls hl => ?_)
  exact kL4 _ _ _ _ hf _ _ hP hD hS _ (lv_sub hl [2, 3, 1, 0] rfl)
theorem yk_X0_greatestWith : ykV yX0_greatestWith RX0 cX0_greatestWith 4 (some .int) 1 := ⟨wd_514, wd_9, wd_130, wd_515, rfl, by decide +kernel, by decide +kernel, by decide +kernel⟩
theorem dX0_mostBalanced_0 : decode cX0_mostBalanced 0 = .ok (.iconst 0, 1) := by decide +kernel
theorem dX0_mostBalanced_1 : decode cX0_mostBalanced 1 = .ok (.istore_n 1, 1) := by decide +kernel
theorem dX0_mostBalanced_2 : decode cX0_mostBalanced 2 = .ok (.iconst 0, 1) := by decide +kernel
theorem dX0_mostBalanced_3 : decode cX0_mostBalanced 3 = .ok (.istore_n 2, 1) := by decide +kernel
theorem dX0_mostBalanced_4 : decode cX0_mostBalanced 4 = .ok (.iconst 0, 1) := by decide +kernel
theorem dX0_mostBalanced_5 : decode cX0_mostBalanced 5 = .ok (.istore_n 3, 1) := by decide +kernel
theorem dX0_mostBalanced_6 : decode cX0_mostBalanced 6 = .ok (.iload_n 3, 1) := by decide +kernel
theorem dX0_mostBalanced_7 : decode cX0_mostBalanced 7 = .ok (.aload_n 0, 1) := by decide +kernel
theorem dX0_mostBalanced_8 : decode cX0_mostBalanced 8 = .ok (.getfield 38, 3) := by decide +kernel
theorem dX0_mostBalanced_11 : decode cX0_mostBalanced 11 = .ok (.if_icmp .ge 73, 3) := by decide +kernel
theorem dX0_mostBalanced_14 : decode cX0_mostBalanced 14 = .ok (.aload_n 0, 1) := by decide +kernel
theorem dX0_mostBalanced_15 : decode cX0_mostBalanced 15 = .ok (.getfield 9, 3) := by decide +kernel
theorem dX0_mostBalanced_18 : decode cX0_mostBalanced 18 = .ok (.iload_n 3, 1) := by decide +kernel
theorem dX0_mostBalanced_19 : decode cX0_mostBalanced 19 = .ok (.iaload, 1) := by decide +kernel
theorem dX0_mostBalanced_20 : decode cX0_mostBalanced 20 = .ok (.istore 4, 2) := by decide +kernel
theorem dX0_mostBalanced_22 : decode cX0_mostBalanced 22 = .ok (.aload_n 0, 1) := by decide +kernel
theorem dX0_mostBalanced_23 : decode cX0_mostBalanced 23 = .ok (.getfield 15, 3) := by decide +kernel
theorem dX0_mostBalanced_26 : decode cX0_mostBalanced 26 = .ok (.iload 4, 2) := by decide +kernel
theorem dX0_mostBalanced_28 : decode cX0_mostBalanced 28 = .ok (.baload, 1) := by decide +kernel
theorem dX0_mostBalanced_29 : decode cX0_mostBalanced 29 = .ok (.ifCond .eq 6, 3) := by decide +kernel
theorem dX0_mostBalanced_32 : decode cX0_mostBalanced 32 = .ok (.goto 46, 3) := by decide +kernel
theorem dX0_mostBalanced_35 : decode cX0_mostBalanced 35 = .ok (.iload_n 1, 1) := by decide +kernel
theorem dX0_mostBalanced_36 : decode cX0_mostBalanced 36 = .ok (.ifCond .eq 18, 3) := by decide +kernel
theorem dX0_mostBalanced_39 : decode cX0_mostBalanced 39 = .ok (.iload 4, 2) := by decide +kernel
theorem dX0_mostBalanced_41 : decode cX0_mostBalanced 41 = .ok (.invokestatic 70, 3) := by decide +kernel
theorem dX0_mostBalanced_44 : decode cX0_mostBalanced 44 = .ok (.iload_n 1, 1) := by decide +kernel
theorem dX0_mostBalanced_45 : decode cX0_mostBalanced 45 = .ok (.invokestatic 70, 3) := by decide +kernel
theorem dX0_mostBalanced_48 : decode cX0_mostBalanced 48 = .ok (.if_icmp .le 6, 3) := by decide +kernel
theorem dX0_mostBalanced_51 : decode cX0_mostBalanced 51 = .ok (.goto 33, 3) := by decide +kernel
theorem dX0_mostBalanced_54 : decode cX0_mostBalanced 54 = .ok (.aload_n 0, 1) := by decide +kernel
theorem dX0_mostBalanced_55 : decode cX0_mostBalanced 55 = .ok (.iload 4, 2) := by decide +kernel
theorem dX0_mostBalanced_57 : decode cX0_mostBalanced 57 = .ok (.invokevirtual 86, 3) := by decide +kernel
theorem dX0_mostBalanced_60 : decode cX0_mostBalanced 60 = .ok (.istore 5, 2) := by decide +kernel
theorem dX0_mostBalanced_62 : decode cX0_mostBalanced 62 = .ok (.iload_n 1, 1) := by decide +kernel
theorem dX0_mostBalanced_63 : decode cX0_mostBalanced 63 = .ok (.ifCond .eq 9, 3) := by decide +kernel
theorem dX0_mostBalanced_66 : decode cX0_mostBalanced 66 = .ok (.iload 5, 2) := by decide +kernel
theorem dX0_mostBalanced_68 : decode cX0_mostBalanced 68 = .ok (.iload_n 2, 1) := by decide +kernel
theorem dX0_mostBalanced_69 : decode cX0_mostBalanced 69 = .ok (.if_icmp .ge 9, 3) := by decide +kernel
theorem dX0_mostBalanced_72 : decode cX0_mostBalanced 72 = .ok (.iload 4, 2) := by decide +kernel
theorem dX0_mostBalanced_74 : decode cX0_mostBalanced 74 = .ok (.istore_n 1, 1) := by decide +kernel
theorem dX0_mostBalanced_75 : decode cX0_mostBalanced 75 = .ok (.iload 5, 2) := by decide +kernel
theorem dX0_mostBalanced_77 : decode cX0_mostBalanced 77 = .ok (.istore_n 2, 1) := by decide +kernel
theorem dX0_mostBalanced_78 : decode cX0_mostBalanced 78 = .ok (.iinc 3 1, 3) := by decide +kernel
theorem dX0_mostBalanced_81 : decode cX0_mostBalanced 81 = .ok (.goto (-75), 3) := by decide +kernel
theorem dX0_mostBalanced_84 : decode cX0_mostBalanced 84 = .ok (.iload_n 1, 1) := by decide +kernel
theorem dX0_mostBalanced_85 : decode cX0_mostBalanced 85 = .ok (.ireturn, 1) := by decide +kernel
def wW_X0_mostBalanced (G : GG) (h0 h1 h2 h3 y0_3 y0_4 : Nat) (x0_1 : Int32) (a1 : Nat → Int32) (a2 : Nat → Int32) (a3 : Nat → Int32) : va_W := [(h0, .inr (0, [.ref h1, .int x0_1, .ref h2, .ref y0_3, .ref y0_4, .ref h3])), (h1, .inl (G.2.1, 256, .inl a1)), (h2, .inl (G.2.2.1, 256, .inl a2)), (h3, .inl (G.2.1, 8, .inl a3))]
set_option maxHeartbeats 4000000 in
set_option maxRecDepth 100000 in
theorem c_X0_mostBalanced (l : Launch) (G : GG) (h0 h1 h2 h3 y0_3 y0_4 : Nat) (sz : Nat) (x0_1 : Int32) (a1 : Nat → Int32) (a2 : Nat → Int32) (a3 : Nat → Int32) (F : Nat)   (r0 : Int32) (hf : p_X0_mostBalanced F x0_1 a1 a2 a3  = some r0) : Met l yX0_mostBalanced (.code yX0_mostBalanced cX0_mostBalanced 6 (some .int) :: gtbl) ({ frames := 2, cells := 0, slots := 0, locals := 44 } : Room) (PcS G [.ref h0] (wW_X0_mostBalanced G h0 h1 h2 h3 y0_3 y0_4 x0_1 a1 a2 a3) sz) (QiS G r0 (va_A (wW_X0_mostBalanced G h0 h1 h2 h3 y0_3 y0_4 x0_1 a1 a2 a3) sz) (wW_X0_mostBalanced G h0 h1 h2 h3 y0_3 y0_4 x0_1 a1 a2 a3)) 0 0 (va_A (wW_X0_mostBalanced G h0 h1 h2 h3 y0_3 y0_4 x0_1 a1 a2 a3) sz) := by
  refine met_start (by decide) (Nat.le_of_ble_eq_true rfl) ?_
  intro p e s m below meth c hC hr hlk hnm hK hP hD hA hS hX ls hl
  obtain ⟨hx, hb, hml, hown, ht0⟩ := hC
  have hown : s.vm.findClass RX0 = some m.cls := hown
  generalize va_A (wW_X0_mostBalanced G h0 h1 h2 h3 y0_3 y0_4 x0_1 a1 a2 a3) sz = A at hD hA hS hX ⊢
  have hl : lv_has ls 6 [(0, .ref h0)] := hl
  have hf : p_X0_mostBalanced F x0_1 a1 a2 a3  = some r0 := hf
  have kL6 : ∀ (n6 : Nat) (u6_1 : Int32) (u6_2 : Int32) (u6_3 : Int32), p_X0_mostBalanced_L6 F x0_1 a1 a2 a3 n6 u6_1 u6_2 u6_3 = some r0 → ∀ (H : Heap) (locs : List Loc), va_P G.1 vwCl (wW_X0_mostBalanced G h0 h1 h2 h3 y0_3 y0_4 x0_1 a1 a2 a3) H → va_D A (wW_X0_mostBalanced G h0 h1 h2 h3 y0_3 y0_4 x0_1 a1 a2 a3) → va_S A s.heap H locs → ∀ ls : Array Slot, lv_has ls 6 [(0, .ref h0), (1, .int u6_1), (2, .int u6_2), (3, .int u6_3)] → W p l e ({ frames := 2, cells := 0, slots := 0, locals := 44 } : Room) s m (List.toArray [.ref h0]) below meth c H locs 0 0 (MQ below (QiS G r0 A (wW_X0_mostBalanced G h0 h1 h2 h3 y0_3 y0_4 x0_1 a1 a2 a3)) (List.toArray [.ref h0]) s 0 0 A) (F0 m 6 ls []) := by
    intro n6
    induction n6 with
    | zero =>
      intro u6_1 u6_2 u6_3 hf
      cases hf
    | succ n6 ih6 =>
      have kJ78 : ∀ (u78_1 : Int32) (u78_2 : Int32) (u78_3 : Int32), p_X0_mostBalanced_J78 F x0_1 a1 a2 a3 (p_X0_mostBalanced_L6 F x0_1 a1 a2 a3 n6) u78_1 u78_2 u78_3 = some r0 → ∀ (H : Heap) (locs : List Loc), va_P G.1 vwCl (wW_X0_mostBalanced G h0 h1 h2 h3 y0_3 y0_4 x0_1 a1 a2 a3) H → va_D A (wW_X0_mostBalanced G h0 h1 h2 h3 y0_3 y0_4 x0_1 a1 a2 a3) → va_S A s.heap H locs → ∀ ls : Array Slot, lv_has ls 6 [(0, .ref h0), (1, .int u78_1), (2, .int u78_2), (3, .int u78_3)] → W p l e ({ frames := 2, cells := 0, slots := 0, locals := 44 } : Room) s m (List.toArray [.ref h0]) below meth c H locs 0 0 (MQ below (QiS G r0 A (wW_X0_mostBalanced G h0 h1 h2 h3 y0_3 y0_4 x0_1 a1 a2 a3)) (List.toArray [.ref h0]) s 0 0 A) (F0 m 78 ls []) := by
        intro u78_1 u78_2 u78_3 hf H locs hP hD hS ls hl
        refine lv_iinc (v := u78_3 + (1 : Int32)) (lv' := [(3, .int (u78_3 + (1 : Int32))), (0, .ref h0), (1, .int u78_1), (2, .int u78_2)]) hx hb dX0_mostBalanced_78 hl (k := 3) rfl (by rfl) (by decide) rfl (fun ls hl => ?_)
        refine lv_goto (tgt := 6) hx hb dX0_mostBalanced_81 (by decide) ?_
        exact ih6 _ _ _ hf _ _ hP hD hS _ (lv_sub hl [1, 2, 3, 0] rfl)
      have kJ72 : ∀ (u72_3 : Int32) (u72_4 : Int32) (u72_5 : Int32), p_X0_mostBalanced_J72 F x0_1 a1 a2 a3 (p_X0_mostBalanced_L6 F x0_1 a1 a2 a3 n6) u72_3 u72_4 u72_5 = some r0 → ∀ (H : Heap) (locs : List Loc), va_P G.1 vwCl (wW_X0_mostBalanced G h0 h1 h2 h3 y0_3 y0_4 x0_1 a1 a2 a3) H → va_D A (wW_X0_mostBalanced G h0 h1 h2 h3 y0_3 y0_4 x0_1 a1 a2 a3) → va_S A s.heap H locs → ∀ ls : Array Slot, lv_has ls 6 [(0, .ref h0), (3, .int u72_3), (4, .int u72_4), (5, .int u72_5)] → W p l e ({ frames := 2, cells := 0, slots := 0, locals := 44 } : Room) s m (List.toArray [.ref h0]) below meth c H locs 0 0 (MQ below (QiS G r0 A (wW_X0_mostBalanced G h0 h1 h2 h3 y0_3 y0_4 x0_1 a1 a2 a3)) (List.toArray [.ref h0]) s 0 0 A) (F0 m 72 ls []) := by
        intro u72_3 u72_4 u72_5 hf H locs hP hD hS ls hl
        refine lv_iload hx hb dX0_mostBalanced_72 (lv_at hl 2 rfl) ?_
        refine lv_istore_n (lv' := [(1, .int u72_4), (0, .ref h0), (3, .int u72_3), (4, .int u72_4), (5, .int u72_5)]) hx hb dX0_mostBalanced_74 rfl hl (by decide) rfl (fun ls hl => ?_)
        refine lv_iload hx hb dX0_mostBalanced_75 (lv_at hl 4 rfl) ?_
        refine lv_istore_n (lv' := [(2, .int u72_5), (1, .int u72_4), (0, .ref h0), (3, .int u72_3), (4, .int u72_4), (5, .int u72_5)]) hx hb dX0_mostBalanced_77 rfl hl (by decide) rfl (fun ls hl => ?_)
        exact kJ78 _ _ _ hf _ _ hP hD hS _ (lv_sub hl [2, 1, 0, 3] rfl)
      have kJ54 : ∀ (u54_1 : Int32) (u54_2 : Int32) (u54_3 : Int32) (u54_4 : Int32), p_X0_mostBalanced_J54 F x0_1 a1 a2 a3 (p_X0_mostBalanced_L6 F x0_1 a1 a2 a3 n6) u54_1 u54_2 u54_3 u54_4 = some r0 → ∀ (H : Heap) (locs : List Loc), va_P G.1 vwCl (wW_X0_mostBalanced G h0 h1 h2 h3 y0_3 y0_4 x0_1 a1 a2 a3) H → va_D A (wW_X0_mostBalanced G h0 h1 h2 h3 y0_3 y0_4 x0_1 a1 a2 a3) → va_S A s.heap H locs → ∀ ls : Array Slot, lv_has ls 6 [(0, .ref h0), (1, .int u54_1), (2, .int u54_2), (3, .int u54_3), (4, .int u54_4)] → W p l e ({ frames := 2, cells := 0, slots := 0, locals := 44 } : Room) s m (List.toArray [.ref h0]) below meth c H locs 0 0 (MQ below (QiS G r0 A (wW_X0_mostBalanced G h0 h1 h2 h3 y0_3 y0_4 x0_1 a1 a2 a3)) (List.toArray [.ref h0]) s 0 0 A) (F0 m 54 ls []) := by
        intro u54_1 u54_2 u54_3 u54_4 hf H locs hP hD hS ls hl
        refine lv_aload_n hx hb dX0_mostBalanced_54 rfl (lv_at hl 0 rfl) ?_
        refine lv_iload hx hb dX0_mostBalanced_55 (lv_at hl 4 rfl) ?_
        obtain ⟨r_57_0, hc_r_57_0, hf⟩ := of_bnd hf
        refine cl_Vi (w2 := (wW_X0_mostBalanced G h0 h1 h2 h3 y0_3 y0_4 x0_1 a1 a2 a3)) (As := [.int u54_4]) (rest := []) ⟨hx, hb, hml, hown, ht0⟩ (c_X0_greatestWith l G h0 h3 h1 h2 y0_3 y0_4 _ x0_1 a3 F u54_4 _ hc_r_57_0) yk_X0_greatestWith wd_512 ⟨rfl, rfl, by decide, by decide⟩ ⟨Nat.le_refl _, Nat.le_refl _⟩ hX hK hP hD hS hA [0, 3] [1, 2] [2, 0, 1, 3] (va_recv hK hP (ci := 0) (q0 := 0) rfl rfl) rfl rfl (by decide) rfl rfl rfl rfl rfl hl.1 rfl (Nat.le_of_ble_eq_true rfl) dX0_mostBalanced_57 (fun H locs hP hD hS => ?_)
        refine lv_istore (lv' := [(5, .int r_57_0), (0, .ref h0), (1, .int u54_1), (2, .int u54_2), (3, .int u54_3), (4, .int u54_4)]) hx hb dX0_mostBalanced_60 hl (by decide) rfl (fun ls hl => ?_)
        refine lv_iload_n hx hb dX0_mostBalanced_62 rfl (lv_at hl 2 rfl) ?_
        refine lv_if_eq (tgt := 72) hx hb dX0_mostBalanced_63 (by decide) (fun c2 => ?_) (fun c2 => ?_)
        · have hf := of_pos hf c2
          exact kJ72 _ _ _ hf _ _ hP hD hS _ (lv_sub hl [1, 4, 5, 0] rfl)
        · have hf := of_neg hf c2
          refine lv_iload hx hb dX0_mostBalanced_66 (lv_at hl 0 rfl) ?_
          refine lv_iload_n hx hb dX0_mostBalanced_68 rfl (lv_at hl 3 rfl) ?_
          refine lv_icmp_ge (tgt := 78) hx hb dX0_mostBalanced_69 (by decide) (fun c3 => ?_) (fun c3 => ?_)
          · have hf := of_pos hf c3
            exact kJ78 _ _ _ hf _ _ hP hD hS _ (lv_sub hl [1, 2, 3, 4] rfl)
          · have hf := of_neg hf c3
            exact kJ72 _ _ _ hf _ _ hP hD hS _ (lv_sub hl [1, 4, 5, 0] rfl)
      intro u6_1 u6_2 u6_3 hf H locs hP hD hS ls hl
      have hf : p_X0_mostBalanced_L6b F x0_1 a1 a2 a3 (p_X0_mostBalanced_L6 F x0_1 a1 a2 a3 n6) u6_1 u6_2 u6_3 = some r0 := hf
      refine lv_iload_n hx hb dX0_mostBalanced_6 rfl (lv_at hl 3 rfl) ?_
      refine lv_aload_n hx hb dX0_mostBalanced_7 rfl (lv_at hl 0 rfl) ?_
      refine va_get (ci := 0) (v := .int x0_1) (C := RX0) (T := TX0) (N := 6) hx hb ht0 iX0 hown hK hP 0 rfl rfl 1 (by decide) (ht0 _ wd_184) (fun _ h9 => h9) rfl dX0_mostBalanced_8 ?_
      refine lv_icmp_ge (tgt := 84) hx hb dX0_mostBalanced_11 (by decide) (fun c4 => ?_) (fun c4 => ?_)
      · have hf := of_pos hf c4
        refine lv_iload_n hx hb dX0_mostBalanced_84 rfl (lv_at hl 1 rfl) ?_
        cases hf
        exact ret_i hx hb hr hlk hK hP hD hS dX0_mostBalanced_85
      · have hf := of_neg hf c4
        refine lv_aload_n hx hb dX0_mostBalanced_14 rfl (lv_at hl 0 rfl) ?_
        refine va_get (ci := 0) (v := .ref h1) (C := RX0) (T := TX0) (N := 6) hx hb ht0 iX0 hown hK hP 0 rfl rfl 0 (by decide) (ht0 _ wd_183) (fun _ h9 => h9) rfl dX0_mostBalanced_15 ?_
        refine lv_iload_n hx hb dX0_mostBalanced_18 rfl (lv_at hl 3 rfl) ?_
        obtain ⟨g5, hf⟩ := of_grd hf
        refine va_iald hx hb hK hP 1 0 rfl rfl g5 dX0_mostBalanced_19 ?_
        refine lv_istore (lv' := [(4, .int (a1 u6_3.toNatClampNeg)), (0, .ref h0), (1, .int u6_1), (2, .int u6_2), (3, .int u6_3)]) hx hb dX0_mostBalanced_20 hl (by decide) rfl (fun ls hl => ?_)
        refine lv_aload_n hx hb dX0_mostBalanced_22 rfl (lv_at hl 1 rfl) ?_
        refine va_get (ci := 0) (v := .ref h2) (C := RX0) (T := TX0) (N := 6) hx hb ht0 iX0 hown hK hP 0 rfl rfl 2 (by decide) (ht0 _ wd_185) (fun _ h9 => h9) rfl dX0_mostBalanced_23 ?_
        refine lv_iload hx hb dX0_mostBalanced_26 (lv_at hl 0 rfl) ?_
        obtain ⟨g6, hf⟩ := of_grd hf
        refine va_zald hx hb hK hP 2 1 rfl rfl g6 dX0_mostBalanced_28 ?_
        refine lv_if_eq (tgt := 35) hx hb dX0_mostBalanced_29 (by decide) (fun c7 => ?_) (fun c7 => ?_)
        · have hf := of_pos hf c7
          refine lv_iload_n hx hb dX0_mostBalanced_35 rfl (lv_at hl 2 rfl) ?_
          refine lv_if_eq (tgt := 54) hx hb dX0_mostBalanced_36 (by decide) (fun c8 => ?_) (fun c8 => ?_)
          · have hf := of_pos hf c8
            exact kJ54 _ _ _ _ hf _ _ hP hD hS _ (lv_sub hl [1, 2, 3, 4, 0] rfl)
          · have hf := of_neg hf c8
            refine lv_iload hx hb dX0_mostBalanced_39 (lv_at hl 0 rfl) ?_
            obtain ⟨r_41_8, hc_r_41_8, hf⟩ := of_bnd hf
            refine cl_Si (w2 := (wW_X0_mostBalanced G h0 h1 h2 h3 y0_3 y0_4 x0_1 a1 a2 a3)) (As := [.int (a1 u6_3.toNatClampNeg)]) (rest := []) ⟨hx, hb, hml, hown, ht0⟩ (c_J6_bitCount_0f7a4 l G _ F (a1 u6_3.toNatClampNeg) _ hc_r_41_8) yk_J6_bitCount_0f7a4 wd_466 ⟨rfl, rfl, by decide, by decide⟩ ⟨Nat.le_refl _, Nat.le_refl _⟩ hX hK hP hD hS hA [] [0, 1, 2, 3] [0, 1, 2, 3] rfl rfl (by decide) rfl rfl rfl rfl rfl hl.1 rfl (Nat.le_of_ble_eq_true rfl) dX0_mostBalanced_41 (fun H locs hP hD hS => ?_)
            refine lv_iload_n hx hb dX0_mostBalanced_44 rfl (lv_at hl 2 rfl) ?_
            obtain ⟨r_45_9, hc_r_45_9, hf⟩ := of_bnd hf
            refine cl_Si (w2 := (wW_X0_mostBalanced G h0 h1 h2 h3 y0_3 y0_4 x0_1 a1 a2 a3)) (As := [.int u6_1]) (rest := [.int r_41_8]) ⟨hx, hb, hml, hown, ht0⟩ (c_J6_bitCount_0f7a4 l G _ F u6_1 _ hc_r_45_9) yk_J6_bitCount_0f7a4 wd_466 ⟨rfl, rfl, by decide, by decide⟩ ⟨Nat.le_refl _, Nat.le_refl _⟩ hX hK hP hD hS hA [] [0, 1, 2, 3] [0, 1, 2, 3] rfl rfl (by decide) rfl rfl rfl rfl rfl hl.1 rfl (Nat.le_of_ble_eq_true rfl) dX0_mostBalanced_45 (fun H locs hP hD hS => ?_)
            refine lv_icmp_le (tgt := 54) hx hb dX0_mostBalanced_48 (by decide) (fun c11 => ?_) (fun c11 => ?_)
            · have hf := of_pos hf c11
              exact kJ54 _ _ _ _ hf _ _ hP hD hS _ (lv_sub hl [1, 2, 3, 4, 0] rfl)
            · have hf := of_neg hf c11
              refine lv_goto (tgt := 84) hx hb dX0_mostBalanced_51 (by decide) ?_
              refine lv_iload_n hx hb dX0_mostBalanced_84 rfl (lv_at hl 2 rfl) ?_
              cases hf
              exact ret_i hx hb hr hlk hK hP hD hS dX0_mostBalanced_85
        · have hf := of_neg hf c7
          refine lv_goto (tgt := 78) hx hb dX0_mostBalanced_32 (by decide) ?_
          exact kJ78 _ _ _ hf _ _ hP hD hS _ (lv_sub hl [1, 2, 3, 4] rfl)
  refine lv_iconst (v := (0 : Int32)) hx hb dX0_mostBalanced_0 (by decide) ?_
  refine lv_istore_n (lv' := [(1, .int (0 : Int32)), (0, .ref h0)]) hx hb dX0_mostBalanced_1 rfl hl (by decide) rfl (fun ls hl => ?_)
  refine lv_iconst (v := (0 : Int32)) hx hb dX0_mostBalanced_2 (by decide) ?_
  refine lv_istore_n (lv' := [(2, .int (0 : Int32)), (1, .int (0 : Int32)), (0, .ref h0)]) hx hb dX0_mostBalanced_3 rfl hl (by decide) rfl (fun ls hl => ?_)
  refine lv_iconst (v := (0 : Int32)) hx hb dX0_mostBalanced_4 (by decide) ?_
  refine lv_istore_n (lv' := [(3, .int (0 : Int32)), (2, .int (0 : Int32)), (1, .int (0 : Int32)), (0, .ref h0)]) hx hb dX0_mostBalanced_5 rfl hl (by decide) rfl (fun ls hl => ?_)
  exact kL6 _ _ _ _ hf _ _ hP hD hS _ (lv_sub hl [3, 2, 1, 0] rfl)
theorem yk_X0_mostBalanced : ykV yX0_mostBalanced RX0 cX0_mostBalanced 6 (some .int) 0 := ⟨wd_510, wd_8, wd_130, wd_511, rfl, by decide +kernel, by decide +kernel, by decide +kernel⟩
theorem dX0_chooseBalanced_0 : decode cX0_chooseBalanced 0 = .ok (.aload_n 0, 1) := by decide +kernel
theorem dX0_chooseBalanced_1 : decode cX0_chooseBalanced 1 = .ok (.getfield 25, 3) := by decide +kernel
theorem dX0_chooseBalanced_4 : decode cX0_chooseBalanced 4 = .ok (.iconst 0, 1) := by decide +kernel
theorem dX0_chooseBalanced_5 : decode cX0_chooseBalanced 5 = .ok (.invokestatic 76, 3) := by decide +kernel
theorem dX0_chooseBalanced_8 : decode cX0_chooseBalanced 8 = .ok (.iconst 0, 1) := by decide +kernel
theorem dX0_chooseBalanced_9 : decode cX0_chooseBalanced 9 = .ok (.istore_n 2, 1) := by decide +kernel
theorem dX0_chooseBalanced_10 : decode cX0_chooseBalanced 10 = .ok (.iload_n 2, 1) := by decide +kernel
theorem dX0_chooseBalanced_11 : decode cX0_chooseBalanced 11 = .ok (.aload_n 1, 1) := by decide +kernel
theorem dX0_chooseBalanced_12 : decode cX0_chooseBalanced 12 = .ok (.getfield 41, 3) := by decide +kernel
theorem dX0_chooseBalanced_15 : decode cX0_chooseBalanced 15 = .ok (.if_icmp .ge 60, 3) := by decide +kernel
theorem dX0_chooseBalanced_18 : decode cX0_chooseBalanced 18 = .ok (.aload_n 0, 1) := by decide +kernel
theorem dX0_chooseBalanced_19 : decode cX0_chooseBalanced 19 = .ok (.invokevirtual 82, 3) := by decide +kernel
theorem dX0_chooseBalanced_22 : decode cX0_chooseBalanced 22 = .ok (.istore_n 3, 1) := by decide +kernel
theorem dX0_chooseBalanced_23 : decode cX0_chooseBalanced 23 = .ok (.aload_n 1, 1) := by decide +kernel
theorem dX0_chooseBalanced_24 : decode cX0_chooseBalanced 24 = .ok (.getfield 58, 3) := by decide +kernel
theorem dX0_chooseBalanced_27 : decode cX0_chooseBalanced 27 = .ok (.iload_n 2, 1) := by decide +kernel
theorem dX0_chooseBalanced_28 : decode cX0_chooseBalanced 28 = .ok (.iload_n 3, 1) := by decide +kernel
theorem dX0_chooseBalanced_29 : decode cX0_chooseBalanced 29 = .ok (.iastore, 1) := by decide +kernel
theorem dX0_chooseBalanced_30 : decode cX0_chooseBalanced 30 = .ok (.aload_n 0, 1) := by decide +kernel
theorem dX0_chooseBalanced_31 : decode cX0_chooseBalanced 31 = .ok (.getfield 15, 3) := by decide +kernel
theorem dX0_chooseBalanced_34 : decode cX0_chooseBalanced 34 = .ok (.iload_n 3, 1) := by decide +kernel
theorem dX0_chooseBalanced_35 : decode cX0_chooseBalanced 35 = .ok (.iconst 1, 1) := by decide +kernel
theorem dX0_chooseBalanced_36 : decode cX0_chooseBalanced 36 = .ok (.bastore, 1) := by decide +kernel
theorem dX0_chooseBalanced_37 : decode cX0_chooseBalanced 37 = .ok (.iconst 0, 1) := by decide +kernel
theorem dX0_chooseBalanced_38 : decode cX0_chooseBalanced 38 = .ok (.istore 4, 2) := by decide +kernel
theorem dX0_chooseBalanced_40 : decode cX0_chooseBalanced 40 = .ok (.iload 4, 2) := by decide +kernel
theorem dX0_chooseBalanced_42 : decode cX0_chooseBalanced 42 = .ok (.bipush 8, 2) := by decide +kernel
theorem dX0_chooseBalanced_44 : decode cX0_chooseBalanced 44 = .ok (.if_icmp .ge 25, 3) := by decide +kernel
theorem dX0_chooseBalanced_47 : decode cX0_chooseBalanced 47 = .ok (.aload_n 0, 1) := by decide +kernel
theorem dX0_chooseBalanced_48 : decode cX0_chooseBalanced 48 = .ok (.getfield 25, 3) := by decide +kernel
theorem dX0_chooseBalanced_51 : decode cX0_chooseBalanced 51 = .ok (.iload 4, 2) := by decide +kernel
theorem dX0_chooseBalanced_53 : decode cX0_chooseBalanced 53 = .ok (.dup2, 1) := by decide +kernel
theorem dX0_chooseBalanced_54 : decode cX0_chooseBalanced 54 = .ok (.iaload, 1) := by decide +kernel
theorem dX0_chooseBalanced_55 : decode cX0_chooseBalanced 55 = .ok (.iload_n 3, 1) := by decide +kernel
theorem dX0_chooseBalanced_56 : decode cX0_chooseBalanced 56 = .ok (.iload 4, 2) := by decide +kernel
theorem dX0_chooseBalanced_58 : decode cX0_chooseBalanced 58 = .ok (.iushr, 1) := by decide +kernel
theorem dX0_chooseBalanced_59 : decode cX0_chooseBalanced 59 = .ok (.iconst 1, 1) := by decide +kernel
theorem dX0_chooseBalanced_60 : decode cX0_chooseBalanced 60 = .ok (.iand, 1) := by decide +kernel
theorem dX0_chooseBalanced_61 : decode cX0_chooseBalanced 61 = .ok (.iadd, 1) := by decide +kernel
theorem dX0_chooseBalanced_62 : decode cX0_chooseBalanced 62 = .ok (.iastore, 1) := by decide +kernel
theorem dX0_chooseBalanced_63 : decode cX0_chooseBalanced 63 = .ok (.iinc 4 1, 3) := by decide +kernel
theorem dX0_chooseBalanced_66 : decode cX0_chooseBalanced 66 = .ok (.goto (-26), 3) := by decide +kernel
theorem dX0_chooseBalanced_69 : decode cX0_chooseBalanced 69 = .ok (.iinc 2 1, 3) := by decide +kernel
theorem dX0_chooseBalanced_72 : decode cX0_chooseBalanced 72 = .ok (.goto (-62), 3) := by decide +kernel
theorem dX0_chooseBalanced_75 : decode cX0_chooseBalanced 75 = .ok (.return_, 1) := by decide +kernel
def wW_X0_chooseBalanced (G : GG) (h0 h1 h2 h3 h4 h5 y0_3 y0_4 y4_4 y4_5 : Nat) (x0_1 : Int32) (a1 : Nat → Int32) (a2 : Nat → Int32) (a3 : Nat → Int32) (x4_0 : Int32) (x4_1 : Int32) (x4_2 : Int32) (a5 : Nat → Int32) : va_W := [(h0, .inr (0, [.ref h1, .int x0_1, .ref h2, .ref y0_3, .ref y0_4, .ref h3])), (h1, .inl (G.2.1, 256, .inl a1)), (h2, .inl (G.2.2.1, 256, .inl a2)), (h3, .inl (G.2.1, 8, .inl a3)), (h4, .inr (1, [.int x4_0, .int x4_1, .int x4_2, .ref h5, .ref y4_4, .ref y4_5])), (h5, .inl (G.2.1, 32, .inl a5))]
set_option maxHeartbeats 4000000 in
set_option maxRecDepth 100000 in
theorem c_X0_chooseBalanced (l : Launch) (G : GG) (h0 h1 h2 h3 h4 h5 y0_3 y0_4 y4_4 y4_5 : Nat) (sz : Nat) (x0_1 : Int32) (a1 : Nat → Int32) (a2 : Nat → Int32) (a3 : Nat → Int32) (x4_0 : Int32) (x4_1 : Int32) (x4_2 : Int32) (a5 : Nat → Int32) (F : Nat)   (e_a2 : Nat → Int32) (e_a3 : Nat → Int32) (e_a5 : Nat → Int32) (hf : p_X0_chooseBalanced F x0_1 a1 a2 a3 x4_0 a5  = some (e_a2, e_a3, e_a5)) : Met l yX0_chooseBalanced (.code yX0_chooseBalanced cX0_chooseBalanced 5 none :: gtbl) ({ frames := 3, cells := 0, slots := 0, locals := 69 } : Room) (PcS G [.ref h0, .ref h4] (wW_X0_chooseBalanced G h0 h1 h2 h3 h4 h5 y0_3 y0_4 y4_4 y4_5 x0_1 a1 a2 a3 x4_0 x4_1 x4_2 a5) sz) (QvS G (va_A (wW_X0_chooseBalanced G h0 h1 h2 h3 h4 h5 y0_3 y0_4 y4_4 y4_5 x0_1 a1 a2 a3 x4_0 x4_1 x4_2 a5) sz) (wW_X0_chooseBalanced G h0 h1 h2 h3 h4 h5 y0_3 y0_4 y4_4 y4_5 x0_1 a1 e_a2 e_a3 x4_0 x4_1 x4_2 e_a5)) 0 0 (va_A (wW_X0_chooseBalanced G h0 h1 h2 h3 h4 h5 y0_3 y0_4 y4_4 y4_5 x0_1 a1 a2 a3 x4_0 x4_1 x4_2 a5) sz) := by
  refine met_start (by decide) (Nat.le_of_ble_eq_true rfl) ?_
  intro p e s m below meth c hC hr hlk hnm hK hP hD hA hS hX ls hl
  obtain ⟨hx, hb, hml, hown, ht0⟩ := hC
  have hown : s.vm.findClass RX0 = some m.cls := hown
  generalize va_A (wW_X0_chooseBalanced G h0 h1 h2 h3 h4 h5 y0_3 y0_4 y4_4 y4_5 x0_1 a1 a2 a3 x4_0 x4_1 x4_2 a5) sz = A at hD hA hS hX ⊢
  have hl : lv_has ls 5 [(0, .ref h0), (1, .ref h4)] := hl
  have hf : p_X0_chooseBalanced F x0_1 a1 a2 a3 x4_0 a5  = some (e_a2, e_a3, e_a5) := hf
  have kL10 : ∀ (n10 : Nat) (u10_2 : Int32) (a2_10 : Nat → Int32) (a3_10 : Nat → Int32) (a5_10 : Nat → Int32), p_X0_chooseBalanced_L10 F x0_1 a1 x4_0 n10 u10_2 a2_10 a3_10 a5_10 = some (e_a2, e_a3, e_a5) → ∀ (H : Heap) (locs : List Loc), va_P G.1 vwCl (wW_X0_chooseBalanced G h0 h1 h2 h3 h4 h5 y0_3 y0_4 y4_4 y4_5 x0_1 a1 a2_10 a3_10 x4_0 x4_1 x4_2 a5_10) H → va_D A (wW_X0_chooseBalanced G h0 h1 h2 h3 h4 h5 y0_3 y0_4 y4_4 y4_5 x0_1 a1 a2_10 a3_10 x4_0 x4_1 x4_2 a5_10) → va_S A s.heap H locs → ∀ ls : Array Slot, lv_has ls 5 [(0, .ref h0), (1, .ref h4), (2, .int u10_2)] → W p l e ({ frames := 3, cells := 0, slots := 0, locals := 69 } : Room) s m (List.toArray [.ref h0, .ref h4]) below meth c H locs 0 0 (MQ below (QvS G A (wW_X0_chooseBalanced G h0 h1 h2 h3 h4 h5 y0_3 y0_4 y4_4 y4_5 x0_1 a1 e_a2 e_a3 x4_0 x4_1 x4_2 e_a5)) (List.toArray [.ref h0, .ref h4]) s 0 0 A) (F0 m 10 ls []) := by
    intro n10
    induction n10 with
    | zero =>
      intro u10_2 a2_10 a3_10 a5_10 hf
      cases hf
    | succ n10 ih10 =>
      have kL40 : ∀ (c40_2 : Int32) (c40_3 : Int32) (n40 : Nat) (u40_4 : Int32) (a2_40 : Nat → Int32) (a3_40 : Nat → Int32) (a5_40 : Nat → Int32), p_X0_chooseBalanced_L40 F x0_1 a1 x4_0 c40_2 c40_3 (p_X0_chooseBalanced_L10 F x0_1 a1 x4_0 n10) n40 u40_4 a2_40 a3_40 a5_40 = some (e_a2, e_a3, e_a5) → ∀ (H : Heap) (locs : List Loc), va_P G.1 vwCl (wW_X0_chooseBalanced G h0 h1 h2 h3 h4 h5 y0_3 y0_4 y4_4 y4_5 x0_1 a1 a2_40 a3_40 x4_0 x4_1 x4_2 a5_40) H → va_D A (wW_X0_chooseBalanced G h0 h1 h2 h3 h4 h5 y0_3 y0_4 y4_4 y4_5 x0_1 a1 a2_40 a3_40 x4_0 x4_1 x4_2 a5_40) → va_S A s.heap H locs → ∀ ls : Array Slot, lv_has ls 5 [(0, .ref h0), (1, .ref h4), (2, .int c40_2), (3, .int c40_3), (4, .int u40_4)] → W p l e ({ frames := 3, cells := 0, slots := 0, locals := 69 } : Room) s m (List.toArray [.ref h0, .ref h4]) below meth c H locs 0 0 (MQ below (QvS G A (wW_X0_chooseBalanced G h0 h1 h2 h3 h4 h5 y0_3 y0_4 y4_4 y4_5 x0_1 a1 e_a2 e_a3 x4_0 x4_1 x4_2 e_a5)) (List.toArray [.ref h0, .ref h4]) s 0 0 A) (F0 m 40 ls []) := by
        intro c40_2 c40_3 n40
        induction n40 with
        | zero =>
          intro u40_4 a2_40 a3_40 a5_40 hf
          cases hf
        | succ n40 ih40 =>
          intro u40_4 a2_40 a3_40 a5_40 hf H locs hP hD hS ls hl
          have hf : p_X0_chooseBalanced_L40b F x0_1 a1 x4_0 c40_2 c40_3 (p_X0_chooseBalanced_L10 F x0_1 a1 x4_0 n10) (p_X0_chooseBalanced_L40 F x0_1 a1 x4_0 c40_2 c40_3 (p_X0_chooseBalanced_L10 F x0_1 a1 x4_0 n10) n40) u40_4 a2_40 a3_40 a5_40 = some (e_a2, e_a3, e_a5) := hf
          refine lv_iload hx hb dX0_chooseBalanced_40 (lv_at hl 4 rfl) ?_
          refine lv_bipush (v := (8 : Int32)) hx hb dX0_chooseBalanced_42 (by decide) ?_
          refine lv_icmp_ge (tgt := 69) hx hb dX0_chooseBalanced_44 (by decide) (fun c1 => ?_) (fun c1 => ?_)
          · have hf := of_pos hf c1
            refine lv_iinc (v := c40_2 + (1 : Int32)) (lv' := [(2, .int (c40_2 + (1 : Int32))), (0, .ref h0), (1, .ref h4), (3, .int c40_3), (4, .int u40_4)]) hx hb dX0_chooseBalanced_69 hl (k := 2) rfl (by rfl) (by decide) rfl (fun ls hl => ?_)
            refine lv_goto (tgt := 10) hx hb dX0_chooseBalanced_72 (by decide) ?_
            exact ih10 _ _ _ _ hf _ _ hP hD hS _ (lv_sub hl [1, 2, 0] rfl)
          · have hf := of_neg hf c1
            refine lv_aload_n hx hb dX0_chooseBalanced_47 rfl (lv_at hl 0 rfl) ?_
            refine va_get (ci := 0) (v := .ref h3) (C := RX0) (T := TX0) (N := 6) hx hb ht0 iX0 hown hK hP 0 rfl rfl 5 (by decide) (ht0 _ wd_188) (fun _ h9 => h9) rfl dX0_chooseBalanced_48 ?_
            refine lv_iload hx hb dX0_chooseBalanced_51 (lv_at hl 4 rfl) ?_
            refine lv_dup2_11 hx hb dX0_chooseBalanced_53 rfl rfl ?_
            obtain ⟨g2, hf⟩ := of_grd hf
            refine va_iald hx hb hK hP 3 0 rfl rfl g2 dX0_chooseBalanced_54 ?_
            refine lv_iload_n hx hb dX0_chooseBalanced_55 rfl (lv_at hl 3 rfl) ?_
            refine lv_iload hx hb dX0_chooseBalanced_56 (lv_at hl 4 rfl) ?_
            refine lv_iushr (v := jushr c40_3 u40_4) hx hb dX0_chooseBalanced_58 rfl ?_
            refine lv_iconst (v := (1 : Int32)) hx hb dX0_chooseBalanced_59 (by decide) ?_
            refine lv_iand hx hb dX0_chooseBalanced_60 ?_
            refine lv_iadd hx hb dX0_chooseBalanced_61 ?_
            obtain ⟨g3, hf⟩ := of_grd hf
            refine va_iast hx hb hK hP hD hS 3 0 rfl rfl g3 dX0_chooseBalanced_62 (fun H locs hP hD hS => ?_)
            have hP : va_P G.1 vwCl (wW_X0_chooseBalanced G h0 h1 h2 h3 h4 h5 y0_3 y0_4 y4_4 y4_5 x0_1 a1 a2_40 (upd a3_40 u40_4.toNatClampNeg ((a3_40 u40_4.toNatClampNeg) + ((jushr c40_3 u40_4) &&& (1 : Int32)))) x4_0 x4_1 x4_2 a5_40) H := hP
            have hD : va_D A (wW_X0_chooseBalanced G h0 h1 h2 h3 h4 h5 y0_3 y0_4 y4_4 y4_5 x0_1 a1 a2_40 (upd a3_40 u40_4.toNatClampNeg ((a3_40 u40_4.toNatClampNeg) + ((jushr c40_3 u40_4) &&& (1 : Int32)))) x4_0 x4_1 x4_2 a5_40) := hD
            refine lv_iinc (v := u40_4 + (1 : Int32)) (lv' := [(4, .int (u40_4 + (1 : Int32))), (0, .ref h0), (1, .ref h4), (2, .int c40_2), (3, .int c40_3)]) hx hb dX0_chooseBalanced_63 hl (k := 4) rfl (by rfl) (by decide) rfl (fun ls hl => ?_)
            refine lv_goto (tgt := 40) hx hb dX0_chooseBalanced_66 (by decide) ?_
            exact ih40 _ _ _ _ hf _ _ hP hD hS _ (lv_sub hl [1, 2, 3, 4, 0] rfl)
      intro u10_2 a2_10 a3_10 a5_10 hf H locs hP hD hS ls hl
      have hf : p_X0_chooseBalanced_L10b F x0_1 a1 x4_0 (p_X0_chooseBalanced_L10 F x0_1 a1 x4_0 n10) u10_2 a2_10 a3_10 a5_10 = some (e_a2, e_a3, e_a5) := hf
      refine lv_iload_n hx hb dX0_chooseBalanced_10 rfl (lv_at hl 2 rfl) ?_
      refine lv_aload_n hx hb dX0_chooseBalanced_11 rfl (lv_at hl 1 rfl) ?_
      refine va_get (ci := 1) (v := .int x4_0) (C := RX1) (T := TX1) (N := 6) hx hb ht0 iX1 hown hK hP 4 rfl rfl 0 (by decide) (ht0 _ wd_210) (fun _ h9 => h9) rfl dX0_chooseBalanced_12 ?_
      refine lv_icmp_ge (tgt := 75) hx hb dX0_chooseBalanced_15 (by decide) (fun c4 => ?_) (fun c4 => ?_)
      · have hf := of_pos hf c4
        cases hf
        exact ret_v hx hb hr hlk hK hP hD hS dX0_chooseBalanced_75
      · have hf := of_neg hf c4
        refine lv_aload_n hx hb dX0_chooseBalanced_18 rfl (lv_at hl 0 rfl) ?_
        obtain ⟨r_19_4, hc_r_19_4, hf⟩ := of_bnd hf
        refine cl_Vi (w2 := (wW_X0_chooseBalanced G h0 h1 h2 h3 h4 h5 y0_3 y0_4 y4_4 y4_5 x0_1 a1 a2_10 a3_10 x4_0 x4_1 x4_2 a5_10)) (As := []) (rest := []) ⟨hx, hb, hml, hown, ht0⟩ (c_X0_mostBalanced l G h0 h1 h2 h3 y0_3 y0_4 _ x0_1 a1 a2_10 a3_10 F _ hc_r_19_4) yk_X0_mostBalanced wd_508 ⟨rfl, rfl, by decide, by decide⟩ ⟨Nat.le_refl _, Nat.le_refl _⟩ hX hK hP hD hS hA [0, 1, 2, 3] [4, 5] [2, 3, 4, 5, 0, 1] (va_recv hK hP (ci := 0) (q0 := 0) rfl rfl) rfl rfl (by decide) rfl rfl rfl rfl rfl hl.1 rfl (Nat.le_of_ble_eq_true rfl) dX0_chooseBalanced_19 (fun H locs hP hD hS => ?_)
        refine lv_istore_n (lv' := [(3, .int r_19_4), (0, .ref h0), (1, .ref h4), (2, .int u10_2)]) hx hb dX0_chooseBalanced_22 rfl hl (by decide) rfl (fun ls hl => ?_)
        refine lv_aload_n hx hb dX0_chooseBalanced_23 rfl (lv_at hl 2 rfl) ?_
        refine va_get (ci := 1) (v := .ref h5) (C := RX1) (T := TX1) (N := 6) hx hb ht0 iX1 hown hK hP 4 rfl rfl 3 (by decide) (ht0 _ wd_227) (fun _ h9 => h9) rfl dX0_chooseBalanced_24 ?_
        refine lv_iload_n hx hb dX0_chooseBalanced_27 rfl (lv_at hl 3 rfl) ?_
        refine lv_iload_n hx hb dX0_chooseBalanced_28 rfl (lv_at hl 0 rfl) ?_
        obtain ⟨g6, hf⟩ := of_grd hf
        refine va_iast hx hb hK hP hD hS 5 0 rfl rfl g6 dX0_chooseBalanced_29 (fun H locs hP hD hS => ?_)
        have hP : va_P G.1 vwCl (wW_X0_chooseBalanced G h0 h1 h2 h3 h4 h5 y0_3 y0_4 y4_4 y4_5 x0_1 a1 a2_10 a3_10 x4_0 x4_1 x4_2 (upd a5_10 u10_2.toNatClampNeg r_19_4)) H := hP
        have hD : va_D A (wW_X0_chooseBalanced G h0 h1 h2 h3 h4 h5 y0_3 y0_4 y4_4 y4_5 x0_1 a1 a2_10 a3_10 x4_0 x4_1 x4_2 (upd a5_10 u10_2.toNatClampNeg r_19_4)) := hD
        refine lv_aload_n hx hb dX0_chooseBalanced_30 rfl (lv_at hl 1 rfl) ?_
        refine va_get (ci := 0) (v := .ref h2) (C := RX0) (T := TX0) (N := 6) hx hb ht0 iX0 hown hK hP 0 rfl rfl 2 (by decide) (ht0 _ wd_185) (fun _ h9 => h9) rfl dX0_chooseBalanced_31 ?_
        refine lv_iload_n hx hb dX0_chooseBalanced_34 rfl (lv_at hl 0 rfl) ?_
        refine lv_iconst (v := (1 : Int32)) hx hb dX0_chooseBalanced_35 (by decide) ?_
        obtain ⟨g7, hf⟩ := of_grd hf
        refine va_zast hx hb hK hP hD hS 2 1 rfl rfl g7 dX0_chooseBalanced_36 (fun H locs hP hD hS => ?_)
        have hP : va_P G.1 vwCl (wW_X0_chooseBalanced G h0 h1 h2 h3 h4 h5 y0_3 y0_4 y4_4 y4_5 x0_1 a1 (upd a2_10 r_19_4.toNatClampNeg (vp_nar .boolean (1 : Int32))) a3_10 x4_0 x4_1 x4_2 (upd a5_10 u10_2.toNatClampNeg r_19_4)) H := hP
        have hD : va_D A (wW_X0_chooseBalanced G h0 h1 h2 h3 h4 h5 y0_3 y0_4 y4_4 y4_5 x0_1 a1 (upd a2_10 r_19_4.toNatClampNeg (vp_nar .boolean (1 : Int32))) a3_10 x4_0 x4_1 x4_2 (upd a5_10 u10_2.toNatClampNeg r_19_4)) := hD
        refine lv_iconst (v := (0 : Int32)) hx hb dX0_chooseBalanced_37 (by decide) ?_
        refine lv_istore (lv' := [(4, .int (0 : Int32)), (3, .int r_19_4), (0, .ref h0), (1, .ref h4), (2, .int u10_2)]) hx hb dX0_chooseBalanced_38 hl (by decide) rfl (fun ls hl => ?_)
        exact kL40 _ _ _ _ _ _ _ hf _ _ hP hD hS _ (lv_sub hl [2, 3, 4, 1, 0] rfl)
  refine lv_aload_n hx hb dX0_chooseBalanced_0 rfl (lv_at hl 0 rfl) ?_
  refine va_get (ci := 0) (v := .ref h3) (C := RX0) (T := TX0) (N := 6) hx hb ht0 iX0 hown hK hP 0 rfl rfl 5 (by decide) (ht0 _ wd_188) (fun _ h9 => h9) rfl dX0_chooseBalanced_1 ?_
  refine lv_iconst (v := (0 : Int32)) hx hb dX0_chooseBalanced_4 (by decide) ?_
  obtain ⟨r_5_7_a0, hc_r_5_7, hf⟩ := of_bnd hf
  refine cl_Sv (w2 := (wW_X0_chooseBalanced G h0 h1 h2 h3 h4 h5 y0_3 y0_4 y4_4 y4_5 x0_1 a1 a2 r_5_7_a0 x4_0 x4_1 x4_2 a5)) (As := [.ref h3, .int (0 : Int32)]) (rest := []) ⟨hx, hb, hml, hown, ht0⟩ (c_J7_fill_53178 l G 8 h3 _ a3 F (0 : Int32) _ hc_r_5_7) yk_J7_fill_53178 wd_505 ⟨rfl, rfl, by decide, by decide⟩ ⟨Nat.le_refl _, Nat.le_refl _⟩ hX hK hP hD hS hA [3] [0, 1, 2, 4, 5] [0, 1, 2, 5, 3, 4] rfl rfl (by decide) rfl rfl rfl rfl rfl hl.1 rfl (Nat.le_of_ble_eq_true rfl) dX0_chooseBalanced_5 (fun H locs hP hD hS => ?_)
  refine lv_iconst (v := (0 : Int32)) hx hb dX0_chooseBalanced_8 (by decide) ?_
  refine lv_istore_n (lv' := [(2, .int (0 : Int32)), (0, .ref h0), (1, .ref h4)]) hx hb dX0_chooseBalanced_9 rfl hl (by decide) rfl (fun ls hl => ?_)
  exact kL10 _ _ _ _ _ hf _ _ hP hD hS _ (lv_sub hl [1, 2, 0] rfl)
theorem yk_X0_chooseBalanced : ykV yX0_chooseBalanced RX0 cX0_chooseBalanced 5 none 1 := ⟨wd_503, wd_7, wd_130, wd_504, rfl, by decide +kernel, by decide +kernel, by decide +kernel⟩
theorem dX0_chooseColumns_0 : decode cX0_chooseColumns 0 = .ok (.aload_n 0, 1) := by decide +kernel
theorem dX0_chooseColumns_1 : decode cX0_chooseColumns 1 = .ok (.aload_n 1, 1) := by decide +kernel
theorem dX0_chooseColumns_2 : decode cX0_chooseColumns 2 = .ok (.getfield 28, 3) := by decide +kernel
theorem dX0_chooseColumns_5 : decode cX0_chooseColumns 5 = .ok (.invokevirtual 34, 3) := by decide +kernel
theorem dX0_chooseColumns_8 : decode cX0_chooseColumns 8 = .ok (.aload_n 0, 1) := by decide +kernel
theorem dX0_chooseColumns_9 : decode cX0_chooseColumns 9 = .ok (.getfield 38, 3) := by decide +kernel
theorem dX0_chooseColumns_12 : decode cX0_chooseColumns 12 = .ok (.aload_n 1, 1) := by decide +kernel
theorem dX0_chooseColumns_13 : decode cX0_chooseColumns 13 = .ok (.getfield 41, 3) := by decide +kernel
theorem dX0_chooseColumns_16 : decode cX0_chooseColumns 16 = .ok (.if_icmp .ge 5, 3) := by decide +kernel
theorem dX0_chooseColumns_19 : decode cX0_chooseColumns 19 = .ok (.iconst 0, 1) := by decide +kernel
theorem dX0_chooseColumns_20 : decode cX0_chooseColumns 20 = .ok (.ireturn, 1) := by decide +kernel
theorem dX0_chooseColumns_21 : decode cX0_chooseColumns 21 = .ok (.aload_n 0, 1) := by decide +kernel
theorem dX0_chooseColumns_22 : decode cX0_chooseColumns 22 = .ok (.invokevirtual 44, 3) := by decide +kernel
theorem dX0_chooseColumns_25 : decode cX0_chooseColumns 25 = .ok (.aload_n 1, 1) := by decide +kernel
theorem dX0_chooseColumns_26 : decode cX0_chooseColumns 26 = .ok (.invokevirtual 47, 3) := by decide +kernel
theorem dX0_chooseColumns_29 : decode cX0_chooseColumns 29 = .ok (.iload_n 2, 1) := by decide +kernel
theorem dX0_chooseColumns_30 : decode cX0_chooseColumns 30 = .ok (.iconst 2, 1) := by decide +kernel
theorem dX0_chooseColumns_31 : decode cX0_chooseColumns 31 = .ok (.if_icmp .ne 13, 3) := by decide +kernel
theorem dX0_chooseColumns_34 : decode cX0_chooseColumns 34 = .ok (.aload_n 0, 1) := by decide +kernel
theorem dX0_chooseColumns_35 : decode cX0_chooseColumns 35 = .ok (.aload_n 1, 1) := by decide +kernel
theorem dX0_chooseColumns_36 : decode cX0_chooseColumns 36 = .ok (.invokevirtual 50, 3) := by decide +kernel
theorem dX0_chooseColumns_39 : decode cX0_chooseColumns 39 = .ok (.ifCond .ne 35, 3) := by decide +kernel
theorem dX0_chooseColumns_42 : decode cX0_chooseColumns 42 = .ok (.iconst 0, 1) := by decide +kernel
theorem dX0_chooseColumns_43 : decode cX0_chooseColumns 43 = .ok (.ireturn, 1) := by decide +kernel
theorem dX0_chooseColumns_44 : decode cX0_chooseColumns 44 = .ok (.iload_n 2, 1) := by decide +kernel
theorem dX0_chooseColumns_45 : decode cX0_chooseColumns 45 = .ok (.iconst 1, 1) := by decide +kernel
theorem dX0_chooseColumns_46 : decode cX0_chooseColumns 46 = .ok (.if_icmp .ne 11, 3) := by decide +kernel
theorem dX0_chooseColumns_49 : decode cX0_chooseColumns 49 = .ok (.aload_n 0, 1) := by decide +kernel
theorem dX0_chooseColumns_50 : decode cX0_chooseColumns 50 = .ok (.aload_n 1, 1) := by decide +kernel
theorem dX0_chooseColumns_51 : decode cX0_chooseColumns 51 = .ok (.invokevirtual 54, 3) := by decide +kernel
theorem dX0_chooseColumns_54 : decode cX0_chooseColumns 54 = .ok (.goto 20, 3) := by decide +kernel
theorem dX0_chooseColumns_57 : decode cX0_chooseColumns 57 = .ok (.aload_n 0, 1) := by decide +kernel
theorem dX0_chooseColumns_58 : decode cX0_chooseColumns 58 = .ok (.getfield 9, 3) := by decide +kernel
theorem dX0_chooseColumns_61 : decode cX0_chooseColumns 61 = .ok (.iconst 0, 1) := by decide +kernel
theorem dX0_chooseColumns_62 : decode cX0_chooseColumns 62 = .ok (.aload_n 1, 1) := by decide +kernel
theorem dX0_chooseColumns_63 : decode cX0_chooseColumns 63 = .ok (.getfield 58, 3) := by decide +kernel
theorem dX0_chooseColumns_66 : decode cX0_chooseColumns 66 = .ok (.iconst 0, 1) := by decide +kernel
theorem dX0_chooseColumns_67 : decode cX0_chooseColumns 67 = .ok (.aload_n 1, 1) := by decide +kernel
theorem dX0_chooseColumns_68 : decode cX0_chooseColumns 68 = .ok (.getfield 41, 3) := by decide +kernel
theorem dX0_chooseColumns_71 : decode cX0_chooseColumns 71 = .ok (.invokestatic 61, 3) := by decide +kernel
theorem dX0_chooseColumns_74 : decode cX0_chooseColumns 74 = .ok (.aload_n 1, 1) := by decide +kernel
theorem dX0_chooseColumns_75 : decode cX0_chooseColumns 75 = .ok (.invokevirtual 67, 3) := by decide +kernel
theorem dX0_chooseColumns_78 : decode cX0_chooseColumns 78 = .ok (.iconst 1, 1) := by decide +kernel
theorem dX0_chooseColumns_79 : decode cX0_chooseColumns 79 = .ok (.ireturn, 1) := by decide +kernel
def wW_X0_chooseColumns (G : GG) (h0 h1 h2 h3 h4 h5 h6 h7 h8 h9 : Nat) (x0_1 : Int32) (a1 : Nat → Int32) (a2 : Nat → Int32) (a3 : Nat → Int32) (a4 : Nat → Int32) (a5 : Nat → Int32) (x6_0 : Int32) (x6_1 : Int32) (x6_2 : Int32) (a7 : Nat → Int32) (a8 : Nat → Int32) (a9 : Nat → Int32) : va_W := [(h0, .inr (0, [.ref h1, .int x0_1, .ref h2, .ref h3, .ref h4, .ref h5])), (h1, .inl (G.2.1, 256, .inl a1)), (h2, .inl (G.2.2.1, 256, .inl a2)), (h3, .inl (G.2.2.1, 256, .inl a3)), (h4, .inl (G.2.1, 24, .inl a4)), (h5, .inl (G.2.1, 8, .inl a5)), (h6, .inr (1, [.int x6_0, .int x6_1, .int x6_2, .ref h7, .ref h8, .ref h9])), (h7, .inl (G.2.1, 32, .inl a7)), (h8, .inl (G.2.1, 256, .inl a8)), (h9, .inl (G.2.1, 256, .inl a9))]
set_option maxHeartbeats 4000000 in
set_option maxRecDepth 100000 in
theorem c_X0_chooseColumns (l : Launch) (G : GG) (h0 h1 h2 h3 h4 h5 h6 h7 h8 h9 : Nat) (sz : Nat) (x0_1 : Int32) (a1 : Nat → Int32) (a2 : Nat → Int32) (a3 : Nat → Int32) (a4 : Nat → Int32) (a5 : Nat → Int32) (x6_0 : Int32) (x6_1 : Int32) (x6_2 : Int32) (a7 : Nat → Int32) (a8 : Nat → Int32) (a9 : Nat → Int32) (F : Nat) (b2 : Int32)  (r0 : Int32) (e_x0_1 : Int32) (e_a1 : Nat → Int32) (e_a2 : Nat → Int32) (e_a3 : Nat → Int32) (e_a4 : Nat → Int32) (e_a5 : Nat → Int32) (e_a7 : Nat → Int32) (e_a8 : Nat → Int32) (e_a9 : Nat → Int32) (hf : p_X0_chooseColumns F x0_1 a1 a2 a3 a4 a5 x6_0 x6_1 a7 a8 a9 b2 = some (r0, e_x0_1, e_a1, e_a2, e_a3, e_a4, e_a5, e_a7, e_a8, e_a9)) : Met l yX0_chooseColumns (.code yX0_chooseColumns cX0_chooseColumns 3 (some .boolean) :: gtbl) ({ frames := 4, cells := 0, slots := 0, locals := 93 } : Room) (PcS G [.ref h0, .ref h6, .int b2] (wW_X0_chooseColumns G h0 h1 h2 h3 h4 h5 h6 h7 h8 h9 x0_1 a1 a2 a3 a4 a5 x6_0 x6_1 x6_2 a7 a8 a9) sz) (QiS G r0 (va_A (wW_X0_chooseColumns G h0 h1 h2 h3 h4 h5 h6 h7 h8 h9 x0_1 a1 a2 a3 a4 a5 x6_0 x6_1 x6_2 a7 a8 a9) sz) (wW_X0_chooseColumns G h0 h1 h2 h3 h4 h5 h6 h7 h8 h9 e_x0_1 e_a1 e_a2 e_a3 e_a4 e_a5 x6_0 x6_1 x6_2 e_a7 e_a8 e_a9)) 0 0 (va_A (wW_X0_chooseColumns G h0 h1 h2 h3 h4 h5 h6 h7 h8 h9 x0_1 a1 a2 a3 a4 a5 x6_0 x6_1 x6_2 a7 a8 a9) sz) := by
  refine met_start (by decide) (Nat.le_of_ble_eq_true rfl) ?_
  intro p e s m below meth c hC hr hlk hnm hK hP hD hA hS hX ls hl
  obtain ⟨hx, hb, hml, hown, ht0⟩ := hC
  have hown : s.vm.findClass RX0 = some m.cls := hown
  generalize va_A (wW_X0_chooseColumns G h0 h1 h2 h3 h4 h5 h6 h7 h8 h9 x0_1 a1 a2 a3 a4 a5 x6_0 x6_1 x6_2 a7 a8 a9) sz = A at hD hA hS hX ⊢
  have hl : lv_has ls 3 [(0, .ref h0), (1, .ref h6), (2, .int b2)] := hl
  have hf : p_X0_chooseColumns F x0_1 a1 a2 a3 a4 a5 x6_0 x6_1 a7 a8 a9 b2 = some (r0, e_x0_1, e_a1, e_a2, e_a3, e_a4, e_a5, e_a7, e_a8, e_a9) := hf
  have kJ74 : ∀ (x0_1_74 : Int32) (a1_74 : Nat → Int32) (a2_74 : Nat → Int32) (a3_74 : Nat → Int32) (a4_74 : Nat → Int32) (a5_74 : Nat → Int32) (a7_74 : Nat → Int32) (a8_74 : Nat → Int32) (a9_74 : Nat → Int32), p_X0_chooseColumns_J74 F x6_0 x6_1 x0_1_74 a1_74 a2_74 a3_74 a4_74 a5_74 a7_74 a8_74 a9_74 = some (r0, e_x0_1, e_a1, e_a2, e_a3, e_a4, e_a5, e_a7, e_a8, e_a9) → ∀ (H : Heap) (locs : List Loc), va_P G.1 vwCl (wW_X0_chooseColumns G h0 h1 h2 h3 h4 h5 h6 h7 h8 h9 x0_1_74 a1_74 a2_74 a3_74 a4_74 a5_74 x6_0 x6_1 x6_2 a7_74 a8_74 a9_74) H → va_D A (wW_X0_chooseColumns G h0 h1 h2 h3 h4 h5 h6 h7 h8 h9 x0_1_74 a1_74 a2_74 a3_74 a4_74 a5_74 x6_0 x6_1 x6_2 a7_74 a8_74 a9_74) → va_S A s.heap H locs → ∀ ls : Array Slot, lv_has ls 3 [(1, .ref h6)] → W p l e ({ frames := 4, cells := 0, slots := 0, locals := 93 } : Room) s m (List.toArray [.ref h0, .ref h6, .int b2]) below meth c H locs 0 0 (MQ below (QiS G r0 A (wW_X0_chooseColumns G h0 h1 h2 h3 h4 h5 h6 h7 h8 h9 e_x0_1 e_a1 e_a2 e_a3 e_a4 e_a5 x6_0 x6_1 x6_2 e_a7 e_a8 e_a9)) (List.toArray [.ref h0, .ref h6, .int b2]) s 0 0 A) (F0 m 74 ls []) := by
    intro x0_1_74 a1_74 a2_74 a3_74 a4_74 a5_74 a7_74 a8_74 a9_74 hf H locs hP hD hS ls hl
    refine lv_aload_n hx hb dX0_chooseColumns_74 rfl (lv_at hl 0 rfl) ?_
    obtain ⟨⟨r_75_0_a2, r_75_0_a3⟩, hc_r_75_0, hf⟩ := of_bnd hf
    refine cl_Vv (w2 := (wW_X0_chooseColumns G h0 h1 h2 h3 h4 h5 h6 h7 h8 h9 x0_1_74 a1_74 a2_74 a3_74 a4_74 a5_74 x6_0 x6_1 x6_2 a7_74 r_75_0_a2 r_75_0_a3)) (As := []) (rest := []) ⟨hx, hb, hml, hown, ht0⟩ (c_X1_lookUpAnew l G h6 h7 h8 h9 _ x6_0 x6_1 x6_2 a7_74 a8_74 a9_74 F _ _ hc_r_75_0) yk_X1_lookUpAnew wd_522 ⟨rfl, rfl, by decide, by decide⟩ ⟨Nat.le_refl _, Nat.le_refl _⟩ hX hK hP hD hS hA [6, 7, 8, 9] [0, 1, 2, 3, 4, 5] [0, 1, 2, 3, 4, 5, 6, 7, 8, 9] (va_recv hK hP (ci := 1) (q0 := 6) rfl rfl) rfl rfl (by decide) rfl rfl rfl rfl rfl hl.1 rfl (Nat.le_of_ble_eq_true rfl) dX0_chooseColumns_75 (fun H locs hP hD hS => ?_)
    refine lv_iconst (v := (1 : Int32)) hx hb dX0_chooseColumns_78 (by decide) ?_
    cases hf
    exact ret_z hx hb hr hlk hK hP hD hS (by decide) dX0_chooseColumns_79
  refine lv_aload_n hx hb dX0_chooseColumns_0 rfl (lv_at hl 0 rfl) ?_
  refine lv_aload_n hx hb dX0_chooseColumns_1 rfl (lv_at hl 1 rfl) ?_
  refine va_get (ci := 1) (v := .int x6_1) (C := RX1) (T := TX1) (N := 6) hx hb ht0 iX1 hown hK hP 6 rfl rfl 1 (by decide) (ht0 _ wd_216) (fun _ h9 => h9) rfl dX0_chooseColumns_2 ?_
  obtain ⟨⟨r_5_1_x0_1, r_5_1_a1⟩, hc_r_5_1, hf⟩ := of_bnd hf
  refine cl_Vv (w2 := (wW_X0_chooseColumns G h0 h1 h2 h3 h4 h5 h6 h7 h8 h9 r_5_1_x0_1 r_5_1_a1 a2 a3 a4 a5 x6_0 x6_1 x6_2 a7 a8 a9)) (As := [.int x6_1]) (rest := []) ⟨hx, hb, hml, hown, ht0⟩ (c_X0_listInOrder l G h0 h1 h2 h3 h4 h5 _ x0_1 a1 F x6_1 _ _ hc_r_5_1) yk_X0_listInOrder wd_462 ⟨rfl, rfl, by decide, by decide⟩ ⟨Nat.le_refl _, Nat.le_refl _⟩ hX hK hP hD hS hA [0, 1] [2, 3, 4, 5, 6, 7, 8, 9] [8, 9, 0, 1, 2, 3, 4, 5, 6, 7] (va_recv hK hP (ci := 0) (q0 := 0) rfl rfl) rfl rfl (by decide) rfl rfl rfl rfl rfl hl.1 rfl (Nat.le_of_ble_eq_true rfl) dX0_chooseColumns_5 (fun H locs hP hD hS => ?_)
  refine lv_aload_n hx hb dX0_chooseColumns_8 rfl (lv_at hl 0 rfl) ?_
  refine va_get (ci := 0) (v := .int r_5_1_x0_1) (C := RX0) (T := TX0) (N := 6) hx hb ht0 iX0 hown hK hP 0 rfl rfl 1 (by decide) (ht0 _ wd_184) (fun _ h9 => h9) rfl dX0_chooseColumns_9 ?_
  refine lv_aload_n hx hb dX0_chooseColumns_12 rfl (lv_at hl 1 rfl) ?_
  refine va_get (ci := 1) (v := .int x6_0) (C := RX1) (T := TX1) (N := 6) hx hb ht0 iX1 hown hK hP 6 rfl rfl 0 (by decide) (ht0 _ wd_210) (fun _ h9 => h9) rfl dX0_chooseColumns_13 ?_
  refine lv_icmp_ge (tgt := 21) hx hb dX0_chooseColumns_16 (by decide) (fun c3 => ?_) (fun c3 => ?_)
  · have hf := of_pos hf c3
    refine lv_aload_n hx hb dX0_chooseColumns_21 rfl (lv_at hl 0 rfl) ?_
    obtain ⟨⟨r_22_3_a1, r_22_3_a2⟩, hc_r_22_3, hf⟩ := of_bnd hf
    refine cl_Vv (w2 := (wW_X0_chooseColumns G h0 h1 h2 h3 h4 h5 h6 h7 h8 h9 r_5_1_x0_1 r_5_1_a1 r_22_3_a1 r_22_3_a2 a4 a5 x6_0 x6_1 x6_2 a7 a8 a9)) (As := []) (rest := []) ⟨hx, hb, hml, hown, ht0⟩ (c_X0_freeAll l G h0 h2 h3 h1 h4 h5 _ r_5_1_x0_1 a2 a3 F _ _ hc_r_22_3) yk_X0_freeAll wd_472 ⟨rfl, rfl, by decide, by decide⟩ ⟨Nat.le_refl _, Nat.le_refl _⟩ hX hK hP hD hS hA [0, 2, 3] [1, 4, 5, 6, 7, 8, 9] [7, 0, 8, 9, 1, 2, 3, 4, 5, 6] (va_recv hK hP (ci := 0) (q0 := 0) rfl rfl) rfl rfl (by decide) rfl rfl rfl rfl rfl hl.1 rfl (Nat.le_of_ble_eq_true rfl) dX0_chooseColumns_22 (fun H locs hP hD hS => ?_)
    refine lv_aload_n hx hb dX0_chooseColumns_25 rfl (lv_at hl 1 rfl) ?_
    obtain ⟨r_26_4_a1, hc_r_26_4, hf⟩ := of_bnd hf
    refine cl_Vv (w2 := (wW_X0_chooseColumns G h0 h1 h2 h3 h4 h5 h6 h7 h8 h9 r_5_1_x0_1 r_5_1_a1 r_22_3_a1 r_22_3_a2 a4 a5 x6_0 x6_1 x6_2 r_26_4_a1 a8 a9)) (As := []) (rest := []) ⟨hx, hb, hml, hown, ht0⟩ (c_X1_placeChecks l G h6 h7 h8 h9 _ x6_0 x6_1 x6_2 a7 F _ hc_r_26_4) yk_X1_placeChecks wd_476 ⟨rfl, rfl, by decide, by decide⟩ ⟨Nat.le_refl _, Nat.le_refl _⟩ hX hK hP hD hS hA [6, 7] [0, 1, 2, 3, 4, 5, 8, 9] [0, 1, 2, 3, 4, 5, 8, 9, 6, 7] (va_recv hK hP (ci := 1) (q0 := 6) rfl rfl) rfl rfl (by decide) rfl rfl rfl rfl rfl hl.1 rfl (Nat.le_of_ble_eq_true rfl) dX0_chooseColumns_26 (fun H locs hP hD hS => ?_)
    refine lv_iload_n hx hb dX0_chooseColumns_29 rfl (lv_at hl 2 rfl) ?_
    refine lv_iconst (v := (2 : Int32)) hx hb dX0_chooseColumns_30 (by decide) ?_
    refine lv_icmp_ne (tgt := 44) hx hb dX0_chooseColumns_31 (by decide) (fun c6 => ?_) (fun c6 => ?_)
    · have hf := of_neg hf c6
      refine lv_iload_n hx hb dX0_chooseColumns_44 rfl (lv_at hl 2 rfl) ?_
      refine lv_iconst (v := (1 : Int32)) hx hb dX0_chooseColumns_45 (by decide) ?_
      refine lv_icmp_ne (tgt := 57) hx hb dX0_chooseColumns_46 (by decide) (fun c7 => ?_) (fun c7 => ?_)
      · have hf := of_neg hf c7
        refine lv_aload_n hx hb dX0_chooseColumns_57 rfl (lv_at hl 0 rfl) ?_
        refine va_get (ci := 0) (v := .ref h1) (C := RX0) (T := TX0) (N := 6) hx hb ht0 iX0 hown hK hP 0 rfl rfl 0 (by decide) (ht0 _ wd_183) (fun _ h9 => h9) rfl dX0_chooseColumns_58 ?_
        refine lv_iconst (v := (0 : Int32)) hx hb dX0_chooseColumns_61 (by decide) ?_
        refine lv_aload_n hx hb dX0_chooseColumns_62 rfl (lv_at hl 1 rfl) ?_
        refine va_get (ci := 1) (v := .ref h7) (C := RX1) (T := TX1) (N := 6) hx hb ht0 iX1 hown hK hP 6 rfl rfl 3 (by decide) (ht0 _ wd_227) (fun _ h9 => h9) rfl dX0_chooseColumns_63 ?_
        refine lv_iconst (v := (0 : Int32)) hx hb dX0_chooseColumns_66 (by decide) ?_
        refine lv_aload_n hx hb dX0_chooseColumns_67 rfl (lv_at hl 1 rfl) ?_
        refine va_get (ci := 1) (v := .int x6_0) (C := RX1) (T := TX1) (N := 6) hx hb ht0 iX1 hown hK hP 6 rfl rfl 0 (by decide) (ht0 _ wd_210) (fun _ h9 => h9) rfl dX0_chooseColumns_68 ?_
        obtain ⟨g8, hf⟩ := of_grd hf
        refine va_copyi hx hb (by rw [hml]; exact hl.1.symm) hown (ht0 _ wd_519) (ht0 _ wd_521) (ht0 _ wd_520) (ht0 _ wd_141) hK hP hD hS 1 7 0 0 rfl rfl rfl rfl rfl (fun q => g8 (Or.inl q)) (fun q => g8 (Or.inr (Or.inl q))) (fun q => g8 (Or.inr (Or.inr (Or.inl q)))) (Nat.not_lt.mp (fun q => g8 (Or.inr (Or.inr (Or.inr (Or.inl q)))))) (Nat.not_lt.mp (fun q => g8 (Or.inr (Or.inr (Or.inr (Or.inr q)))))) (fun _ _ => rfl) (by decide) (Nat.le_of_ble_eq_true rfl) dX0_chooseColumns_71 (fun H locs hP hD hS => ?_)
        have hP : va_P G.1 vwCl (wW_X0_chooseColumns G h0 h1 h2 h3 h4 h5 h6 h7 h8 h9 r_5_1_x0_1 r_5_1_a1 r_22_3_a1 r_22_3_a2 a4 a5 x6_0 x6_1 x6_2 (va_cpy r_5_1_a1 r_26_4_a1 (0 : Int32).toNatClampNeg (0 : Int32).toNatClampNeg x6_0.toNatClampNeg) a8 a9) H := hP
        have hD : va_D A (wW_X0_chooseColumns G h0 h1 h2 h3 h4 h5 h6 h7 h8 h9 r_5_1_x0_1 r_5_1_a1 r_22_3_a1 r_22_3_a2 a4 a5 x6_0 x6_1 x6_2 (va_cpy r_5_1_a1 r_26_4_a1 (0 : Int32).toNatClampNeg (0 : Int32).toNatClampNeg x6_0.toNatClampNeg) a8 a9) := hD
        exact kJ74 _ _ _ _ _ _ _ _ _ hf _ _ hP hD hS _ (lv_sub hl [1] rfl)
      · have hf := of_pos hf c7
        refine lv_aload_n hx hb dX0_chooseColumns_49 rfl (lv_at hl 0 rfl) ?_
        refine lv_aload_n hx hb dX0_chooseColumns_50 rfl (lv_at hl 1 rfl) ?_
        obtain ⟨⟨r_51_8_a2, r_51_8_a3, r_51_8_a5⟩, hc_r_51_8, hf⟩ := of_bnd hf
        refine cl_Vv (w2 := (wW_X0_chooseColumns G h0 h1 h2 h3 h4 h5 h6 h7 h8 h9 r_5_1_x0_1 r_5_1_a1 r_51_8_a2 r_22_3_a2 a4 r_51_8_a3 x6_0 x6_1 x6_2 r_51_8_a5 a8 a9)) (As := [.ref h6]) (rest := []) ⟨hx, hb, hml, hown, ht0⟩ (c_X0_chooseBalanced l G h0 h1 h2 h5 h6 h7 h3 h4 h8 h9 _ r_5_1_x0_1 r_5_1_a1 r_22_3_a1 a5 x6_0 x6_1 x6_2 r_26_4_a1 F _ _ _ hc_r_51_8) yk_X0_chooseBalanced wd_501 ⟨rfl, rfl, by decide, by decide⟩ ⟨Nat.le_refl _, Nat.le_refl _⟩ hX hK hP hD hS hA [0, 1, 2, 5, 6, 7] [3, 4, 8, 9] [4, 5, 6, 0, 1, 7, 8, 9, 2, 3] (va_recv hK hP (ci := 0) (q0 := 0) rfl rfl) rfl rfl (by decide) rfl rfl rfl rfl rfl hl.1 rfl (Nat.le_of_ble_eq_true rfl) dX0_chooseColumns_51 (fun H locs hP hD hS => ?_)
        refine lv_goto (tgt := 74) hx hb dX0_chooseColumns_54 (by decide) ?_
        exact kJ74 _ _ _ _ _ _ _ _ _ hf _ _ hP hD hS _ (lv_sub hl [1] rfl)
    · have hf := of_pos hf c6
      refine lv_aload_n hx hb dX0_chooseColumns_34 rfl (lv_at hl 0 rfl) ?_
      refine lv_aload_n hx hb dX0_chooseColumns_35 rfl (lv_at hl 1 rfl) ?_
      obtain ⟨⟨r_36_9, r_36_9_a2, r_36_9_a3, r_36_9_a4, r_36_9_a6⟩, hc_r_36_9, hf⟩ := of_bnd hf
      refine cl_Vi (w2 := (wW_X0_chooseColumns G h0 h1 h2 h3 h4 h5 h6 h7 h8 h9 r_5_1_x0_1 r_5_1_a1 r_36_9_a2 r_36_9_a3 r_36_9_a4 a5 x6_0 x6_1 x6_2 r_36_9_a6 a8 a9)) (As := [.ref h6]) (rest := []) ⟨hx, hb, hml, hown, ht0⟩ (c_X0_choosePaired l G h0 h1 h2 h3 h4 h6 h7 h5 h8 h9 _ r_5_1_x0_1 r_5_1_a1 r_22_3_a1 r_22_3_a2 a4 x6_0 x6_1 x6_2 r_26_4_a1 F _ _ _ _ _ hc_r_36_9) yk_X0_choosePaired wd_480 ⟨rfl, rfl, by decide, by decide⟩ ⟨Nat.le_refl _, Nat.le_refl _⟩ hX hK hP hD hS hA [0, 1, 2, 3, 4, 6, 7] [5, 8, 9] [3, 4, 5, 6, 7, 0, 8, 9, 1, 2] (va_recv hK hP (ci := 0) (q0 := 0) rfl rfl) rfl rfl (by decide) rfl rfl rfl rfl rfl hl.1 rfl (Nat.le_of_ble_eq_true rfl) dX0_chooseColumns_36 (fun H locs hP hD hS => ?_)
      refine lv_if_ne (tgt := 74) hx hb dX0_chooseColumns_39 (by decide) (fun c11 => ?_) (fun c11 => ?_)
      · have hf := of_neg hf c11
        exact kJ74 _ _ _ _ _ _ _ _ _ hf _ _ hP hD hS _ (lv_sub hl [1] rfl)
      · have hf := of_pos hf c11
        refine lv_iconst (v := (0 : Int32)) hx hb dX0_chooseColumns_42 (by decide) ?_
        cases hf
        exact ret_z hx hb hr hlk hK hP hD hS (by decide) dX0_chooseColumns_43
  · have hf := of_neg hf c3
    refine lv_iconst (v := (0 : Int32)) hx hb dX0_chooseColumns_19 (by decide) ?_
    cases hf
    exact ret_z hx hb hr hlk hK hP hD hS (by decide) dX0_chooseColumns_20
theorem yk_X0_chooseColumns : ykV yX0_chooseColumns RX0 cX0_chooseColumns 3 (some .boolean) 2 := ⟨wd_459, wd_460, wd_130, wd_461, rfl, by decide +kernel, by decide +kernel, by decide +kernel⟩
