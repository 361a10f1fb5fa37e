theorem dJ6_bitCount_0f7a4_0 : decode cJ6_bitCount_0f7a4 0 = .ok (.iload_n 0, 1) := by decide +kernel
theorem dJ6_bitCount_0f7a4_1 : decode cJ6_bitCount_0f7a4 1 = .ok (.iload_n 0, 1) := by decide +kernel
theorem dJ6_bitCount_0f7a4_2 : decode cJ6_bitCount_0f7a4 2 = .ok (.iconst 1, 1) := by decide +kernel
theorem dJ6_bitCount_0f7a4_3 : decode cJ6_bitCount_0f7a4 3 = .ok (.iushr, 1) := by decide +kernel
theorem dJ6_bitCount_0f7a4_4 : decode cJ6_bitCount_0f7a4 4 = .ok (.ldc_w 265, 3) := by decide +kernel
theorem dJ6_bitCount_0f7a4_7 : decode cJ6_bitCount_0f7a4 7 = .ok (.iand, 1) := by decide +kernel
theorem dJ6_bitCount_0f7a4_8 : decode cJ6_bitCount_0f7a4 8 = .ok (.isub, 1) := by decide +kernel
theorem dJ6_bitCount_0f7a4_9 : decode cJ6_bitCount_0f7a4 9 = .ok (.istore_n 0, 1) := by decide +kernel
theorem dJ6_bitCount_0f7a4_10 : decode cJ6_bitCount_0f7a4 10 = .ok (.iload_n 0, 1) := by decide +kernel
theorem dJ6_bitCount_0f7a4_11 : decode cJ6_bitCount_0f7a4 11 = .ok (.ldc_w 266, 3) := by decide +kernel
theorem dJ6_bitCount_0f7a4_14 : decode cJ6_bitCount_0f7a4 14 = .ok (.iand, 1) := by decide +kernel
theorem dJ6_bitCount_0f7a4_15 : decode cJ6_bitCount_0f7a4 15 = .ok (.iload_n 0, 1) := by decide +kernel
theorem dJ6_bitCount_0f7a4_16 : decode cJ6_bitCount_0f7a4 16 = .ok (.iconst 2, 1) := by decide +kernel
theorem dJ6_bitCount_0f7a4_17 : decode cJ6_bitCount_0f7a4 17 = .ok (.iushr, 1) := by decide +kernel
theorem dJ6_bitCount_0f7a4_18 : decode cJ6_bitCount_0f7a4 18 = .ok (.ldc_w 266, 3) := by decide +kernel
theorem dJ6_bitCount_0f7a4_21 : decode cJ6_bitCount_0f7a4 21 = .ok (.iand, 1) := by decide +kernel
theorem dJ6_bitCount_0f7a4_22 : decode cJ6_bitCount_0f7a4 22 = .ok (.iadd, 1) := by decide +kernel
theorem dJ6_bitCount_0f7a4_23 : decode cJ6_bitCount_0f7a4 23 = .ok (.istore_n 0, 1) := by decide +kernel
theorem dJ6_bitCount_0f7a4_24 : decode cJ6_bitCount_0f7a4 24 = .ok (.iload_n 0, 1) := by decide +kernel
theorem dJ6_bitCount_0f7a4_25 : decode cJ6_bitCount_0f7a4 25 = .ok (.iload_n 0, 1) := by decide +kernel
theorem dJ6_bitCount_0f7a4_26 : decode cJ6_bitCount_0f7a4 26 = .ok (.iconst 4, 1) := by decide +kernel
theorem dJ6_bitCount_0f7a4_27 : decode cJ6_bitCount_0f7a4 27 = .ok (.iushr, 1) := by decide +kernel
theorem dJ6_bitCount_0f7a4_28 : decode cJ6_bitCount_0f7a4 28 = .ok (.iadd, 1) := by decide +kernel
theorem dJ6_bitCount_0f7a4_29 : decode cJ6_bitCount_0f7a4 29 = .ok (.ldc_w 267, 3) := by decide +kernel
theorem dJ6_bitCount_0f7a4_32 : decode cJ6_bitCount_0f7a4 32 = .ok (.iand, 1) := by decide +kernel
theorem dJ6_bitCount_0f7a4_33 : decode cJ6_bitCount_0f7a4 33 = .ok (.istore_n 0, 1) := by decide +kernel
theorem dJ6_bitCount_0f7a4_34 : decode cJ6_bitCount_0f7a4 34 = .ok (.iload_n 0, 1) := by decide +kernel
theorem dJ6_bitCount_0f7a4_35 : decode cJ6_bitCount_0f7a4 35 = .ok (.iload_n 0, 1) := by decide +kernel
theorem dJ6_bitCount_0f7a4_36 : decode cJ6_bitCount_0f7a4 36 = .ok (.bipush 8, 2) := by decide +kernel
theorem dJ6_bitCount_0f7a4_38 : decode cJ6_bitCount_0f7a4 38 = .ok (.iushr, 1) := by decide +kernel
theorem dJ6_bitCount_0f7a4_39 : decode cJ6_bitCount_0f7a4 39 = .ok (.iadd, 1) := by decide +kernel
theorem dJ6_bitCount_0f7a4_40 : decode cJ6_bitCount_0f7a4 40 = .ok (.istore_n 0, 1) := by decide +kernel
theorem dJ6_bitCount_0f7a4_41 : decode cJ6_bitCount_0f7a4 41 = .ok (.iload_n 0, 1) := by decide +kernel
theorem dJ6_bitCount_0f7a4_42 : decode cJ6_bitCount_0f7a4 42 = .ok (.iload_n 0, 1) := by decide +kernel
theorem dJ6_bitCount_0f7a4_43 : decode cJ6_bitCount_0f7a4 43 = .ok (.bipush 16, 2) := by decide +kernel
theorem dJ6_bitCount_0f7a4_45 : decode cJ6_bitCount_0f7a4 45 = .ok (.iushr, 1) := by decide +kernel
theorem dJ6_bitCount_0f7a4_46 : decode cJ6_bitCount_0f7a4 46 = .ok (.iadd, 1) := by decide +kernel
theorem dJ6_bitCount_0f7a4_47 : decode cJ6_bitCount_0f7a4 47 = .ok (.istore_n 0, 1) := by decide +kernel
theorem dJ6_bitCount_0f7a4_48 : decode cJ6_bitCount_0f7a4 48 = .ok (.iload_n 0, 1) := by decide +kernel
theorem dJ6_bitCount_0f7a4_49 : decode cJ6_bitCount_0f7a4 49 = .ok (.bipush 63, 2) := by decide +kernel
theorem dJ6_bitCount_0f7a4_51 : decode cJ6_bitCount_0f7a4 51 = .ok (.iand, 1) := by decide +kernel
theorem dJ6_bitCount_0f7a4_52 : decode cJ6_bitCount_0f7a4 52 = .ok (.ireturn, 1) := by decide +kernel
set_option maxHeartbeats 4000000 in
set_option maxRecDepth 100000 in
theorem c_J6_bitCount_0f7a4 (l : Launch) (G : GG) (sz : Nat)  (F : Nat) (b0 : Int32)  (r0 : Int32) (hf : p_J6_bitCount_0f7a4 F b0 = some r0) : Met l yJ6_bitCount_0f7a4 (.code yJ6_bitCount_0f7a4 cJ6_bitCount_0f7a4 1 (some .int) :: gtbl) ({ frames := 0, cells := 0, slots := 0, locals := 0 } : Room) (PcS G [.int b0] [] sz) (QiS G r0 (va_A [] sz) []) 0 0 (va_A [] sz) := by
  refine met_start (by decide) (Nat.le_of_ble_eq_true rfl) ?_
  intro p e s m below meth c hC hr hlk hnm hK hP hD hA hS hX ls hl
  obtain ⟨hx, hb, hml, hown, ht0⟩ := hC
  have hown : s.vm.findClass RJ6 = some m.cls := hown
  generalize va_A [] sz = A at hD hA hS hX ⊢
  have hl : lv_has ls 1 [(0, .int b0)] := hl
  have hf : p_J6_bitCount_0f7a4 F b0 = some r0 := hf
  refine lv_iload_n hx hb dJ6_bitCount_0f7a4_0 rfl (lv_at hl 0 rfl) ?_
  refine lv_iload_n hx hb dJ6_bitCount_0f7a4_1 rfl (lv_at hl 0 rfl) ?_
  refine lv_iconst (v := (1 : Int32)) hx hb dJ6_bitCount_0f7a4_2 (by decide) ?_
  refine lv_iushr (v := jushr b0 (1 : Int32)) hx hb dJ6_bitCount_0f7a4_3 rfl ?_
  refine lv_ldcw (v := (1431655765 : Int32)) hx hb hown (ht0 _ wd_469) dJ6_bitCount_0f7a4_4 ?_
  refine lv_iand hx hb dJ6_bitCount_0f7a4_7 ?_
  refine lv_isub hx hb dJ6_bitCount_0f7a4_8 ?_
  refine lv_topi (fun z1 ez1 => ?_)
  have hf := of_jlet hf ez1
  refine lv_istore_n (lv' := [(0, .int z1)]) hx hb dJ6_bitCount_0f7a4_9 rfl hl (by decide) rfl (fun ls hl => ?_)
  refine lv_iload_n hx hb dJ6_bitCount_0f7a4_10 rfl (lv_at hl 0 rfl) ?_
  refine lv_ldcw (v := (858993459 : Int32)) hx hb hown (ht0 _ wd_470) dJ6_bitCount_0f7a4_11 ?_
  refine lv_iand hx hb dJ6_bitCount_0f7a4_14 ?_
  refine lv_iload_n hx hb dJ6_bitCount_0f7a4_15 rfl (lv_at hl 0 rfl) ?_
  refine lv_iconst (v := (2 : Int32)) hx hb dJ6_bitCount_0f7a4_16 (by decide) ?_
  refine lv_iushr (v := jushr z1 (2 : Int32)) hx hb dJ6_bitCount_0f7a4_17 rfl ?_
  refine lv_ldcw (v := (858993459 : Int32)) hx hb hown (ht0 _ wd_470) dJ6_bitCount_0f7a4_18 ?_
  refine lv_iand hx hb dJ6_bitCount_0f7a4_21 ?_
  refine lv_iadd hx hb dJ6_bitCount_0f7a4_22 ?_
  refine lv_topi (fun z2 ez2 => ?_)
  have hf := of_jlet hf ez2
  refine lv_istore_n (lv' := [(0, .int z2)]) hx hb dJ6_bitCount_0f7a4_23 rfl hl (by decide) rfl (fun ls hl => ?_)
  refine lv_iload_n hx hb dJ6_bitCount_0f7a4_24 rfl (lv_at hl 0 rfl) ?_
  refine lv_iload_n hx hb dJ6_bitCount_0f7a4_25 rfl (lv_at hl 0 rfl) ?_
  refine lv_iconst (v := (4 : Int32)) hx hb dJ6_bitCount_0f7a4_26 (by decide) ?_
  refine lv_iushr (v := jushr z2 (4 : Int32)) hx hb dJ6_bitCount_0f7a4_27 rfl ?_
  refine lv_iadd hx hb dJ6_bitCount_0f7a4_28 ?_
  refine lv_ldcw (v := (252645135 : Int32)) hx hb hown (ht0 _ wd_471) dJ6_bitCount_0f7a4_29 ?_
  refine lv_iand hx hb dJ6_bitCount_0f7a4_32 ?_
  refine lv_topi (fun z3 ez3 => ?_)
  have hf := of_jlet hf ez3
  refine lv_istore_n (lv' := [(0, .int z3)]) hx hb dJ6_bitCount_0f7a4_33 rfl hl (by decide) rfl (fun ls hl => ?_)
  refine lv_iload_n hx hb dJ6_bitCount_0f7a4_34 rfl (lv_at hl 0 rfl) ?_
  refine lv_iload_n hx hb dJ6_bitCount_0f7a4_35 rfl (lv_at hl 0 rfl) ?_
  refine lv_bipush (v := (8 : Int32)) hx hb dJ6_bitCount_0f7a4_36 (by decide) ?_
  refine lv_iushr (v := jushr z3 (8 : Int32)) hx hb dJ6_bitCount_0f7a4_38 rfl ?_
  refine lv_iadd hx hb dJ6_bitCount_0f7a4_39 ?_
  refine lv_istore_n (lv' := [(0, .int (z3 + (jushr z3 (8 : Int32))))]) hx hb dJ6_bitCount_0f7a4_40 rfl hl (by decide) rfl (fun ls hl => ?_)
  refine lv_iload_n hx hb dJ6_bitCount_0f7a4_41 rfl (lv_at hl 0 rfl) ?_
  refine lv_iload_n hx hb dJ6_bitCount_0f7a4_42 rfl (lv_at hl 0 rfl) ?_
  refine lv_bipush (v := (16 : Int32)) hx hb dJ6_bitCount_0f7a4_43 (by decide) ?_
  refine lv_iushr (v := jushr (z3 + (jushr z3 (8 : Int32))) (16 : Int32)) hx hb dJ6_bitCount_0f7a4_45 rfl ?_
  refine lv_iadd hx hb dJ6_bitCount_0f7a4_46 ?_
  refine lv_topi (fun z4 ez4 => ?_)
  have hf := of_jlet hf ez4
  refine lv_istore_n (lv' := [(0, .int z4)]) hx hb dJ6_bitCount_0f7a4_47 rfl hl (by decide) rfl (fun ls hl => ?_)
  refine lv_iload_n hx hb dJ6_bitCount_0f7a4_48 rfl (lv_at hl 0 rfl) ?_
  refine lv_bipush (v := (63 : Int32)) hx hb dJ6_bitCount_0f7a4_49 (by decide) ?_
  refine lv_iand hx hb dJ6_bitCount_0f7a4_51 ?_
  cases hf
  exact ret_i hx hb hr hlk hK hP hD hS dJ6_bitCount_0f7a4_52
theorem yk_J6_bitCount_0f7a4 : ykS yJ6_bitCount_0f7a4 cJ6_bitCount_0f7a4 1 (some .int) 1 := ⟨wd_467, wd_138, wd_468, by decide +kernel, by decide +kernel, by decide +kernel⟩
theorem dJ7_fill_53178_0 : decode cJ7_fill_53178 0 = .ok (.iconst 0, 1) := by decide +kernel
theorem dJ7_fill_53178_1 : decode cJ7_fill_53178 1 = .ok (.istore_n 2, 1) := by decide +kernel
theorem dJ7_fill_53178_2 : decode cJ7_fill_53178 2 = .ok (.aload_n 0, 1) := by decide +kernel
theorem dJ7_fill_53178_3 : decode cJ7_fill_53178 3 = .ok (.arraylength, 1) := by decide +kernel
theorem dJ7_fill_53178_4 : decode cJ7_fill_53178 4 = .ok (.istore_n 3, 1) := by decide +kernel
theorem dJ7_fill_53178_5 : decode cJ7_fill_53178 5 = .ok (.iload_n 2, 1) := by decide +kernel
theorem dJ7_fill_53178_6 : decode cJ7_fill_53178 6 = .ok (.iload_n 3, 1) := by decide +kernel
theorem dJ7_fill_53178_7 : decode cJ7_fill_53178 7 = .ok (.if_icmp .ge 13, 3) := by decide +kernel
theorem dJ7_fill_53178_10 : decode cJ7_fill_53178 10 = .ok (.aload_n 0, 1) := by decide +kernel
theorem dJ7_fill_53178_11 : decode cJ7_fill_53178 11 = .ok (.iload_n 2, 1) := by decide +kernel
theorem dJ7_fill_53178_12 : decode cJ7_fill_53178 12 = .ok (.iload_n 1, 1) := by decide +kernel
theorem dJ7_fill_53178_13 : decode cJ7_fill_53178 13 = .ok (.iastore, 1) := by decide +kernel
theorem dJ7_fill_53178_14 : decode cJ7_fill_53178 14 = .ok (.iinc 2 1, 3) := by decide +kernel
theorem dJ7_fill_53178_17 : decode cJ7_fill_53178 17 = .ok (.goto (-12), 3) := by decide +kernel
theorem dJ7_fill_53178_20 : decode cJ7_fill_53178 20 = .ok (.return_, 1) := by decide +kernel
def wW_J7_fill_53178 (G : GG) (N0 : Nat) (h0 : Nat) (a0 : Nat → Int32) : va_W := [(h0, .inl (G.2.1, N0, .inl a0))]
set_option maxHeartbeats 4000000 in
set_option maxRecDepth 100000 in
theorem c_J7_fill_53178 (l : Launch) (G : GG) (N0 : Nat) (h0 : Nat) (sz : Nat) (a0 : Nat → Int32) (F : Nat) (b1 : Int32)  (e_a0 : Nat → Int32) (hf : p_J7_fill_53178 F N0 a0 b1 = some e_a0) : Met l yJ7_fill_53178 (.code yJ7_fill_53178 cJ7_fill_53178 4 none :: gtbl) ({ frames := 0, cells := 0, slots := 0, locals := 0 } : Room) (PcS G [.ref h0, .int b1] (wW_J7_fill_53178 G N0 h0 a0) sz) (QvS G (va_A (wW_J7_fill_53178 G N0 h0 a0) sz) (wW_J7_fill_53178 G N0 h0 e_a0)) 0 0 (va_A (wW_J7_fill_53178 G N0 h0 a0) sz) := by
  refine met_start (by decide) (Nat.le_of_ble_eq_true rfl) ?_
  intro p e s m below meth c hC hr hlk hnm hK hP hD hA hS hX ls hl
  obtain ⟨hx, hb, hml, hown, ht0⟩ := hC
  have hown : s.vm.findClass RJ7 = some m.cls := hown
  generalize va_A (wW_J7_fill_53178 G N0 h0 a0) sz = A at hD hA hS hX ⊢
  have hl : lv_has ls 4 [(0, .ref h0), (1, .int b1)] := hl
  have hf : p_J7_fill_53178 F N0 a0 b1 = some e_a0 := hf
  have kL5 : ∀ (c5_1 : Int32) (c5_3 : Int32) (n5 : Nat) (u5_2 : Int32) (a0_5 : Nat → Int32), p_J7_fill_53178_L5 F N0 c5_1 c5_3 n5 u5_2 a0_5 = some e_a0 → ∀ (H : Heap) (locs : List Loc), va_P G.1 vwCl (wW_J7_fill_53178 G N0 h0 a0_5) H → va_D A (wW_J7_fill_53178 G N0 h0 a0_5) → va_S A s.heap H locs → ∀ ls : Array Slot, lv_has ls 4 [(0, .ref h0), (1, .int c5_1), (2, .int u5_2), (3, .int c5_3)] → W p l e ({ frames := 0, cells := 0, slots := 0, locals := 0 } : Room) s m (List.toArray [.ref h0, .int b1]) below meth c H locs 0 0 (MQ below (QvS G A (wW_J7_fill_53178 G N0 h0 e_a0)) (List.toArray [.ref h0, .int b1]) s 0 0 A) (F0 m 5 ls []) := by
    intro c5_1 c5_3 n5
    induction n5 with
    | zero =>
      intro u5_2 a0_5 hf
      cases hf
    | succ n5 ih5 =>
      intro u5_2 a0_5 hf H locs hP hD hS ls hl
      have hf : p_J7_fill_53178_L5b F N0 c5_1 c5_3 (p_J7_fill_53178_L5 F N0 c5_1 c5_3 n5) u5_2 a0_5 = some e_a0 := hf
      refine lv_iload_n hx hb dJ7_fill_53178_5 rfl (lv_at hl 2 rfl) ?_
      refine lv_iload_n hx hb dJ7_fill_53178_6 rfl (lv_at hl 3 rfl) ?_
      refine lv_icmp_ge (tgt := 20) hx hb dJ7_fill_53178_7 (by decide) (fun c1 => ?_) (fun c1 => ?_)
      · have hf := of_pos hf c1
        cases hf
        exact ret_v hx hb hr hlk hK hP hD hS dJ7_fill_53178_20
      · have hf := of_neg hf c1
        refine lv_aload_n hx hb dJ7_fill_53178_10 rfl (lv_at hl 0 rfl) ?_
        refine lv_iload_n hx hb dJ7_fill_53178_11 rfl (lv_at hl 2 rfl) ?_
        refine lv_iload_n hx hb dJ7_fill_53178_12 rfl (lv_at hl 1 rfl) ?_
        obtain ⟨g2, hf⟩ := of_grd hf
        refine va_iast hx hb hK hP hD hS 0 0 rfl rfl g2 dJ7_fill_53178_13 (fun H locs hP hD hS => ?_)
        have hP : va_P G.1 vwCl (wW_J7_fill_53178 G N0 h0 (upd a0_5 u5_2.toNatClampNeg c5_1)) H := hP
        have hD : va_D A (wW_J7_fill_53178 G N0 h0 (upd a0_5 u5_2.toNatClampNeg c5_1)) := hD
        refine lv_iinc (v := u5_2 + (1 : Int32)) (lv' := [(2, .int (u5_2 + (1 : Int32))), (0, .ref h0), (1, .int c5_1), (3, .int c5_3)]) hx hb dJ7_fill_53178_14 hl (k := 2) rfl (by rfl) (by decide) rfl (fun ls hl => ?_)
        refine lv_goto (tgt := 5) hx hb dJ7_fill_53178_17 (by decide) ?_
        exact ih5 _ _ hf _ _ hP hD hS _ (lv_sub hl [1, 2, 0, 3] rfl)
  refine lv_iconst (v := (0 : Int32)) hx hb dJ7_fill_53178_0 (by decide) ?_
  refine lv_istore_n (lv' := [(2, .int (0 : Int32)), (0, .ref h0), (1, .int b1)]) hx hb dJ7_fill_53178_1 rfl hl (by decide) rfl (fun ls hl => ?_)
  refine lv_aload_n hx hb dJ7_fill_53178_2 rfl (lv_at hl 1 rfl) ?_
  refine va_alen (v := (Int32.ofNat N0)) hx hb hK hP 0 0 rfl rfl rfl dJ7_fill_53178_3 ?_
  refine lv_istore_n (lv' := [(3, .int (Int32.ofNat N0)), (2, .int (0 : Int32)), (0, .ref h0), (1, .int b1)]) hx hb dJ7_fill_53178_4 rfl hl (by decide) rfl (fun ls hl => ?_)
  exact kL5 _ _ _ _ _ hf _ _ hP hD hS _ (lv_sub hl [2, 3, 1, 0] rfl)
theorem yk_J7_fill_53178 : ykS yJ7_fill_53178 cJ7_fill_53178 4 none 2 := ⟨wd_506, wd_139, wd_507, by decide +kernel, by decide +kernel, by decide +kernel⟩
