theorem dX5_countPlainGates_0 : decode cX5_countPlainGates 0 = .ok (.iconst 0, 1) := by decide +kernel
theorem dX5_countPlainGates_1 : decode cX5_countPlainGates 1 = .ok (.istore_n 2, 1) := by decide +kernel
theorem dX5_countPlainGates_2 : decode cX5_countPlainGates 2 = .ok (.iconst 0, 1) := by decide +kernel
theorem dX5_countPlainGates_3 : decode cX5_countPlainGates 3 = .ok (.istore_n 3, 1) := by decide +kernel
theorem dX5_countPlainGates_4 : decode cX5_countPlainGates 4 = .ok (.iload_n 3, 1) := by decide +kernel
theorem dX5_countPlainGates_5 : decode cX5_countPlainGates 5 = .ok (.aload_n 1, 1) := by decide +kernel
theorem dX5_countPlainGates_6 : decode cX5_countPlainGates 6 = .ok (.getfield 30, 3) := by decide +kernel
theorem dX5_countPlainGates_9 : decode cX5_countPlainGates 9 = .ok (.if_icmp .ge 23, 3) := by decide +kernel
theorem dX5_countPlainGates_12 : decode cX5_countPlainGates 12 = .ok (.iload_n 2, 1) := by decide +kernel
theorem dX5_countPlainGates_13 : decode cX5_countPlainGates 13 = .ok (.iconst 0, 1) := by decide +kernel
theorem dX5_countPlainGates_14 : decode cX5_countPlainGates 14 = .ok (.aload_n 1, 1) := by decide +kernel
theorem dX5_countPlainGates_15 : decode cX5_countPlainGates 15 = .ok (.iload_n 3, 1) := by decide +kernel
theorem dX5_countPlainGates_16 : decode cX5_countPlainGates 16 = .ok (.invokevirtual 36, 3) := by decide +kernel
theorem dX5_countPlainGates_19 : decode cX5_countPlainGates 19 = .ok (.iconst 1, 1) := by decide +kernel
theorem dX5_countPlainGates_20 : decode cX5_countPlainGates 20 = .ok (.isub, 1) := by decide +kernel
theorem dX5_countPlainGates_21 : decode cX5_countPlainGates 21 = .ok (.invokestatic 40, 3) := by decide +kernel
theorem dX5_countPlainGates_24 : decode cX5_countPlainGates 24 = .ok (.iadd, 1) := by decide +kernel
theorem dX5_countPlainGates_25 : decode cX5_countPlainGates 25 = .ok (.istore_n 2, 1) := by decide +kernel
theorem dX5_countPlainGates_26 : decode cX5_countPlainGates 26 = .ok (.iinc 3 1, 3) := by decide +kernel
theorem dX5_countPlainGates_29 : decode cX5_countPlainGates 29 = .ok (.goto (-25), 3) := by decide +kernel
theorem dX5_countPlainGates_32 : decode cX5_countPlainGates 32 = .ok (.iload_n 2, 1) := by decide +kernel
theorem dX5_countPlainGates_33 : decode cX5_countPlainGates 33 = .ok (.ireturn, 1) := by decide +kernel
def wW_X5_countPlainGates (G : GG) (h0 h1 y0_4 y0_5 : Nat) (x0_0 : Int32) (x0_1 : Int32) (x0_2 : Int32) (a1 : Nat → Int32) : va_W := [(h0, .inr (1, [.int x0_0, .int x0_1, .int x0_2, .ref h1, .ref y0_4, .ref y0_5])), (h1, .inl (G.2.1, 32, .inl a1))]
set_option maxHeartbeats 4000000 in
set_option maxRecDepth 100000 in
theorem c_X5_countPlainGates (l : Launch) (G : GG) (g_t h0 h1 y0_4 y0_5 : Nat) (sz : Nat) (x0_0 : Int32) (x0_1 : Int32) (x0_2 : Int32) (a1 : Nat → Int32) (F : Nat)   (r0 : Int32) (hf : p_X5_countPlainGates F x0_0 x0_1 a1  = some r0) : Met l yX5_countPlainGates (.code yX5_countPlainGates cX5_countPlainGates 4 (some .int) :: gtbl) ({ frames := 1, cells := 0, slots := 0, locals := 23 } : Room) (PcS G [.ref g_t, .ref h0] (wW_X5_countPlainGates G h0 h1 y0_4 y0_5 x0_0 x0_1 x0_2 a1) sz) (QiS G r0 (va_A (wW_X5_countPlainGates G h0 h1 y0_4 y0_5 x0_0 x0_1 x0_2 a1) sz) (wW_X5_countPlainGates G h0 h1 y0_4 y0_5 x0_0 x0_1 x0_2 a1)) 0 0 (va_A (wW_X5_countPlainGates G h0 h1 y0_4 y0_5 x0_0 x0_1 x0_2 a1) sz) := by
  refine met_start (by decide) (Nat.le_of_ble_eq_true rfl) ?_
  intro p e s m below meth c hC hr hlk hnm hK hP hD hA hS hX ls hl
  obtain ⟨hx, hb, hml, hown, ht0⟩ := hC
  have hown : s.vm.findClass RX5 = some m.cls := hown
  generalize va_A (wW_X5_countPlainGates G h0 h1 y0_4 y0_5 x0_0 x0_1 x0_2 a1) sz = A at hD hA hS hX ⊢
  have hl : lv_has ls 4 [(0, .ref g_t), (1, .ref h0)] := hl
  have hf : p_X5_countPlainGates F x0_0 x0_1 a1  = some r0 := hf
  have kL4 : ∀ (n4 : Nat) (u4_2 : Int32) (u4_3 : Int32), p_X5_countPlainGates_L4 F x0_0 x0_1 a1 n4 u4_2 u4_3 = some r0 → ∀ (H : Heap) (locs : List Loc), va_P G.1 vwCl (wW_X5_countPlainGates G h0 h1 y0_4 y0_5 x0_0 x0_1 x0_2 a1) H → va_D A (wW_X5_countPlainGates G h0 h1 y0_4 y0_5 x0_0 x0_1 x0_2 a1) → va_S A s.heap H locs → ∀ ls : Array Slot, lv_has ls 4 [(1, .ref h0), (2, .int u4_2), (3, .int u4_3)] → W p l e ({ frames := 1, cells := 0, slots := 0, locals := 23 } : Room) s m (List.toArray [.ref g_t, .ref h0]) below meth c H locs 0 0 (MQ below (QiS G r0 A (wW_X5_countPlainGates G h0 h1 y0_4 y0_5 x0_0 x0_1 x0_2 a1)) (List.toArray [.ref g_t, .ref h0]) s 0 0 A) (F0 m 4 ls []) := by
    intro n4
    induction n4 with
    | zero =>
      intro u4_2 u4_3 hf
      cases hf
    | succ n4 ih4 =>
      intro u4_2 u4_3 hf H locs hP hD hS ls hl
      have hf : p_X5_countPlainGates_L4b F x0_0 x0_1 a1 (p_X5_countPlainGates_L4 F x0_0 x0_1 a1 n4) u4_2 u4_3 = some r0 := hf
      refine lv_iload_n hx hb dX5_countPlainGates_4 rfl (lv_at hl 2 rfl) ?_
      refine lv_aload_n hx hb dX5_countPlainGates_5 rfl (lv_at hl 0 rfl) ?_
      refine va_get (ci := 1) (v := .int x0_1) (C := RX1) (T := TX1) (N := 6) hx hb ht0 iX1 hown hK hP 0 rfl rfl 1 (by decide) (ht0 _ wd_217) (fun _ h9 => h9) rfl dX5_countPlainGates_6 ?_
      refine lv_icmp_ge (tgt := 32) hx hb dX5_countPlainGates_9 (by decide) (fun c1 => ?_) (fun c1 => ?_)
      · have hf := of_pos hf c1
        refine lv_iload_n hx hb dX5_countPlainGates_32 rfl (lv_at hl 1 rfl) ?_
        cases hf
        exact ret_i hx hb hr hlk hK hP hD hS dX5_countPlainGates_33
      · have hf := of_neg hf c1
        refine lv_iload_n hx hb dX5_countPlainGates_12 rfl (lv_at hl 1 rfl) ?_
        refine lv_iconst (v := (0 : Int32)) hx hb dX5_countPlainGates_13 (by decide) ?_
        refine lv_aload_n hx hb dX5_countPlainGates_14 rfl (lv_at hl 0 rfl) ?_
        refine lv_iload_n hx hb dX5_countPlainGates_15 rfl (lv_at hl 2 rfl) ?_
        obtain ⟨r_16_1, hc_r_16_1, hf⟩ := of_bnd hf
        refine cl_Vi (w2 := (wW_X5_countPlainGates G h0 h1 y0_4 y0_5 x0_0 x0_1 x0_2 a1)) (As := [.int u4_3]) (rest := [.int (0 : Int32), .int u4_2]) ⟨hx, hb, hml, hown, ht0⟩ (c_X1_wiresOf l G h0 h1 y0_4 y0_5 _ x0_0 x0_1 x0_2 a1 F u4_3 _ hc_r_16_1) yk_X1_wiresOf wd_1121 ⟨rfl, rfl, by decide, by decide⟩ ⟨Nat.le_refl _, Nat.le_refl _⟩ hX hK hP hD hS hA [0, 1] [] [0, 1] (va_recv hK hP (ci := 1) (q0 := 0) rfl rfl) rfl rfl (by decide) rfl rfl rfl rfl rfl hl.1 rfl (Nat.le_of_ble_eq_true rfl) dX5_countPlainGates_16 (fun H locs hP hD hS => ?_)
        refine lv_iconst (v := (1 : Int32)) hx hb dX5_countPlainGates_19 (by decide) ?_
        refine lv_isub hx hb dX5_countPlainGates_20 ?_
        refine va_mmax hx hb (by rw [hml]; exact hl.1.symm) hown (ht0 _ wd_1122) (ht0 _ wd_517) (ht0 _ wd_140) (ht0 _ wd_518) (by decide) (Nat.le_of_ble_eq_true rfl) (Nat.zero_le _) (Nat.zero_le _) dX5_countPlainGates_21 ?_
        refine lv_iadd hx hb dX5_countPlainGates_24 ?_
        refine lv_topi (fun z3 ez3 => ?_)
        have hf := of_jlet hf ez3
        refine lv_istore_n (lv' := [(2, .int z3), (1, .ref h0), (3, .int u4_3)]) hx hb dX5_countPlainGates_25 rfl hl (by decide) rfl (fun ls hl => ?_)
        refine lv_iinc (v := u4_3 + (1 : Int32)) (lv' := [(3, .int (u4_3 + (1 : Int32))), (2, .int z3), (1, .ref h0)]) hx hb dX5_countPlainGates_26 hl (k := 2) rfl (by rfl) (by decide) rfl (fun ls hl => ?_)
        refine lv_goto (tgt := 4) hx hb dX5_countPlainGates_29 (by decide) ?_
        exact ih4 _ _ hf _ _ hP hD hS _ (lv_sub hl [2, 1, 0] rfl)
  refine lv_iconst (v := (0 : Int32)) hx hb dX5_countPlainGates_0 (by decide) ?_
  refine lv_istore_n (lv' := [(2, .int (0 : Int32)), (0, .ref g_t), (1, .ref h0)]) hx hb dX5_countPlainGates_1 rfl hl (by decide) rfl (fun ls hl => ?_)
  refine lv_iconst (v := (0 : Int32)) hx hb dX5_countPlainGates_2 (by decide) ?_
  refine lv_istore_n (lv' := [(3, .int (0 : Int32)), (2, .int (0 : Int32)), (0, .ref g_t), (1, .ref h0)]) hx hb dX5_countPlainGates_3 rfl hl (by decide) rfl (fun ls hl => ?_)
  exact kL4 _ _ _ hf _ _ hP hD hS _ (lv_sub hl [3, 1, 0] rfl)
theorem yk_X5_countPlainGates : ykV yX5_countPlainGates RX5 cX5_countPlainGates 4 (some .int) 1 := ⟨wd_1118, wd_1119, wd_137, wd_1120, rfl, by decide +kernel, by decide +kernel, by decide +kernel⟩
theorem dX5_addSignal_0 : decode cX5_addSignal 0 = .ok (.aload_n 0, 1) := by decide +kernel
theorem dX5_addSignal_1 : decode cX5_addSignal 1 = .ok (.getfield 11, 3) := by decide +kernel
theorem dX5_addSignal_4 : decode cX5_addSignal 4 = .ok (.iload_n 1, 1) := by decide +kernel
theorem dX5_addSignal_5 : decode cX5_addSignal 5 = .ok (.iaload, 1) := by decide +kernel
theorem dX5_addSignal_6 : decode cX5_addSignal 6 = .ok (.aload_n 0, 1) := by decide +kernel
theorem dX5_addSignal_7 : decode cX5_addSignal 7 = .ok (.getfield 11, 3) := by decide +kernel
theorem dX5_addSignal_10 : decode cX5_addSignal 10 = .ok (.iload_n 2, 1) := by decide +kernel
theorem dX5_addSignal_11 : decode cX5_addSignal 11 = .ok (.iaload, 1) := by decide +kernel
theorem dX5_addSignal_12 : decode cX5_addSignal 12 = .ok (.iand, 1) := by decide +kernel
theorem dX5_addSignal_13 : decode cX5_addSignal 13 = .ok (.istore 4, 2) := by decide +kernel
theorem dX5_addSignal_15 : decode cX5_addSignal 15 = .ok (.aload_n 0, 1) := by decide +kernel
theorem dX5_addSignal_16 : decode cX5_addSignal 16 = .ok (.getfield 11, 3) := by decide +kernel
theorem dX5_addSignal_19 : decode cX5_addSignal 19 = .ok (.aload_n 0, 1) := by decide +kernel
theorem dX5_addSignal_20 : decode cX5_addSignal 20 = .ok (.getfield 51, 3) := by decide +kernel
theorem dX5_addSignal_23 : decode cX5_addSignal 23 = .ok (.iload 4, 2) := by decide +kernel
theorem dX5_addSignal_25 : decode cX5_addSignal 25 = .ok (.iastore, 1) := by decide +kernel
theorem dX5_addSignal_26 : decode cX5_addSignal 26 = .ok (.aload_n 0, 1) := by decide +kernel
theorem dX5_addSignal_27 : decode cX5_addSignal 27 = .ok (.getfield 11, 3) := by decide +kernel
theorem dX5_addSignal_30 : decode cX5_addSignal 30 = .ok (.iload_n 1, 1) := by decide +kernel
theorem dX5_addSignal_31 : decode cX5_addSignal 31 = .ok (.dup2, 1) := by decide +kernel
theorem dX5_addSignal_32 : decode cX5_addSignal 32 = .ok (.iaload, 1) := by decide +kernel
theorem dX5_addSignal_33 : decode cX5_addSignal 33 = .ok (.iload 4, 2) := by decide +kernel
theorem dX5_addSignal_35 : decode cX5_addSignal 35 = .ok (.iconst (-1), 1) := by decide +kernel
theorem dX5_addSignal_36 : decode cX5_addSignal 36 = .ok (.ixor, 1) := by decide +kernel
theorem dX5_addSignal_37 : decode cX5_addSignal 37 = .ok (.iand, 1) := by decide +kernel
theorem dX5_addSignal_38 : decode cX5_addSignal 38 = .ok (.iastore, 1) := by decide +kernel
theorem dX5_addSignal_39 : decode cX5_addSignal 39 = .ok (.aload_n 0, 1) := by decide +kernel
theorem dX5_addSignal_40 : decode cX5_addSignal 40 = .ok (.getfield 11, 3) := by decide +kernel
theorem dX5_addSignal_43 : decode cX5_addSignal 43 = .ok (.iload_n 2, 1) := by decide +kernel
theorem dX5_addSignal_44 : decode cX5_addSignal 44 = .ok (.dup2, 1) := by decide +kernel
theorem dX5_addSignal_45 : decode cX5_addSignal 45 = .ok (.iaload, 1) := by decide +kernel
theorem dX5_addSignal_46 : decode cX5_addSignal 46 = .ok (.iload 4, 2) := by decide +kernel
theorem dX5_addSignal_48 : decode cX5_addSignal 48 = .ok (.iconst (-1), 1) := by decide +kernel
theorem dX5_addSignal_49 : decode cX5_addSignal 49 = .ok (.ixor, 1) := by decide +kernel
theorem dX5_addSignal_50 : decode cX5_addSignal 50 = .ok (.iand, 1) := by decide +kernel
theorem dX5_addSignal_51 : decode cX5_addSignal 51 = .ok (.iastore, 1) := by decide +kernel
theorem dX5_addSignal_52 : decode cX5_addSignal 52 = .ok (.aload_n 0, 1) := by decide +kernel
theorem dX5_addSignal_53 : decode cX5_addSignal 53 = .ok (.getfield 15, 3) := by decide +kernel
theorem dX5_addSignal_56 : decode cX5_addSignal 56 = .ok (.aload_n 0, 1) := by decide +kernel
theorem dX5_addSignal_57 : decode cX5_addSignal 57 = .ok (.getfield 51, 3) := by decide +kernel
theorem dX5_addSignal_60 : decode cX5_addSignal 60 = .ok (.aload_n 0, 1) := by decide +kernel
theorem dX5_addSignal_61 : decode cX5_addSignal 61 = .ok (.getfield 15, 3) := by decide +kernel
theorem dX5_addSignal_64 : decode cX5_addSignal 64 = .ok (.iload_n 1, 1) := by decide +kernel
theorem dX5_addSignal_65 : decode cX5_addSignal 65 = .ok (.iaload, 1) := by decide +kernel
theorem dX5_addSignal_66 : decode cX5_addSignal 66 = .ok (.aload_n 0, 1) := by decide +kernel
theorem dX5_addSignal_67 : decode cX5_addSignal 67 = .ok (.getfield 15, 3) := by decide +kernel
theorem dX5_addSignal_70 : decode cX5_addSignal 70 = .ok (.iload_n 2, 1) := by decide +kernel
theorem dX5_addSignal_71 : decode cX5_addSignal 71 = .ok (.iaload, 1) := by decide +kernel
theorem dX5_addSignal_72 : decode cX5_addSignal 72 = .ok (.invokestatic 40, 3) := by decide +kernel
theorem dX5_addSignal_75 : decode cX5_addSignal 75 = .ok (.iconst 1, 1) := by decide +kernel
theorem dX5_addSignal_76 : decode cX5_addSignal 76 = .ok (.iadd, 1) := by decide +kernel
theorem dX5_addSignal_77 : decode cX5_addSignal 77 = .ok (.iastore, 1) := by decide +kernel
theorem dX5_addSignal_78 : decode cX5_addSignal 78 = .ok (.aload_n 0, 1) := by decide +kernel
theorem dX5_addSignal_79 : decode cX5_addSignal 79 = .ok (.getfield 18, 3) := by decide +kernel
theorem dX5_addSignal_82 : decode cX5_addSignal 82 = .ok (.aload_n 0, 1) := by decide +kernel
theorem dX5_addSignal_83 : decode cX5_addSignal 83 = .ok (.getfield 51, 3) := by decide +kernel
theorem dX5_addSignal_86 : decode cX5_addSignal 86 = .ok (.iload_n 1, 1) := by decide +kernel
theorem dX5_addSignal_87 : decode cX5_addSignal 87 = .ok (.iastore, 1) := by decide +kernel
theorem dX5_addSignal_88 : decode cX5_addSignal 88 = .ok (.aload_n 0, 1) := by decide +kernel
theorem dX5_addSignal_89 : decode cX5_addSignal 89 = .ok (.getfield 21, 3) := by decide +kernel
theorem dX5_addSignal_92 : decode cX5_addSignal 92 = .ok (.aload_n 0, 1) := by decide +kernel
theorem dX5_addSignal_93 : decode cX5_addSignal 93 = .ok (.getfield 51, 3) := by decide +kernel
theorem dX5_addSignal_96 : decode cX5_addSignal 96 = .ok (.iload_n 2, 1) := by decide +kernel
theorem dX5_addSignal_97 : decode cX5_addSignal 97 = .ok (.iastore, 1) := by decide +kernel
theorem dX5_addSignal_98 : decode cX5_addSignal 98 = .ok (.aload_n 0, 1) := by decide +kernel
theorem dX5_addSignal_99 : decode cX5_addSignal 99 = .ok (.getfield 24, 3) := by decide +kernel
theorem dX5_addSignal_102 : decode cX5_addSignal 102 = .ok (.aload_n 0, 1) := by decide +kernel
theorem dX5_addSignal_103 : decode cX5_addSignal 103 = .ok (.getfield 51, 3) := by decide +kernel
theorem dX5_addSignal_106 : decode cX5_addSignal 106 = .ok (.iload_n 3, 1) := by decide +kernel
theorem dX5_addSignal_107 : decode cX5_addSignal 107 = .ok (.iastore, 1) := by decide +kernel
theorem dX5_addSignal_108 : decode cX5_addSignal 108 = .ok (.aload_n 0, 1) := by decide +kernel
theorem dX5_addSignal_109 : decode cX5_addSignal 109 = .ok (.dup, 1) := by decide +kernel
theorem dX5_addSignal_110 : decode cX5_addSignal 110 = .ok (.getfield 51, 3) := by decide +kernel
theorem dX5_addSignal_113 : decode cX5_addSignal 113 = .ok (.iconst 1, 1) := by decide +kernel
theorem dX5_addSignal_114 : decode cX5_addSignal 114 = .ok (.iadd, 1) := by decide +kernel
theorem dX5_addSignal_115 : decode cX5_addSignal 115 = .ok (.putfield 51, 3) := by decide +kernel
theorem dX5_addSignal_118 : decode cX5_addSignal 118 = .ok (.return_, 1) := by decide +kernel
def wW_X5_addSignal (G : GG) (h0 h1 h2 h3 h4 h5 y0_5 : Nat) (x0_6 : Int32) (x0_7 : Int32) (x0_8 : Int32) (a1 : Nat → Int32) (a2 : Nat → Int32) (a3 : Nat → Int32) (a4 : Nat → Int32) (a5 : Nat → Int32) : va_W := [(h0, .inr (5, [.ref h1, .ref h2, .ref h3, .ref h4, .ref h5, .ref y0_5, .int x0_6, .int x0_7, .int x0_8])), (h1, .inl (G.2.1, 128, .inl a1)), (h2, .inl (G.2.1, 128, .inl a2)), (h3, .inl (G.2.1, 128, .inl a3)), (h4, .inl (G.2.1, 128, .inl a4)), (h5, .inl (G.2.1, 128, .inl a5))]
set_option maxHeartbeats 4000000 in
set_option maxRecDepth 100000 in
theorem c_X5_addSignal (l : Launch) (G : GG) (h0 h1 h2 h3 h4 h5 y0_5 : Nat) (sz : Nat) (x0_6 : Int32) (x0_7 : Int32) (x0_8 : Int32) (a1 : Nat → Int32) (a2 : Nat → Int32) (a3 : Nat → Int32) (a4 : Nat → Int32) (a5 : Nat → Int32) (F : Nat) (b1 : Int32) (b2 : Int32) (b3 : Int32)  (e_x0_8 : Int32) (e_a1 : Nat → Int32) (e_a2 : Nat → Int32) (e_a3 : Nat → Int32) (e_a4 : Nat → Int32) (e_a5 : Nat → Int32) (hf : p_X5_addSignal F x0_8 a1 a2 a3 a4 a5 b1 b2 b3 = some (e_x0_8, e_a1, e_a2, e_a3, e_a4, e_a5)) : Met l yX5_addSignal (.code yX5_addSignal cX5_addSignal 5 none :: gtbl) ({ frames := 1, cells := 0, slots := 0, locals := 21 } : Room) (PcS G [.ref h0, .int b1, .int b2, .int b3] (wW_X5_addSignal G h0 h1 h2 h3 h4 h5 y0_5 x0_6 x0_7 x0_8 a1 a2 a3 a4 a5) sz) (QvS G (va_A (wW_X5_addSignal G h0 h1 h2 h3 h4 h5 y0_5 x0_6 x0_7 x0_8 a1 a2 a3 a4 a5) sz) (wW_X5_addSignal G h0 h1 h2 h3 h4 h5 y0_5 x0_6 x0_7 e_x0_8 e_a1 e_a2 e_a3 e_a4 e_a5)) 0 0 (va_A (wW_X5_addSignal G h0 h1 h2 h3 h4 h5 y0_5 x0_6 x0_7 x0_8 a1 a2 a3 a4 a5) sz) := by
  refine met_start (by decide) (Nat.le_of_ble_eq_true rfl) ?_
  intro p e s m below meth c hC hr hlk hnm hK hP hD hA hS hX ls hl
  obtain ⟨hx, hb, hml, hown, ht0⟩ := hC
  have hown : s.vm.findClass RX5 = some m.cls := hown
  generalize va_A (wW_X5_addSignal G h0 h1 h2 h3 h4 h5 y0_5 x0_6 x0_7 x0_8 a1 a2 a3 a4 a5) sz = A at hD hA hS hX ⊢
  have hl : lv_has ls 5 [(0, .ref h0), (1, .int b1), (2, .int b2), (3, .int b3)] := hl
  have hf : p_X5_addSignal F x0_8 a1 a2 a3 a4 a5 b1 b2 b3 = some (e_x0_8, e_a1, e_a2, e_a3, e_a4, e_a5) := hf
  refine lv_aload_n hx hb dX5_addSignal_0 rfl (lv_at hl 0 rfl) ?_
  refine va_get (ci := 5) (v := .ref h1) (C := RX5) (T := TX5) (N := 9) hx hb ht0 iX5 hown hK hP 0 rfl rfl 0 (by decide) (ht0 _ wd_426) (fun _ h9 => h9) rfl dX5_addSignal_1 ?_
  refine lv_iload_n hx hb dX5_addSignal_4 rfl (lv_at hl 1 rfl) ?_
  obtain ⟨g1, hf⟩ := of_grd hf
  refine va_iald hx hb hK hP 1 0 rfl rfl g1 dX5_addSignal_5 ?_
  refine lv_aload_n hx hb dX5_addSignal_6 rfl (lv_at hl 0 rfl) ?_
  refine va_get (ci := 5) (v := .ref h1) (C := RX5) (T := TX5) (N := 9) hx hb ht0 iX5 hown hK hP 0 rfl rfl 0 (by decide) (ht0 _ wd_426) (fun _ h9 => h9) rfl dX5_addSignal_7 ?_
  refine lv_iload_n hx hb dX5_addSignal_10 rfl (lv_at hl 2 rfl) ?_
  obtain ⟨g2, hf⟩ := of_grd hf
  refine va_iald hx hb hK hP 1 0 rfl rfl g2 dX5_addSignal_11 ?_
  refine lv_iand hx hb dX5_addSignal_12 ?_
  refine lv_topi (fun z3 ez3 => ?_)
  have hf := of_jlet hf ez3
  refine lv_istore (lv' := [(4, .int z3), (0, .ref h0), (1, .int b1), (2, .int b2), (3, .int b3)]) hx hb dX5_addSignal_13 hl (by decide) rfl (fun ls hl => ?_)
  refine lv_aload_n hx hb dX5_addSignal_15 rfl (lv_at hl 1 rfl) ?_
  refine va_get (ci := 5) (v := .ref h1) (C := RX5) (T := TX5) (N := 9) hx hb ht0 iX5 hown hK hP 0 rfl rfl 0 (by decide) (ht0 _ wd_426) (fun _ h9 => h9) rfl dX5_addSignal_16 ?_
  refine lv_aload_n hx hb dX5_addSignal_19 rfl (lv_at hl 1 rfl) ?_
  refine va_get (ci := 5) (v := .int x0_8) (C := RX5) (T := TX5) (N := 9) hx hb ht0 iX5 hown hK hP 0 rfl rfl 8 (by decide) (ht0 _ wd_434) (fun _ h9 => h9) rfl dX5_addSignal_20 ?_
  refine lv_iload hx hb dX5_addSignal_23 (lv_at hl 0 rfl) ?_
  obtain ⟨g4, hf⟩ := of_grd hf
  refine va_iast hx hb hK hP hD hS 1 0 rfl rfl g4 dX5_addSignal_25 (fun H locs hP hD hS => ?_)
  have hP : va_P G.1 vwCl (wW_X5_addSignal G h0 h1 h2 h3 h4 h5 y0_5 x0_6 x0_7 x0_8 (upd a1 x0_8.toNatClampNeg z3) a2 a3 a4 a5) H := hP
  have hD : va_D A (wW_X5_addSignal G h0 h1 h2 h3 h4 h5 y0_5 x0_6 x0_7 x0_8 (upd a1 x0_8.toNatClampNeg z3) a2 a3 a4 a5) := hD
  refine lv_aload_n hx hb dX5_addSignal_26 rfl (lv_at hl 1 rfl) ?_
  refine va_get (ci := 5) (v := .ref h1) (C := RX5) (T := TX5) (N := 9) hx hb ht0 iX5 hown hK hP 0 rfl rfl 0 (by decide) (ht0 _ wd_426) (fun _ h9 => h9) rfl dX5_addSignal_27 ?_
  refine lv_iload_n hx hb dX5_addSignal_30 rfl (lv_at hl 2 rfl) ?_
  refine lv_dup2_11 hx hb dX5_addSignal_31 rfl rfl ?_
  obtain ⟨g5, hf⟩ := of_grd hf
  refine va_iald hx hb hK hP 1 0 rfl rfl g5 dX5_addSignal_32 ?_
  refine lv_iload hx hb dX5_addSignal_33 (lv_at hl 0 rfl) ?_
  refine lv_iconst (v := (-1 : Int32)) hx hb dX5_addSignal_35 (by decide) ?_
  refine lv_ixor hx hb dX5_addSignal_36 ?_
  refine lv_iand hx hb dX5_addSignal_37 ?_
  obtain ⟨g6, hf⟩ := of_grd hf
  refine va_iast hx hb hK hP hD hS 1 0 rfl rfl g6 dX5_addSignal_38 (fun H locs hP hD hS => ?_)
  have hP : va_P G.1 vwCl (wW_X5_addSignal G h0 h1 h2 h3 h4 h5 y0_5 x0_6 x0_7 x0_8 (upd (upd a1 x0_8.toNatClampNeg z3) b1.toNatClampNeg (((upd a1 x0_8.toNatClampNeg z3) b1.toNatClampNeg) &&& (z3 ^^^ (-1 : Int32)))) a2 a3 a4 a5) H := hP
  have hD : va_D A (wW_X5_addSignal G h0 h1 h2 h3 h4 h5 y0_5 x0_6 x0_7 x0_8 (upd (upd a1 x0_8.toNatClampNeg z3) b1.toNatClampNeg (((upd a1 x0_8.toNatClampNeg z3) b1.toNatClampNeg) &&& (z3 ^^^ (-1 : Int32)))) a2 a3 a4 a5) := hD
  refine lv_aload_n hx hb dX5_addSignal_39 rfl (lv_at hl 1 rfl) ?_
  refine va_get (ci := 5) (v := .ref h1) (C := RX5) (T := TX5) (N := 9) hx hb ht0 iX5 hown hK hP 0 rfl rfl 0 (by decide) (ht0 _ wd_426) (fun _ h9 => h9) rfl dX5_addSignal_40 ?_
  refine lv_iload_n hx hb dX5_addSignal_43 rfl (lv_at hl 3 rfl) ?_
  refine lv_dup2_11 hx hb dX5_addSignal_44 rfl rfl ?_
  obtain ⟨g7, hf⟩ := of_grd hf
  refine va_iald hx hb hK hP 1 0 rfl rfl g7 dX5_addSignal_45 ?_
  refine lv_iload hx hb dX5_addSignal_46 (lv_at hl 0 rfl) ?_
  refine lv_iconst (v := (-1 : Int32)) hx hb dX5_addSignal_48 (by decide) ?_
  refine lv_ixor hx hb dX5_addSignal_49 ?_
  refine lv_iand hx hb dX5_addSignal_50 ?_
  obtain ⟨g8, hf⟩ := of_grd hf
  refine va_iast hx hb hK hP hD hS 1 0 rfl rfl g8 dX5_addSignal_51 (fun H locs hP hD hS => ?_)
  have hP : va_P G.1 vwCl (wW_X5_addSignal G h0 h1 h2 h3 h4 h5 y0_5 x0_6 x0_7 x0_8 (upd (upd (upd a1 x0_8.toNatClampNeg z3) b1.toNatClampNeg (((upd a1 x0_8.toNatClampNeg z3) b1.toNatClampNeg) &&& (z3 ^^^ (-1 : Int32)))) b2.toNatClampNeg (((upd (upd a1 x0_8.toNatClampNeg z3) b1.toNatClampNeg (((upd a1 x0_8.toNatClampNeg z3) b1.toNatClampNeg) &&& (z3 ^^^ (-1 : Int32)))) b2.toNatClampNeg) &&& (z3 ^^^ (-1 : Int32)))) a2 a3 a4 a5) H := hP
  have hD : va_D A (wW_X5_addSignal G h0 h1 h2 h3 h4 h5 y0_5 x0_6 x0_7 x0_8 (upd (upd (upd a1 x0_8.toNatClampNeg z3) b1.toNatClampNeg (((upd a1 x0_8.toNatClampNeg z3) b1.toNatClampNeg) &&& (z3 ^^^ (-1 : Int32)))) b2.toNatClampNeg (((upd (upd a1 x0_8.toNatClampNeg z3) b1.toNatClampNeg (((upd a1 x0_8.toNatClampNeg z3) b1.toNatClampNeg) &&& (z3 ^^^ (-1 : Int32)))) b2.toNatClampNeg) &&& (z3 ^^^ (-1 : Int32)))) a2 a3 a4 a5) := hD
  refine lv_aload_n hx hb dX5_addSignal_52 rfl (lv_at hl 1 rfl) ?_
  refine va_get (ci := 5) (v := .ref h2) (C := RX5) (T := TX5) (N := 9) hx hb ht0 iX5 hown hK hP 0 rfl rfl 1 (by decide) (ht0 _ wd_427) (fun _ h9 => h9) rfl dX5_addSignal_53 ?_
  refine lv_aload_n hx hb dX5_addSignal_56 rfl (lv_at hl 1 rfl) ?_
  refine va_get (ci := 5) (v := .int x0_8) (C := RX5) (T := TX5) (N := 9) hx hb ht0 iX5 hown hK hP 0 rfl rfl 8 (by decide) (ht0 _ wd_434) (fun _ h9 => h9) rfl dX5_addSignal_57 ?_
  refine lv_aload_n hx hb dX5_addSignal_60 rfl (lv_at hl 1 rfl) ?_
  refine va_get (ci := 5) (v := .ref h2) (C := RX5) (T := TX5) (N := 9) hx hb ht0 iX5 hown hK hP 0 rfl rfl 1 (by decide) (ht0 _ wd_427) (fun _ h9 => h9) rfl dX5_addSignal_61 ?_
  refine lv_iload_n hx hb dX5_addSignal_64 rfl (lv_at hl 2 rfl) ?_
  obtain ⟨g9, hf⟩ := of_grd hf
  refine va_iald hx hb hK hP 2 0 rfl rfl g9 dX5_addSignal_65 ?_
  refine lv_aload_n hx hb dX5_addSignal_66 rfl (lv_at hl 1 rfl) ?_
  refine va_get (ci := 5) (v := .ref h2) (C := RX5) (T := TX5) (N := 9) hx hb ht0 iX5 hown hK hP 0 rfl rfl 1 (by decide) (ht0 _ wd_427) (fun _ h9 => h9) rfl dX5_addSignal_67 ?_
  refine lv_iload_n hx hb dX5_addSignal_70 rfl (lv_at hl 3 rfl) ?_
  obtain ⟨g10, hf⟩ := of_grd hf
  refine va_iald hx hb hK hP 2 0 rfl rfl g10 dX5_addSignal_71 ?_
  refine va_mmax hx hb (by rw [hml]; exact hl.1.symm) hown (ht0 _ wd_1122) (ht0 _ wd_517) (ht0 _ wd_140) (ht0 _ wd_518) (by decide) (Nat.le_of_ble_eq_true rfl) (Nat.zero_le _) (Nat.zero_le _) dX5_addSignal_72 ?_
  refine lv_iconst (v := (1 : Int32)) hx hb dX5_addSignal_75 (by decide) ?_
  refine lv_iadd hx hb dX5_addSignal_76 ?_
  obtain ⟨g11, hf⟩ := of_grd hf
  refine va_iast hx hb hK hP hD hS 2 0 rfl rfl g11 dX5_addSignal_77 (fun H locs hP hD hS => ?_)
  have hP : va_P G.1 vwCl (wW_X5_addSignal G h0 h1 h2 h3 h4 h5 y0_5 x0_6 x0_7 x0_8 (upd (upd (upd a1 x0_8.toNatClampNeg z3) b1.toNatClampNeg (((upd a1 x0_8.toNatClampNeg z3) b1.toNatClampNeg) &&& (z3 ^^^ (-1 : Int32)))) b2.toNatClampNeg (((upd (upd a1 x0_8.toNatClampNeg z3) b1.toNatClampNeg (((upd a1 x0_8.toNatClampNeg z3) b1.toNatClampNeg) &&& (z3 ^^^ (-1 : Int32)))) b2.toNatClampNeg) &&& (z3 ^^^ (-1 : Int32)))) (upd a2 x0_8.toNatClampNeg ((if a2 b1.toNatClampNeg < a2 b2.toNatClampNeg then a2 b2.toNatClampNeg else a2 b1.toNatClampNeg) + (1 : Int32))) a3 a4 a5) H := hP
  have hD : va_D A (wW_X5_addSignal G h0 h1 h2 h3 h4 h5 y0_5 x0_6 x0_7 x0_8 (upd (upd (upd a1 x0_8.toNatClampNeg z3) b1.toNatClampNeg (((upd a1 x0_8.toNatClampNeg z3) b1.toNatClampNeg) &&& (z3 ^^^ (-1 : Int32)))) b2.toNatClampNeg (((upd (upd a1 x0_8.toNatClampNeg z3) b1.toNatClampNeg (((upd a1 x0_8.toNatClampNeg z3) b1.toNatClampNeg) &&& (z3 ^^^ (-1 : Int32)))) b2.toNatClampNeg) &&& (z3 ^^^ (-1 : Int32)))) (upd a2 x0_8.toNatClampNeg ((if a2 b1.toNatClampNeg < a2 b2.toNatClampNeg then a2 b2.toNatClampNeg else a2 b1.toNatClampNeg) + (1 : Int32))) a3 a4 a5) := hD
  refine lv_aload_n hx hb dX5_addSignal_78 rfl (lv_at hl 1 rfl) ?_
  refine va_get (ci := 5) (v := .ref h3) (C := RX5) (T := TX5) (N := 9) hx hb ht0 iX5 hown hK hP 0 rfl rfl 2 (by decide) (ht0 _ wd_428) (fun _ h9 => h9) rfl dX5_addSignal_79 ?_
  refine lv_aload_n hx hb dX5_addSignal_82 rfl (lv_at hl 1 rfl) ?_
  refine va_get (ci := 5) (v := .int x0_8) (C := RX5) (T := TX5) (N := 9) hx hb ht0 iX5 hown hK hP 0 rfl rfl 8 (by decide) (ht0 _ wd_434) (fun _ h9 => h9) rfl dX5_addSignal_83 ?_
  refine lv_iload_n hx hb dX5_addSignal_86 rfl (lv_at hl 2 rfl) ?_
  obtain ⟨g12, hf⟩ := of_grd hf
  refine va_iast hx hb hK hP hD hS 3 0 rfl rfl g12 dX5_addSignal_87 (fun H locs hP hD hS => ?_)
  have hP : va_P G.1 vwCl (wW_X5_addSignal G h0 h1 h2 h3 h4 h5 y0_5 x0_6 x0_7 x0_8 (upd (upd (upd a1 x0_8.toNatClampNeg z3) b1.toNatClampNeg (((upd a1 x0_8.toNatClampNeg z3) b1.toNatClampNeg) &&& (z3 ^^^ (-1 : Int32)))) b2.toNatClampNeg (((upd (upd a1 x0_8.toNatClampNeg z3) b1.toNatClampNeg (((upd a1 x0_8.toNatClampNeg z3) b1.toNatClampNeg) &&& (z3 ^^^ (-1 : Int32)))) b2.toNatClampNeg) &&& (z3 ^^^ (-1 : Int32)))) (upd a2 x0_8.toNatClampNeg ((if a2 b1.toNatClampNeg < a2 b2.toNatClampNeg then a2 b2.toNatClampNeg else a2 b1.toNatClampNeg) + (1 : Int32))) (upd a3 x0_8.toNatClampNeg b1) a4 a5) H := hP
  have hD : va_D A (wW_X5_addSignal G h0 h1 h2 h3 h4 h5 y0_5 x0_6 x0_7 x0_8 (upd (upd (upd a1 x0_8.toNatClampNeg z3) b1.toNatClampNeg (((upd a1 x0_8.toNatClampNeg z3) b1.toNatClampNeg) &&& (z3 ^^^ (-1 : Int32)))) b2.toNatClampNeg (((upd (upd a1 x0_8.toNatClampNeg z3) b1.toNatClampNeg (((upd a1 x0_8.toNatClampNeg z3) b1.toNatClampNeg) &&& (z3 ^^^ (-1 : Int32)))) b2.toNatClampNeg) &&& (z3 ^^^ (-1 : Int32)))) (upd a2 x0_8.toNatClampNeg ((if a2 b1.toNatClampNeg < a2 b2.toNatClampNeg then a2 b2.toNatClampNeg else a2 b1.toNatClampNeg) + (1 : Int32))) (upd a3 x0_8.toNatClampNeg b1) a4 a5) := hD
  refine lv_aload_n hx hb dX5_addSignal_88 rfl (lv_at hl 1 rfl) ?_
  refine va_get (ci := 5) (v := .ref h4) (C := RX5) (T := TX5) (N := 9) hx hb ht0 iX5 hown hK hP 0 rfl rfl 3 (by decide) (ht0 _ wd_429) (fun _ h9 => h9) rfl dX5_addSignal_89 ?_
  refine lv_aload_n hx hb dX5_addSignal_92 rfl (lv_at hl 1 rfl) ?_
  refine va_get (ci := 5) (v := .int x0_8) (C := RX5) (T := TX5) (N := 9) hx hb ht0 iX5 hown hK hP 0 rfl rfl 8 (by decide) (ht0 _ wd_434) (fun _ h9 => h9) rfl dX5_addSignal_93 ?_
  refine lv_iload_n hx hb dX5_addSignal_96 rfl (lv_at hl 3 rfl) ?_
  obtain ⟨g13, hf⟩ := of_grd hf
  refine va_iast hx hb hK hP hD hS 4 0 rfl rfl g13 dX5_addSignal_97 (fun H locs hP hD hS => ?_)
  have hP : va_P G.1 vwCl (wW_X5_addSignal G h0 h1 h2 h3 h4 h5 y0_5 x0_6 x0_7 x0_8 (upd (upd (upd a1 x0_8.toNatClampNeg z3) b1.toNatClampNeg (((upd a1 x0_8.toNatClampNeg z3) b1.toNatClampNeg) &&& (z3 ^^^ (-1 : Int32)))) b2.toNatClampNeg (((upd (upd a1 x0_8.toNatClampNeg z3) b1.toNatClampNeg (((upd a1 x0_8.toNatClampNeg z3) b1.toNatClampNeg) &&& (z3 ^^^ (-1 : Int32)))) b2.toNatClampNeg) &&& (z3 ^^^ (-1 : Int32)))) (upd a2 x0_8.toNatClampNeg ((if a2 b1.toNatClampNeg < a2 b2.toNatClampNeg then a2 b2.toNatClampNeg else a2 b1.toNatClampNeg) + (1 : Int32))) (upd a3 x0_8.toNatClampNeg b1) (upd a4 x0_8.toNatClampNeg b2) a5) H := hP
  have hD : va_D A (wW_X5_addSignal G h0 h1 h2 h3 h4 h5 y0_5 x0_6 x0_7 x0_8 (upd (upd (upd a1 x0_8.toNatClampNeg z3) b1.toNatClampNeg (((upd a1 x0_8.toNatClampNeg z3) b1.toNatClampNeg) &&& (z3 ^^^ (-1 : Int32)))) b2.toNatClampNeg (((upd (upd a1 x0_8.toNatClampNeg z3) b1.toNatClampNeg (((upd a1 x0_8.toNatClampNeg z3) b1.toNatClampNeg) &&& (z3 ^^^ (-1 : Int32)))) b2.toNatClampNeg) &&& (z3 ^^^ (-1 : Int32)))) (upd a2 x0_8.toNatClampNeg ((if a2 b1.toNatClampNeg < a2 b2.toNatClampNeg then a2 b2.toNatClampNeg else a2 b1.toNatClampNeg) + (1 : Int32))) (upd a3 x0_8.toNatClampNeg b1) (upd a4 x0_8.toNatClampNeg b2) a5) := hD
  refine lv_aload_n hx hb dX5_addSignal_98 rfl (lv_at hl 1 rfl) ?_
  refine va_get (ci := 5) (v := .ref h5) (C := RX5) (T := TX5) (N := 9) hx hb ht0 iX5 hown hK hP 0 rfl rfl 4 (by decide) (ht0 _ wd_430) (fun _ h9 => h9) rfl dX5_addSignal_99 ?_
  refine lv_aload_n hx hb dX5_addSignal_102 rfl (lv_at hl 1 rfl) ?_
  refine va_get (ci := 5) (v := .int x0_8) (C := RX5) (T := TX5) (N := 9) hx hb ht0 iX5 hown hK hP 0 rfl rfl 8 (by decide) (ht0 _ wd_434) (fun _ h9 => h9) rfl dX5_addSignal_103 ?_
  refine lv_iload_n hx hb dX5_addSignal_106 rfl (lv_at hl 4 rfl) ?_
  obtain ⟨g14, hf⟩ := of_grd hf
  refine va_iast hx hb hK hP hD hS 5 0 rfl rfl g14 dX5_addSignal_107 (fun H locs hP hD hS => ?_)
  have hP : va_P G.1 vwCl (wW_X5_addSignal G h0 h1 h2 h3 h4 h5 y0_5 x0_6 x0_7 x0_8 (upd (upd (upd a1 x0_8.toNatClampNeg z3) b1.toNatClampNeg (((upd a1 x0_8.toNatClampNeg z3) b1.toNatClampNeg) &&& (z3 ^^^ (-1 : Int32)))) b2.toNatClampNeg (((upd (upd a1 x0_8.toNatClampNeg z3) b1.toNatClampNeg (((upd a1 x0_8.toNatClampNeg z3) b1.toNatClampNeg) &&& (z3 ^^^ (-1 : Int32)))) b2.toNatClampNeg) &&& (z3 ^^^ (-1 : Int32)))) (upd a2 x0_8.toNatClampNeg ((if a2 b1.toNatClampNeg < a2 b2.toNatClampNeg then a2 b2.toNatClampNeg else a2 b1.toNatClampNeg) + (1 : Int32))) (upd a3 x0_8.toNatClampNeg b1) (upd a4 x0_8.toNatClampNeg b2) (upd a5 x0_8.toNatClampNeg b3)) H := hP
  have hD : va_D A (wW_X5_addSignal G h0 h1 h2 h3 h4 h5 y0_5 x0_6 x0_7 x0_8 (upd (upd (upd a1 x0_8.toNatClampNeg z3) b1.toNatClampNeg (((upd a1 x0_8.toNatClampNeg z3) b1.toNatClampNeg) &&& (z3 ^^^ (-1 : Int32)))) b2.toNatClampNeg (((upd (upd a1 x0_8.toNatClampNeg z3) b1.toNatClampNeg (((upd a1 x0_8.toNatClampNeg z3) b1.toNatClampNeg) &&& (z3 ^^^ (-1 : Int32)))) b2.toNatClampNeg) &&& (z3 ^^^ (-1 : Int32)))) (upd a2 x0_8.toNatClampNeg ((if a2 b1.toNatClampNeg < a2 b2.toNatClampNeg then a2 b2.toNatClampNeg else a2 b1.toNatClampNeg) + (1 : Int32))) (upd a3 x0_8.toNatClampNeg b1) (upd a4 x0_8.toNatClampNeg b2) (upd a5 x0_8.toNatClampNeg b3)) := hD
  refine lv_aload_n hx hb dX5_addSignal_108 rfl (lv_at hl 1 rfl) ?_
  refine lv_dup hx hb dX5_addSignal_109 rfl ?_
  refine va_get (ci := 5) (v := .int x0_8) (C := RX5) (T := TX5) (N := 9) hx hb ht0 iX5 hown hK hP 0 rfl rfl 8 (by decide) (ht0 _ wd_434) (fun _ h9 => h9) rfl dX5_addSignal_110 ?_
  refine lv_iconst (v := (1 : Int32)) hx hb dX5_addSignal_113 (by decide) ?_
  refine lv_iadd hx hb dX5_addSignal_114 ?_
  refine va_put (ci := 5) (v := .int (x0_8 + (1 : Int32))) (ty := .int) (C := RX5) (T := TX5) (N := 9) hx hb ht0 iX5 tyX5 tyX5_ok nmX5 hown hK hP hD hS 0 rfl rfl 8 (by decide) (ht0 _ wd_434) (fun _ h9 => h9) rfl rfl rfl rfl (Nat.le_of_ble_eq_true rfl) dX5_addSignal_115 (fun H locs hP hD hS => ?_)
  have hP : va_P G.1 vwCl (wW_X5_addSignal G h0 h1 h2 h3 h4 h5 y0_5 x0_6 x0_7 (x0_8 + (1 : Int32)) (upd (upd (upd a1 x0_8.toNatClampNeg z3) b1.toNatClampNeg (((upd a1 x0_8.toNatClampNeg z3) b1.toNatClampNeg) &&& (z3 ^^^ (-1 : Int32)))) b2.toNatClampNeg (((upd (upd a1 x0_8.toNatClampNeg z3) b1.toNatClampNeg (((upd a1 x0_8.toNatClampNeg z3) b1.toNatClampNeg) &&& (z3 ^^^ (-1 : Int32)))) b2.toNatClampNeg) &&& (z3 ^^^ (-1 : Int32)))) (upd a2 x0_8.toNatClampNeg ((if a2 b1.toNatClampNeg < a2 b2.toNatClampNeg then a2 b2.toNatClampNeg else a2 b1.toNatClampNeg) + (1 : Int32))) (upd a3 x0_8.toNatClampNeg b1) (upd a4 x0_8.toNatClampNeg b2) (upd a5 x0_8.toNatClampNeg b3)) H := hP
  have hD : va_D A (wW_X5_addSignal G h0 h1 h2 h3 h4 h5 y0_5 x0_6 x0_7 (x0_8 + (1 : Int32)) (upd (upd (upd a1 x0_8.toNatClampNeg z3) b1.toNatClampNeg (((upd a1 x0_8.toNatClampNeg z3) b1.toNatClampNeg) &&& (z3 ^^^ (-1 : Int32)))) b2.toNatClampNeg (((upd (upd a1 x0_8.toNatClampNeg z3) b1.toNatClampNeg (((upd a1 x0_8.toNatClampNeg z3) b1.toNatClampNeg) &&& (z3 ^^^ (-1 : Int32)))) b2.toNatClampNeg) &&& (z3 ^^^ (-1 : Int32)))) (upd a2 x0_8.toNatClampNeg ((if a2 b1.toNatClampNeg < a2 b2.toNatClampNeg then a2 b2.toNatClampNeg else a2 b1.toNatClampNeg) + (1 : Int32))) (upd a3 x0_8.toNatClampNeg b1) (upd a4 x0_8.toNatClampNeg b2) (upd a5 x0_8.toNatClampNeg b3)) := hD
  cases hf
  exact ret_v hx hb hr hlk hK hP hD hS dX5_addSignal_118
theorem yk_X5_addSignal : ykV yX5_addSignal RX5 cX5_addSignal 5 none 3 := ⟨wd_1134, wd_35, wd_137, wd_1135, rfl, by decide +kernel, by decide +kernel, by decide +kernel⟩
theorem dX5_joinMostShared_0 : decode cX5_joinMostShared 0 = .ok (.iconst 1, 1) := by decide +kernel
theorem dX5_joinMostShared_1 : decode cX5_joinMostShared 1 = .ok (.istore_n 1, 1) := by decide +kernel
theorem dX5_joinMostShared_2 : decode cX5_joinMostShared 2 = .ok (.iconst (-1), 1) := by decide +kernel
theorem dX5_joinMostShared_3 : decode cX5_joinMostShared 3 = .ok (.istore_n 2, 1) := by decide +kernel
theorem dX5_joinMostShared_4 : decode cX5_joinMostShared 4 = .ok (.iconst (-1), 1) := by decide +kernel
theorem dX5_joinMostShared_5 : decode cX5_joinMostShared 5 = .ok (.istore_n 3, 1) := by decide +kernel
theorem dX5_joinMostShared_6 : decode cX5_joinMostShared 6 = .ok (.iconst 0, 1) := by decide +kernel
theorem dX5_joinMostShared_7 : decode cX5_joinMostShared 7 = .ok (.istore 4, 2) := by decide +kernel
theorem dX5_joinMostShared_9 : decode cX5_joinMostShared 9 = .ok (.iload 4, 2) := by decide +kernel
theorem dX5_joinMostShared_11 : decode cX5_joinMostShared 11 = .ok (.aload_n 0, 1) := by decide +kernel
theorem dX5_joinMostShared_12 : decode cX5_joinMostShared 12 = .ok (.getfield 51, 3) := by decide +kernel
theorem dX5_joinMostShared_15 : decode cX5_joinMostShared 15 = .ok (.if_icmp .ge 82, 3) := by decide +kernel
theorem dX5_joinMostShared_18 : decode cX5_joinMostShared 18 = .ok (.aload_n 0, 1) := by decide +kernel
theorem dX5_joinMostShared_19 : decode cX5_joinMostShared 19 = .ok (.getfield 11, 3) := by decide +kernel
theorem dX5_joinMostShared_22 : decode cX5_joinMostShared 22 = .ok (.iload 4, 2) := by decide +kernel
theorem dX5_joinMostShared_24 : decode cX5_joinMostShared 24 = .ok (.iaload, 1) := by decide +kernel
theorem dX5_joinMostShared_25 : decode cX5_joinMostShared 25 = .ok (.invokestatic 61, 3) := by decide +kernel
theorem dX5_joinMostShared_28 : decode cX5_joinMostShared 28 = .ok (.iload_n 1, 1) := by decide +kernel
theorem dX5_joinMostShared_29 : decode cX5_joinMostShared 29 = .ok (.if_icmp .gt 6, 3) := by decide +kernel
theorem dX5_joinMostShared_32 : decode cX5_joinMostShared 32 = .ok (.goto 59, 3) := by decide +kernel
theorem dX5_joinMostShared_35 : decode cX5_joinMostShared 35 = .ok (.iload 4, 2) := by decide +kernel
theorem dX5_joinMostShared_37 : decode cX5_joinMostShared 37 = .ok (.iconst 1, 1) := by decide +kernel
theorem dX5_joinMostShared_38 : decode cX5_joinMostShared 38 = .ok (.iadd, 1) := by decide +kernel
theorem dX5_joinMostShared_39 : decode cX5_joinMostShared 39 = .ok (.istore 5, 2) := by decide +kernel
theorem dX5_joinMostShared_41 : decode cX5_joinMostShared 41 = .ok (.iload 5, 2) := by decide +kernel
theorem dX5_joinMostShared_43 : decode cX5_joinMostShared 43 = .ok (.aload_n 0, 1) := by decide +kernel
theorem dX5_joinMostShared_44 : decode cX5_joinMostShared 44 = .ok (.getfield 51, 3) := by decide +kernel
theorem dX5_joinMostShared_47 : decode cX5_joinMostShared 47 = .ok (.if_icmp .ge 44, 3) := by decide +kernel
theorem dX5_joinMostShared_50 : decode cX5_joinMostShared 50 = .ok (.aload_n 0, 1) := by decide +kernel
theorem dX5_joinMostShared_51 : decode cX5_joinMostShared 51 = .ok (.getfield 11, 3) := by decide +kernel
theorem dX5_joinMostShared_54 : decode cX5_joinMostShared 54 = .ok (.iload 4, 2) := by decide +kernel
theorem dX5_joinMostShared_56 : decode cX5_joinMostShared 56 = .ok (.iaload, 1) := by decide +kernel
theorem dX5_joinMostShared_57 : decode cX5_joinMostShared 57 = .ok (.aload_n 0, 1) := by decide +kernel
theorem dX5_joinMostShared_58 : decode cX5_joinMostShared 58 = .ok (.getfield 11, 3) := by decide +kernel
theorem dX5_joinMostShared_61 : decode cX5_joinMostShared 61 = .ok (.iload 5, 2) := by decide +kernel
theorem dX5_joinMostShared_63 : decode cX5_joinMostShared 63 = .ok (.iaload, 1) := by decide +kernel
theorem dX5_joinMostShared_64 : decode cX5_joinMostShared 64 = .ok (.iand, 1) := by decide +kernel
theorem dX5_joinMostShared_65 : decode cX5_joinMostShared 65 = .ok (.invokestatic 61, 3) := by decide +kernel
theorem dX5_joinMostShared_68 : decode cX5_joinMostShared 68 = .ok (.istore 6, 2) := by decide +kernel
theorem dX5_joinMostShared_70 : decode cX5_joinMostShared 70 = .ok (.iload 6, 2) := by decide +kernel
theorem dX5_joinMostShared_72 : decode cX5_joinMostShared 72 = .ok (.iload_n 1, 1) := by decide +kernel
theorem dX5_joinMostShared_73 : decode cX5_joinMostShared 73 = .ok (.if_icmp .le 12, 3) := by decide +kernel
theorem dX5_joinMostShared_76 : decode cX5_joinMostShared 76 = .ok (.iload 6, 2) := by decide +kernel
theorem dX5_joinMostShared_78 : decode cX5_joinMostShared 78 = .ok (.istore_n 1, 1) := by decide +kernel
theorem dX5_joinMostShared_79 : decode cX5_joinMostShared 79 = .ok (.iload 4, 2) := by decide +kernel
theorem dX5_joinMostShared_81 : decode cX5_joinMostShared 81 = .ok (.istore_n 2, 1) := by decide +kernel
theorem dX5_joinMostShared_82 : decode cX5_joinMostShared 82 = .ok (.iload 5, 2) := by decide +kernel
theorem dX5_joinMostShared_84 : decode cX5_joinMostShared 84 = .ok (.istore_n 3, 1) := by decide +kernel
theorem dX5_joinMostShared_85 : decode cX5_joinMostShared 85 = .ok (.iinc 5 1, 3) := by decide +kernel
theorem dX5_joinMostShared_88 : decode cX5_joinMostShared 88 = .ok (.goto (-47), 3) := by decide +kernel
theorem dX5_joinMostShared_91 : decode cX5_joinMostShared 91 = .ok (.iinc 4 1, 3) := by decide +kernel
theorem dX5_joinMostShared_94 : decode cX5_joinMostShared 94 = .ok (.goto (-85), 3) := by decide +kernel
theorem dX5_joinMostShared_97 : decode cX5_joinMostShared 97 = .ok (.iload_n 2, 1) := by decide +kernel
theorem dX5_joinMostShared_98 : decode cX5_joinMostShared 98 = .ok (.iconst (-1), 1) := by decide +kernel
theorem dX5_joinMostShared_99 : decode cX5_joinMostShared 99 = .ok (.if_icmp .eq 13, 3) := by decide +kernel
theorem dX5_joinMostShared_102 : decode cX5_joinMostShared 102 = .ok (.aload_n 0, 1) := by decide +kernel
theorem dX5_joinMostShared_103 : decode cX5_joinMostShared 103 = .ok (.getfield 51, 3) := by decide +kernel
theorem dX5_joinMostShared_106 : decode cX5_joinMostShared 106 = .ok (.sipush 128, 3) := by decide +kernel
theorem dX5_joinMostShared_109 : decode cX5_joinMostShared 109 = .ok (.if_icmp .lt 5, 3) := by decide +kernel
theorem dX5_joinMostShared_112 : decode cX5_joinMostShared 112 = .ok (.iconst 0, 1) := by decide +kernel
theorem dX5_joinMostShared_113 : decode cX5_joinMostShared 113 = .ok (.ireturn, 1) := by decide +kernel
theorem dX5_joinMostShared_114 : decode cX5_joinMostShared 114 = .ok (.aload_n 0, 1) := by decide +kernel
theorem dX5_joinMostShared_115 : decode cX5_joinMostShared 115 = .ok (.iload_n 2, 1) := by decide +kernel
theorem dX5_joinMostShared_116 : decode cX5_joinMostShared 116 = .ok (.iload_n 3, 1) := by decide +kernel
theorem dX5_joinMostShared_117 : decode cX5_joinMostShared 117 = .ok (.iload_n 1, 1) := by decide +kernel
theorem dX5_joinMostShared_118 : decode cX5_joinMostShared 118 = .ok (.invokevirtual 66, 3) := by decide +kernel
theorem dX5_joinMostShared_121 : decode cX5_joinMostShared 121 = .ok (.iconst 1, 1) := by decide +kernel
theorem dX5_joinMostShared_122 : decode cX5_joinMostShared 122 = .ok (.ireturn, 1) := by decide +kernel
def wW_X5_joinMostShared (G : GG) (h0 h1 h2 h3 h4 h5 y0_5 : Nat) (x0_6 : Int32) (x0_7 : Int32) (x0_8 : Int32) (a1 : Nat → Int32) (a2 : Nat → Int32) (a3 : Nat → Int32) (a4 : Nat → Int32) (a5 : Nat → Int32) : va_W := [(h0, .inr (5, [.ref h1, .ref h2, .ref h3, .ref h4, .ref h5, .ref y0_5, .int x0_6, .int x0_7, .int x0_8])), (h1, .inl (G.2.1, 128, .inl a1)), (h2, .inl (G.2.1, 128, .inl a2)), (h3, .inl (G.2.1, 128, .inl a3)), (h4, .inl (G.2.1, 128, .inl a4)), (h5, .inl (G.2.1, 128, .inl a5))]
set_option maxHeartbeats 4000000 in
set_option maxRecDepth 100000 in
theorem c_X5_joinMostShared (l : Launch) (G : GG) (h0 h1 h2 h3 h4 h5 y0_5 : Nat) (sz : Nat) (x0_6 : Int32) (x0_7 : Int32) (x0_8 : Int32) (a1 : Nat → Int32) (a2 : Nat → Int32) (a3 : Nat → Int32) (a4 : Nat → Int32) (a5 : Nat → Int32) (F : Nat)   (r0 : Int32) (e_x0_8 : Int32) (e_a1 : Nat → Int32) (e_a2 : Nat → Int32) (e_a3 : Nat → Int32) (e_a4 : Nat → Int32) (e_a5 : Nat → Int32) (hf : p_X5_joinMostShared F x0_8 a1 a2 a3 a4 a5  = some (r0, e_x0_8, e_a1, e_a2, e_a3, e_a4, e_a5)) : Met l yX5_joinMostShared (.code yX5_joinMostShared cX5_joinMostShared 7 (some .boolean) :: gtbl) ({ frames := 2, cells := 0, slots := 0, locals := 45 } : Room) (PcS G [.ref h0] (wW_X5_joinMostShared G h0 h1 h2 h3 h4 h5 y0_5 x0_6 x0_7 x0_8 a1 a2 a3 a4 a5) sz) (QiS G r0 (va_A (wW_X5_joinMostShared G h0 h1 h2 h3 h4 h5 y0_5 x0_6 x0_7 x0_8 a1 a2 a3 a4 a5) sz) (wW_X5_joinMostShared G h0 h1 h2 h3 h4 h5 y0_5 x0_6 x0_7 e_x0_8 e_a1 e_a2 e_a3 e_a4 e_a5)) 0 0 (va_A (wW_X5_joinMostShared G h0 h1 h2 h3 h4 h5 y0_5 x0_6 x0_7 x0_8 a1 a2 a3 a4 a5) sz) := by
  refine met_start (by decide) (Nat.le_of_ble_eq_true rfl) ?_
  intro p e s m below meth c hC hr hlk hnm hK hP hD hA hS hX ls hl
  obtain ⟨hx, hb, hml, hown, ht0⟩ := hC
  have hown : s.vm.findClass RX5 = some m.cls := hown
  generalize va_A (wW_X5_joinMostShared G h0 h1 h2 h3 h4 h5 y0_5 x0_6 x0_7 x0_8 a1 a2 a3 a4 a5) sz = A at hD hA hS hX ⊢
  have hl : lv_has ls 7 [(0, .ref h0)] := hl
  have hf : p_X5_joinMostShared F x0_8 a1 a2 a3 a4 a5  = some (r0, e_x0_8, e_a1, e_a2, e_a3, e_a4, e_a5) := hf
  have kL9 : ∀ (n9 : Nat) (u9_1 : Int32) (u9_2 : Int32) (u9_3 : Int32) (u9_4 : Int32) (x0_8_9 : Int32) (a1_9 : Nat → Int32) (a2_9 : Nat → Int32) (a3_9 : Nat → Int32) (a4_9 : Nat → Int32) (a5_9 : Nat → Int32), p_X5_joinMostShared_L9 F n9 u9_1 u9_2 u9_3 u9_4 x0_8_9 a1_9 a2_9 a3_9 a4_9 a5_9 = some (r0, e_x0_8, e_a1, e_a2, e_a3, e_a4, e_a5) → ∀ (H : Heap) (locs : List Loc), va_P G.1 vwCl (wW_X5_joinMostShared G h0 h1 h2 h3 h4 h5 y0_5 x0_6 x0_7 x0_8_9 a1_9 a2_9 a3_9 a4_9 a5_9) H → va_D A (wW_X5_joinMostShared G h0 h1 h2 h3 h4 h5 y0_5 x0_6 x0_7 x0_8_9 a1_9 a2_9 a3_9 a4_9 a5_9) → va_S A s.heap H locs → ∀ ls : Array Slot, lv_has ls 7 [(0, .ref h0), (1, .int u9_1), (2, .int u9_2), (3, .int u9_3), (4, .int u9_4)] → W p l e ({ frames := 2, cells := 0, slots := 0, locals := 45 } : Room) s m (List.toArray [.ref h0]) below meth c H locs 0 0 (MQ below (QiS G r0 A (wW_X5_joinMostShared G h0 h1 h2 h3 h4 h5 y0_5 x0_6 x0_7 e_x0_8 e_a1 e_a2 e_a3 e_a4 e_a5)) (List.toArray [.ref h0]) s 0 0 A) (F0 m 9 ls []) := by
    intro n9
    induction n9 with
    | zero =>
      intro u9_1 u9_2 u9_3 u9_4 x0_8_9 a1_9 a2_9 a3_9 a4_9 a5_9 hf
      cases hf
    | succ n9 ih9 =>
      have kJ91 : ∀ (u91_1 : Int32) (u91_2 : Int32) (u91_3 : Int32) (u91_4 : Int32) (x0_8_91 : Int32) (a1_91 : Nat → Int32) (a2_91 : Nat → Int32) (a3_91 : Nat → Int32) (a4_91 : Nat → Int32) (a5_91 : Nat → Int32), p_X5_joinMostShared_J91 F (p_X5_joinMostShared_L9 F n9) u91_1 u91_2 u91_3 u91_4 x0_8_91 a1_91 a2_91 a3_91 a4_91 a5_91 = some (r0, e_x0_8, e_a1, e_a2, e_a3, e_a4, e_a5) → ∀ (H : Heap) (locs : List Loc), va_P G.1 vwCl (wW_X5_joinMostShared G h0 h1 h2 h3 h4 h5 y0_5 x0_6 x0_7 x0_8_91 a1_91 a2_91 a3_91 a4_91 a5_91) H → va_D A (wW_X5_joinMostShared G h0 h1 h2 h3 h4 h5 y0_5 x0_6 x0_7 x0_8_91 a1_91 a2_91 a3_91 a4_91 a5_91) → va_S A s.heap H locs → ∀ ls : Array Slot, lv_has ls 7 [(0, .ref h0), (1, .int u91_1), (2, .int u91_2), (3, .int u91_3), (4, .int u91_4)] → W p l e ({ frames := 2, cells := 0, slots := 0, locals := 45 } : Room) s m (List.toArray [.ref h0]) below meth c H locs 0 0 (MQ below (QiS G r0 A (wW_X5_joinMostShared G h0 h1 h2 h3 h4 h5 y0_5 x0_6 x0_7 e_x0_8 e_a1 e_a2 e_a3 e_a4 e_a5)) (List.toArray [.ref h0]) s 0 0 A) (F0 m 91 ls []) := by
        intro u91_1 u91_2 u91_3 u91_4 x0_8_91 a1_91 a2_91 a3_91 a4_91 a5_91 hf H locs hP hD hS ls hl
        refine lv_iinc (v := u91_4 + (1 : Int32)) (lv' := [(4, .int (u91_4 + (1 : Int32))), (0, .ref h0), (1, .int u91_1), (2, .int u91_2), (3, .int u91_3)]) hx hb dX5_joinMostShared_91 hl (k := 4) rfl (by rfl) (by decide) rfl (fun ls hl => ?_)
        refine lv_goto (tgt := 9) hx hb dX5_joinMostShared_94 (by decide) ?_
        exact ih9 _ _ _ _ _ _ _ _ _ _ hf _ _ hP hD hS _ (lv_sub hl [1, 2, 3, 4, 0] rfl)
      have kL41 : ∀ (c41_4 : Int32) (n41 : Nat) (u41_1 : Int32) (u41_2 : Int32) (u41_3 : Int32) (u41_5 : Int32) (x0_8_41 : Int32) (a1_41 : Nat → Int32) (a2_41 : Nat → Int32) (a3_41 : Nat → Int32) (a4_41 : Nat → Int32) (a5_41 : Nat → Int32), p_X5_joinMostShared_L41 F c41_4 (p_X5_joinMostShared_L9 F n9) n41 u41_1 u41_2 u41_3 u41_5 x0_8_41 a1_41 a2_41 a3_41 a4_41 a5_41 = some (r0, e_x0_8, e_a1, e_a2, e_a3, e_a4, e_a5) → ∀ (H : Heap) (locs : List Loc), va_P G.1 vwCl (wW_X5_joinMostShared G h0 h1 h2 h3 h4 h5 y0_5 x0_6 x0_7 x0_8_41 a1_41 a2_41 a3_41 a4_41 a5_41) H → va_D A (wW_X5_joinMostShared G h0 h1 h2 h3 h4 h5 y0_5 x0_6 x0_7 x0_8_41 a1_41 a2_41 a3_41 a4_41 a5_41) → va_S A s.heap H locs → ∀ ls : Array Slot, lv_has ls 7 [(0, .ref h0), (1, .int u41_1), (2, .int u41_2), (3, .int u41_3), (4, .int c41_4), (5, .int u41_5)] → W p l e ({ frames := 2, cells := 0, slots := 0, locals := 45 } : Room) s m (List.toArray [.ref h0]) below meth c H locs 0 0 (MQ below (QiS G r0 A (wW_X5_joinMostShared G h0 h1 h2 h3 h4 h5 y0_5 x0_6 x0_7 e_x0_8 e_a1 e_a2 e_a3 e_a4 e_a5)) (List.toArray [.ref h0]) s 0 0 A) (F0 m 41 ls []) := by
        intro c41_4 n41
        induction n41 with
        | zero =>
          intro u41_1 u41_2 u41_3 u41_5 x0_8_41 a1_41 a2_41 a3_41 a4_41 a5_41 hf
          cases hf
        | succ n41 ih41 =>
          have kJ85 : ∀ (u85_1 : Int32) (u85_2 : Int32) (u85_3 : Int32) (u85_5 : Int32) (x0_8_85 : Int32) (a1_85 : Nat → Int32) (a2_85 : Nat → Int32) (a3_85 : Nat → Int32) (a4_85 : Nat → Int32) (a5_85 : Nat → Int32), p_X5_joinMostShared_J85 F c41_4 (p_X5_joinMostShared_L9 F n9) (p_X5_joinMostShared_L41 F c41_4 (p_X5_joinMostShared_L9 F n9) n41) u85_1 u85_2 u85_3 u85_5 x0_8_85 a1_85 a2_85 a3_85 a4_85 a5_85 = some (r0, e_x0_8, e_a1, e_a2, e_a3, e_a4, e_a5) → ∀ (H : Heap) (locs : List Loc), va_P G.1 vwCl (wW_X5_joinMostShared G h0 h1 h2 h3 h4 h5 y0_5 x0_6 x0_7 x0_8_85 a1_85 a2_85 a3_85 a4_85 a5_85) H → va_D A (wW_X5_joinMostShared G h0 h1 h2 h3 h4 h5 y0_5 x0_6 x0_7 x0_8_85 a1_85 a2_85 a3_85 a4_85 a5_85) → va_S A s.heap H locs → ∀ ls : Array Slot, lv_has ls 7 [(0, .ref h0), (1, .int u85_1), (2, .int u85_2), (3, .int u85_3), (4, .int c41_4), (5, .int u85_5)] → W p l e ({ frames := 2, cells := 0, slots := 0, locals := 45 } : Room) s m (List.toArray [.ref h0]) below meth c H locs 0 0 (MQ below (QiS G r0 A (wW_X5_joinMostShared G h0 h1 h2 h3 h4 h5 y0_5 x0_6 x0_7 e_x0_8 e_a1 e_a2 e_a3 e_a4 e_a5)) (List.toArray [.ref h0]) s 0 0 A) (F0 m 85 ls []) := by
            intro u85_1 u85_2 u85_3 u85_5 x0_8_85 a1_85 a2_85 a3_85 a4_85 a5_85 hf H locs hP hD hS ls hl
            refine lv_iinc (v := u85_5 + (1 : Int32)) (lv' := [(5, .int (u85_5 + (1 : Int32))), (0, .ref h0), (1, .int u85_1), (2, .int u85_2), (3, .int u85_3), (4, .int c41_4)]) hx hb dX5_joinMostShared_85 hl (k := 5) rfl (by rfl) (by decide) rfl (fun ls hl => ?_)
            refine lv_goto (tgt := 41) hx hb dX5_joinMostShared_88 (by decide) ?_
            exact ih41 _ _ _ _ _ _ _ _ _ _ hf _ _ hP hD hS _ (lv_sub hl [1, 2, 3, 4, 5, 0] rfl)
          intro u41_1 u41_2 u41_3 u41_5 x0_8_41 a1_41 a2_41 a3_41 a4_41 a5_41 hf H locs hP hD hS ls hl
          have hf : p_X5_joinMostShared_L41b F c41_4 (p_X5_joinMostShared_L9 F n9) (p_X5_joinMostShared_L41 F c41_4 (p_X5_joinMostShared_L9 F n9) n41) u41_1 u41_2 u41_3 u41_5 x0_8_41 a1_41 a2_41 a3_41 a4_41 a5_41 = some (r0, e_x0_8, e_a1, e_a2, e_a3, e_a4, e_a5) := hf
          refine lv_iload hx hb dX5_joinMostShared_41 (lv_at hl 5 rfl) ?_
          refine lv_aload_n hx hb dX5_joinMostShared_43 rfl (lv_at hl 0 rfl) ?_
          refine va_get (ci := 5) (v := .int x0_8_41) (C := RX5) (T := TX5) (N := 9) hx hb ht0 iX5 hown hK hP 0 rfl rfl 8 (by decide) (ht0 _ wd_434) (fun _ h9 => h9) rfl dX5_joinMostShared_44 ?_
          refine lv_icmp_ge (tgt := 91) hx hb dX5_joinMostShared_47 (by decide) (fun c1 => ?_) (fun c1 => ?_)
          · have hf := of_pos hf c1
            exact kJ91 _ _ _ _ _ _ _ _ _ _ hf _ _ hP hD hS _ (lv_sub hl [0, 1, 2, 3, 4] rfl)
          · have hf := of_neg hf c1
            refine lv_aload_n hx hb dX5_joinMostShared_50 rfl (lv_at hl 0 rfl) ?_
            refine va_get (ci := 5) (v := .ref h1) (C := RX5) (T := TX5) (N := 9) hx hb ht0 iX5 hown hK hP 0 rfl rfl 0 (by decide) (ht0 _ wd_426) (fun _ h9 => h9) rfl dX5_joinMostShared_51 ?_
            refine lv_iload hx hb dX5_joinMostShared_54 (lv_at hl 4 rfl) ?_
            obtain ⟨g2, hf⟩ := of_grd hf
            refine va_iald hx hb hK hP 1 0 rfl rfl g2 dX5_joinMostShared_56 ?_
            refine lv_aload_n hx hb dX5_joinMostShared_57 rfl (lv_at hl 0 rfl) ?_
            refine va_get (ci := 5) (v := .ref h1) (C := RX5) (T := TX5) (N := 9) hx hb ht0 iX5 hown hK hP 0 rfl rfl 0 (by decide) (ht0 _ wd_426) (fun _ h9 => h9) rfl dX5_joinMostShared_58 ?_
            refine lv_iload hx hb dX5_joinMostShared_61 (lv_at hl 5 rfl) ?_
            obtain ⟨g3, hf⟩ := of_grd hf
            refine va_iald hx hb hK hP 1 0 rfl rfl g3 dX5_joinMostShared_63 ?_
            refine lv_iand hx hb dX5_joinMostShared_64 ?_
            obtain ⟨r_65_3, hc_r_65_3, hf⟩ := of_bnd hf
            refine cl_Si (w2 := (wW_X5_joinMostShared G h0 h1 h2 h3 h4 h5 y0_5 x0_6 x0_7 x0_8_41 a1_41 a2_41 a3_41 a4_41 a5_41)) (As := [.int ((a1_41 c41_4.toNatClampNeg) &&& (a1_41 u41_5.toNatClampNeg))]) (rest := []) ⟨hx, hb, hml, hown, ht0⟩ (c_J6_bitCount_0f7a4 l G _ F ((a1_41 c41_4.toNatClampNeg) &&& (a1_41 u41_5.toNatClampNeg)) _ hc_r_65_3) yk_J6_bitCount_0f7a4 wd_1131 ⟨rfl, rfl, by decide, by decide⟩ ⟨Nat.le_refl _, Nat.le_refl _⟩ hX hK hP hD hS hA [] [0, 1, 2, 3, 4, 5] [0, 1, 2, 3, 4, 5] rfl rfl (by decide) rfl rfl rfl rfl rfl hl.1 rfl (Nat.le_of_ble_eq_true rfl) dX5_joinMostShared_65 (fun H locs hP hD hS => ?_)
            refine lv_istore (lv' := [(6, .int r_65_3), (0, .ref h0), (1, .int u41_1), (2, .int u41_2), (3, .int u41_3), (4, .int c41_4), (5, .int u41_5)]) hx hb dX5_joinMostShared_68 hl (by decide) rfl (fun ls hl => ?_)
            refine lv_iload hx hb dX5_joinMostShared_70 (lv_at hl 0 rfl) ?_
            refine lv_iload_n hx hb dX5_joinMostShared_72 rfl (lv_at hl 2 rfl) ?_
            refine lv_icmp_le (tgt := 85) hx hb dX5_joinMostShared_73 (by decide) (fun c5 => ?_) (fun c5 => ?_)
            · have hf := of_pos hf c5
              exact kJ85 _ _ _ _ _ _ _ _ _ _ hf _ _ hP hD hS _ (lv_sub hl [1, 2, 3, 4, 5, 6] rfl)
            · have hf := of_neg hf c5
              refine lv_iload hx hb dX5_joinMostShared_76 (lv_at hl 0 rfl) ?_
              refine lv_istore_n (lv' := [(1, .int r_65_3), (6, .int r_65_3), (0, .ref h0), (2, .int u41_2), (3, .int u41_3), (4, .int c41_4), (5, .int u41_5)]) hx hb dX5_joinMostShared_78 rfl hl (by decide) rfl (fun ls hl => ?_)
              refine lv_iload hx hb dX5_joinMostShared_79 (lv_at hl 5 rfl) ?_
              refine lv_istore_n (lv' := [(2, .int c41_4), (1, .int r_65_3), (6, .int r_65_3), (0, .ref h0), (3, .int u41_3), (4, .int c41_4), (5, .int u41_5)]) hx hb dX5_joinMostShared_81 rfl hl (by decide) rfl (fun ls hl => ?_)
              refine lv_iload hx hb dX5_joinMostShared_82 (lv_at hl 6 rfl) ?_
              refine lv_istore_n (lv' := [(3, .int u41_5), (2, .int c41_4), (1, .int r_65_3), (6, .int r_65_3), (0, .ref h0), (4, .int c41_4), (5, .int u41_5)]) hx hb dX5_joinMostShared_84 rfl hl (by decide) rfl (fun ls hl => ?_)
              exact kJ85 _ _ _ _ _ _ _ _ _ _ hf _ _ hP hD hS _ (lv_sub hl [4, 2, 1, 0, 5, 6] rfl)
      intro u9_1 u9_2 u9_3 u9_4 x0_8_9 a1_9 a2_9 a3_9 a4_9 a5_9 hf H locs hP hD hS ls hl
      have hf : p_X5_joinMostShared_L9b F (p_X5_joinMostShared_L9 F n9) u9_1 u9_2 u9_3 u9_4 x0_8_9 a1_9 a2_9 a3_9 a4_9 a5_9 = some (r0, e_x0_8, e_a1, e_a2, e_a3, e_a4, e_a5) := hf
      refine lv_iload hx hb dX5_joinMostShared_9 (lv_at hl 4 rfl) ?_
      refine lv_aload_n hx hb dX5_joinMostShared_11 rfl (lv_at hl 0 rfl) ?_
      refine va_get (ci := 5) (v := .int x0_8_9) (C := RX5) (T := TX5) (N := 9) hx hb ht0 iX5 hown hK hP 0 rfl rfl 8 (by decide) (ht0 _ wd_434) (fun _ h9 => h9) rfl dX5_joinMostShared_12 ?_
      refine lv_icmp_ge (tgt := 97) hx hb dX5_joinMostShared_15 (by decide) (fun c6 => ?_) (fun c6 => ?_)
      · have hf := of_pos hf c6
        refine lv_iload_n hx hb dX5_joinMostShared_97 rfl (lv_at hl 2 rfl) ?_
        refine lv_iconst (v := (-1 : Int32)) hx hb dX5_joinMostShared_98 (by decide) ?_
        refine lv_icmp_eq (tgt := 112) hx hb dX5_joinMostShared_99 (by decide) (fun c7 => ?_) (fun c7 => ?_)
        · have hf := of_pos hf c7
          refine lv_iconst (v := (0 : Int32)) hx hb dX5_joinMostShared_112 (by decide) ?_
          cases hf
          exact ret_z hx hb hr hlk hK hP hD hS (by decide) dX5_joinMostShared_113
        · have hf := of_neg hf c7
          refine lv_aload_n hx hb dX5_joinMostShared_102 rfl (lv_at hl 0 rfl) ?_
          refine va_get (ci := 5) (v := .int x0_8_9) (C := RX5) (T := TX5) (N := 9) hx hb ht0 iX5 hown hK hP 0 rfl rfl 8 (by decide) (ht0 _ wd_434) (fun _ h9 => h9) rfl dX5_joinMostShared_103 ?_
          refine lv_sipush (v := (128 : Int32)) hx hb dX5_joinMostShared_106 (by decide) ?_
          refine lv_icmp_lt (tgt := 114) hx hb dX5_joinMostShared_109 (by decide) (fun c8 => ?_) (fun c8 => ?_)
          · have hf := of_pos hf c8
            refine lv_aload_n hx hb dX5_joinMostShared_114 rfl (lv_at hl 0 rfl) ?_
            refine lv_iload_n hx hb dX5_joinMostShared_115 rfl (lv_at hl 2 rfl) ?_
            refine lv_iload_n hx hb dX5_joinMostShared_116 rfl (lv_at hl 3 rfl) ?_
            refine lv_iload_n hx hb dX5_joinMostShared_117 rfl (lv_at hl 1 rfl) ?_
            obtain ⟨⟨r_118_8_x0_8, r_118_8_a1, r_118_8_a2, r_118_8_a3, r_118_8_a4, r_118_8_a5⟩, hc_r_118_8, hf⟩ := of_bnd hf
            refine cl_Vv (w2 := (wW_X5_joinMostShared G h0 h1 h2 h3 h4 h5 y0_5 x0_6 x0_7 r_118_8_x0_8 r_118_8_a1 r_118_8_a2 r_118_8_a3 r_118_8_a4 r_118_8_a5)) (As := [.int u9_2, .int u9_3, .int u9_1]) (rest := []) ⟨hx, hb, hml, hown, ht0⟩ (c_X5_addSignal l G h0 h1 h2 h3 h4 h5 y0_5 _ x0_6 x0_7 x0_8_9 a1_9 a2_9 a3_9 a4_9 a5_9 F u9_2 u9_3 u9_1 _ _ _ _ _ _ hc_r_118_8) yk_X5_addSignal wd_1132 ⟨rfl, rfl, by decide, by decide⟩ ⟨Nat.le_refl _, Nat.le_refl _⟩ hX hK hP hD hS hA [0, 1, 2, 3, 4, 5] [] [0, 1, 2, 3, 4, 5] (va_recv hK hP (ci := 5) (q0 := 0) rfl rfl) rfl rfl (by decide) rfl rfl rfl rfl rfl hl.1 rfl (Nat.le_of_ble_eq_true rfl) dX5_joinMostShared_118 (fun H locs hP hD hS => ?_)
            refine lv_iconst (v := (1 : Int32)) hx hb dX5_joinMostShared_121 (by decide) ?_
            cases hf
            exact ret_z hx hb hr hlk hK hP hD hS (by decide) dX5_joinMostShared_122
          · have hf := of_neg hf c8
            refine lv_iconst (v := (0 : Int32)) hx hb dX5_joinMostShared_112 (by decide) ?_
            cases hf
            exact ret_z hx hb hr hlk hK hP hD hS (by decide) dX5_joinMostShared_113
      · have hf := of_neg hf c6
        refine lv_aload_n hx hb dX5_joinMostShared_18 rfl (lv_at hl 0 rfl) ?_
        refine va_get (ci := 5) (v := .ref h1) (C := RX5) (T := TX5) (N := 9) hx hb ht0 iX5 hown hK hP 0 rfl rfl 0 (by decide) (ht0 _ wd_426) (fun _ h9 => h9) rfl dX5_joinMostShared_19 ?_
        refine lv_iload hx hb dX5_joinMostShared_22 (lv_at hl 4 rfl) ?_
        obtain ⟨g10, hf⟩ := of_grd hf
        refine va_iald hx hb hK hP 1 0 rfl rfl g10 dX5_joinMostShared_24 ?_
        obtain ⟨r_25_10, hc_r_25_10, hf⟩ := of_bnd hf
        refine cl_Si (w2 := (wW_X5_joinMostShared G h0 h1 h2 h3 h4 h5 y0_5 x0_6 x0_7 x0_8_9 a1_9 a2_9 a3_9 a4_9 a5_9)) (As := [.int (a1_9 u9_4.toNatClampNeg)]) (rest := []) ⟨hx, hb, hml, hown, ht0⟩ (c_J6_bitCount_0f7a4 l G _ F (a1_9 u9_4.toNatClampNeg) _ hc_r_25_10) yk_J6_bitCount_0f7a4 wd_1131 ⟨rfl, rfl, by decide, by decide⟩ ⟨Nat.le_refl _, Nat.le_refl _⟩ hX hK hP hD hS hA [] [0, 1, 2, 3, 4, 5] [0, 1, 2, 3, 4, 5] rfl rfl (by decide) rfl rfl rfl rfl rfl hl.1 rfl (Nat.le_of_ble_eq_true rfl) dX5_joinMostShared_25 (fun H locs hP hD hS => ?_)
        refine lv_iload_n hx hb dX5_joinMostShared_28 rfl (lv_at hl 1 rfl) ?_
        refine lv_icmp_gt (tgt := 35) hx hb dX5_joinMostShared_29 (by decide) (fun c12 => ?_) (fun c12 => ?_)
        · have hf := of_pos hf c12
          refine lv_iload hx hb dX5_joinMostShared_35 (lv_at hl 4 rfl) ?_
          refine lv_iconst (v := (1 : Int32)) hx hb dX5_joinMostShared_37 (by decide) ?_
          refine lv_iadd hx hb dX5_joinMostShared_38 ?_
          refine lv_istore (lv' := [(5, .int (u9_4 + (1 : Int32))), (0, .ref h0), (1, .int u9_1), (2, .int u9_2), (3, .int u9_3), (4, .int u9_4)]) hx hb dX5_joinMostShared_39 hl (by decide) rfl (fun ls hl => ?_)
          exact kL41 _ _ _ _ _ _ _ _ _ _ _ _ hf _ _ hP hD hS _ (lv_sub hl [1, 2, 3, 4, 5, 0] rfl)
        · have hf := of_neg hf c12
          refine lv_goto (tgt := 91) hx hb dX5_joinMostShared_32 (by decide) ?_
          exact kJ91 _ _ _ _ _ _ _ _ _ _ hf _ _ hP hD hS _ (lv_sub hl [0, 1, 2, 3, 4] rfl)
  refine lv_iconst (v := (1 : Int32)) hx hb dX5_joinMostShared_0 (by decide) ?_
  refine lv_istore_n (lv' := [(1, .int (1 : Int32)), (0, .ref h0)]) hx hb dX5_joinMostShared_1 rfl hl (by decide) rfl (fun ls hl => ?_)
  refine lv_iconst (v := (-1 : Int32)) hx hb dX5_joinMostShared_2 (by decide) ?_
  refine lv_istore_n (lv' := [(2, .int (-1 : Int32)), (1, .int (1 : Int32)), (0, .ref h0)]) hx hb dX5_joinMostShared_3 rfl hl (by decide) rfl (fun ls hl => ?_)
  refine lv_iconst (v := (-1 : Int32)) hx hb dX5_joinMostShared_4 (by decide) ?_
  refine lv_istore_n (lv' := [(3, .int (-1 : Int32)), (2, .int (-1 : Int32)), (1, .int (1 : Int32)), (0, .ref h0)]) hx hb dX5_joinMostShared_5 rfl hl (by decide) rfl (fun ls hl => ?_)
  refine lv_iconst (v := (0 : Int32)) hx hb dX5_joinMostShared_6 (by decide) ?_
  refine lv_istore (lv' := [(4, .int (0 : Int32)), (3, .int (-1 : Int32)), (2, .int (-1 : Int32)), (1, .int (1 : Int32)), (0, .ref h0)]) hx hb dX5_joinMostShared_7 hl (by decide) rfl (fun ls hl => ?_)
  exact kL9 _ _ _ _ _ _ _ _ _ _ _ hf _ _ hP hD hS _ (lv_sub hl [4, 3, 2, 1, 0] rfl)
theorem yk_X5_joinMostShared : ykV yX5_joinMostShared RX5 cX5_joinMostShared 7 (some .boolean) 0 := ⟨wd_1129, wd_34, wd_137, wd_1130, rfl, by decide +kernel, by decide +kernel, by decide +kernel⟩
theorem dX5_share_0 : decode cX5_share 0 = .ok (.aload_n 0, 1) := by decide +kernel
theorem dX5_share_1 : decode cX5_share 1 = .ok (.aload_n 1, 1) := by decide +kernel
theorem dX5_share_2 : decode cX5_share 2 = .ok (.getfield 46, 3) := by decide +kernel
theorem dX5_share_5 : decode cX5_share 5 = .ok (.putfield 49, 3) := by decide +kernel
theorem dX5_share_8 : decode cX5_share 8 = .ok (.aload_n 0, 1) := by decide +kernel
theorem dX5_share_9 : decode cX5_share 9 = .ok (.aload_n 1, 1) := by decide +kernel
theorem dX5_share_10 : decode cX5_share 10 = .ok (.getfield 30, 3) := by decide +kernel
theorem dX5_share_13 : decode cX5_share 13 = .ok (.putfield 50, 3) := by decide +kernel
theorem dX5_share_16 : decode cX5_share 16 = .ok (.aload_n 0, 1) := by decide +kernel
theorem dX5_share_17 : decode cX5_share 17 = .ok (.aload_n 0, 1) := by decide +kernel
theorem dX5_share_18 : decode cX5_share 18 = .ok (.getfield 49, 3) := by decide +kernel
theorem dX5_share_21 : decode cX5_share 21 = .ok (.putfield 51, 3) := by decide +kernel
theorem dX5_share_24 : decode cX5_share 24 = .ok (.iconst 0, 1) := by decide +kernel
theorem dX5_share_25 : decode cX5_share 25 = .ok (.istore_n 2, 1) := by decide +kernel
theorem dX5_share_26 : decode cX5_share 26 = .ok (.iload_n 2, 1) := by decide +kernel
theorem dX5_share_27 : decode cX5_share 27 = .ok (.aload_n 0, 1) := by decide +kernel
theorem dX5_share_28 : decode cX5_share 28 = .ok (.getfield 49, 3) := by decide +kernel
theorem dX5_share_31 : decode cX5_share 31 = .ok (.if_icmp .ge 28, 3) := by decide +kernel
theorem dX5_share_34 : decode cX5_share 34 = .ok (.aload_n 0, 1) := by decide +kernel
theorem dX5_share_35 : decode cX5_share 35 = .ok (.getfield 11, 3) := by decide +kernel
theorem dX5_share_38 : decode cX5_share 38 = .ok (.iload_n 2, 1) := by decide +kernel
theorem dX5_share_39 : decode cX5_share 39 = .ok (.aload_n 1, 1) := by decide +kernel
theorem dX5_share_40 : decode cX5_share 40 = .ok (.getfield 54, 3) := by decide +kernel
theorem dX5_share_43 : decode cX5_share 43 = .ok (.iload_n 2, 1) := by decide +kernel
theorem dX5_share_44 : decode cX5_share 44 = .ok (.iaload, 1) := by decide +kernel
theorem dX5_share_45 : decode cX5_share 45 = .ok (.iastore, 1) := by decide +kernel
theorem dX5_share_46 : decode cX5_share 46 = .ok (.aload_n 0, 1) := by decide +kernel
theorem dX5_share_47 : decode cX5_share 47 = .ok (.getfield 15, 3) := by decide +kernel
theorem dX5_share_50 : decode cX5_share 50 = .ok (.iload_n 2, 1) := by decide +kernel
theorem dX5_share_51 : decode cX5_share 51 = .ok (.iconst 0, 1) := by decide +kernel
theorem dX5_share_52 : decode cX5_share 52 = .ok (.iastore, 1) := by decide +kernel
theorem dX5_share_53 : decode cX5_share 53 = .ok (.iinc 2 1, 3) := by decide +kernel
theorem dX5_share_56 : decode cX5_share 56 = .ok (.goto (-30), 3) := by decide +kernel
theorem dX5_share_59 : decode cX5_share 59 = .ok (.iconst 0, 1) := by decide +kernel
theorem dX5_share_60 : decode cX5_share 60 = .ok (.istore_n 2, 1) := by decide +kernel
theorem dX5_share_61 : decode cX5_share 61 = .ok (.iload_n 2, 1) := by decide +kernel
theorem dX5_share_62 : decode cX5_share 62 = .ok (.bipush 104, 2) := by decide +kernel
theorem dX5_share_64 : decode cX5_share 64 = .ok (.if_icmp .ge 19, 3) := by decide +kernel
theorem dX5_share_67 : decode cX5_share 67 = .ok (.aload_n 0, 1) := by decide +kernel
theorem dX5_share_68 : decode cX5_share 68 = .ok (.invokevirtual 57, 3) := by decide +kernel
theorem dX5_share_71 : decode cX5_share 71 = .ok (.ifCond .ne 6, 3) := by decide +kernel
theorem dX5_share_74 : decode cX5_share 74 = .ok (.goto 9, 3) := by decide +kernel
theorem dX5_share_77 : decode cX5_share 77 = .ok (.iinc 2 1, 3) := by decide +kernel
theorem dX5_share_80 : decode cX5_share 80 = .ok (.goto (-19), 3) := by decide +kernel
theorem dX5_share_83 : decode cX5_share 83 = .ok (.return_, 1) := by decide +kernel
def wW_X5_share (G : GG) (h0 h1 h2 h3 h4 h5 h6 h7 y0_5 y6_4 y6_5 : Nat) (x0_6 : Int32) (x0_7 : Int32) (x0_8 : Int32) (a1 : Nat → Int32) (a2 : Nat → Int32) (a3 : Nat → Int32) (a4 : Nat → Int32) (a5 : Nat → Int32) (x6_0 : Int32) (x6_1 : Int32) (x6_2 : Int32) (a7 : Nat → Int32) : va_W := [(h0, .inr (5, [.ref h1, .ref h2, .ref h3, .ref h4, .ref h5, .ref y0_5, .int x0_6, .int x0_7, .int x0_8])), (h1, .inl (G.2.1, 128, .inl a1)), (h2, .inl (G.2.1, 128, .inl a2)), (h3, .inl (G.2.1, 128, .inl a3)), (h4, .inl (G.2.1, 128, .inl a4)), (h5, .inl (G.2.1, 128, .inl a5)), (h6, .inr (1, [.int x6_0, .int x6_1, .int x6_2, .ref h7, .ref y6_4, .ref y6_5])), (h7, .inl (G.2.1, 32, .inl a7))]
set_option maxHeartbeats 4000000 in
set_option maxRecDepth 100000 in
theorem c_X5_share (l : Launch) (G : GG) (h0 h1 h2 h3 h4 h5 h6 h7 y0_5 y6_4 y6_5 : Nat) (sz : Nat) (x0_6 : Int32) (x0_7 : Int32) (x0_8 : Int32) (a1 : Nat → Int32) (a2 : Nat → Int32) (a3 : Nat → Int32) (a4 : Nat → Int32) (a5 : Nat → Int32) (x6_0 : Int32) (x6_1 : Int32) (x6_2 : Int32) (a7 : Nat → Int32) (F : Nat)   (e_x0_6 : Int32) (e_x0_7 : Int32) (e_x0_8 : Int32) (e_a1 : Nat → Int32) (e_a2 : Nat → Int32) (e_a3 : Nat → Int32) (e_a4 : Nat → Int32) (e_a5 : Nat → Int32) (hf : p_X5_share F x0_6 x0_7 x0_8 a1 a2 a3 a4 a5 x6_0 x6_1 a7  = some (e_x0_6, e_x0_7, e_x0_8, e_a1, e_a2, e_a3, e_a4, e_a5)) : Met l yX5_share (.code yX5_share cX5_share 3 none :: gtbl) ({ frames := 3, cells := 0, slots := 0, locals := 71 } : Room) (PcS G [.ref h0, .ref h6] (wW_X5_share G h0 h1 h2 h3 h4 h5 h6 h7 y0_5 y6_4 y6_5 x0_6 x0_7 x0_8 a1 a2 a3 a4 a5 x6_0 x6_1 x6_2 a7) sz) (QvS G (va_A (wW_X5_share G h0 h1 h2 h3 h4 h5 h6 h7 y0_5 y6_4 y6_5 x0_6 x0_7 x0_8 a1 a2 a3 a4 a5 x6_0 x6_1 x6_2 a7) sz) (wW_X5_share G h0 h1 h2 h3 h4 h5 h6 h7 y0_5 y6_4 y6_5 e_x0_6 e_x0_7 e_x0_8 e_a1 e_a2 e_a3 e_a4 e_a5 x6_0 x6_1 x6_2 a7)) 0 0 (va_A (wW_X5_share G h0 h1 h2 h3 h4 h5 h6 h7 y0_5 y6_4 y6_5 x0_6 x0_7 x0_8 a1 a2 a3 a4 a5 x6_0 x6_1 x6_2 a7) sz) := by
  refine met_start (by decide) (Nat.le_of_ble_eq_true rfl) ?_
  intro p e s m below meth c hC hr hlk hnm hK hP hD hA hS hX ls hl
  obtain ⟨hx, hb, hml, hown, ht0⟩ := hC
  have hown : s.vm.findClass RX5 = some m.cls := hown
  generalize va_A (wW_X5_share G h0 h1 h2 h3 h4 h5 h6 h7 y0_5 y6_4 y6_5 x0_6 x0_7 x0_8 a1 a2 a3 a4 a5 x6_0 x6_1 x6_2 a7) sz = A at hD hA hS hX ⊢
  have hl : lv_has ls 3 [(0, .ref h0), (1, .ref h6)] := hl
  have hf : p_X5_share F x0_6 x0_7 x0_8 a1 a2 a3 a4 a5 x6_0 x6_1 a7  = some (e_x0_6, e_x0_7, e_x0_8, e_a1, e_a2, e_a3, e_a4, e_a5) := hf
  have kL61 : ∀ (n61 : Nat) (u61_2 : Int32) (x0_6_61 : Int32) (x0_7_61 : Int32) (x0_8_61 : Int32) (a1_61 : Nat → Int32) (a2_61 : Nat → Int32) (a3_61 : Nat → Int32) (a4_61 : Nat → Int32) (a5_61 : Nat → Int32), p_X5_share_L61 F x6_0 x6_1 a7 n61 u61_2 x0_6_61 x0_7_61 x0_8_61 a1_61 a2_61 a3_61 a4_61 a5_61 = some (e_x0_6, e_x0_7, e_x0_8, e_a1, e_a2, e_a3, e_a4, e_a5) → ∀ (H : Heap) (locs : List Loc), va_P G.1 vwCl (wW_X5_share G h0 h1 h2 h3 h4 h5 h6 h7 y0_5 y6_4 y6_5 x0_6_61 x0_7_61 x0_8_61 a1_61 a2_61 a3_61 a4_61 a5_61 x6_0 x6_1 x6_2 a7) H → va_D A (wW_X5_share G h0 h1 h2 h3 h4 h5 h6 h7 y0_5 y6_4 y6_5 x0_6_61 x0_7_61 x0_8_61 a1_61 a2_61 a3_61 a4_61 a5_61 x6_0 x6_1 x6_2 a7) → va_S A s.heap H locs → ∀ ls : Array Slot, lv_has ls 3 [(0, .ref h0), (2, .int u61_2)] → W p l e ({ frames := 3, cells := 0, slots := 0, locals := 71 } : Room) s m (List.toArray [.ref h0, .ref h6]) below meth c H locs 0 0 (MQ below (QvS G A (wW_X5_share G h0 h1 h2 h3 h4 h5 h6 h7 y0_5 y6_4 y6_5 e_x0_6 e_x0_7 e_x0_8 e_a1 e_a2 e_a3 e_a4 e_a5 x6_0 x6_1 x6_2 a7)) (List.toArray [.ref h0, .ref h6]) s 0 0 A) (F0 m 61 ls []) := by
    intro n61
    induction n61 with
    | zero =>
      intro u61_2 x0_6_61 x0_7_61 x0_8_61 a1_61 a2_61 a3_61 a4_61 a5_61 hf
      cases hf
    | succ n61 ih61 =>
      intro u61_2 x0_6_61 x0_7_61 x0_8_61 a1_61 a2_61 a3_61 a4_61 a5_61 hf H locs hP hD hS ls hl
      have hf : p_X5_share_L61b F x6_0 x6_1 a7 (p_X5_share_L61 F x6_0 x6_1 a7 n61) u61_2 x0_6_61 x0_7_61 x0_8_61 a1_61 a2_61 a3_61 a4_61 a5_61 = some (e_x0_6, e_x0_7, e_x0_8, e_a1, e_a2, e_a3, e_a4, e_a5) := hf
      refine lv_iload_n hx hb dX5_share_61 rfl (lv_at hl 1 rfl) ?_
      refine lv_bipush (v := (104 : Int32)) hx hb dX5_share_62 (by decide) ?_
      refine lv_icmp_ge (tgt := 83) hx hb dX5_share_64 (by decide) (fun c1 => ?_) (fun c1 => ?_)
      · have hf := of_pos hf c1
        cases hf
        exact ret_v hx hb hr hlk hK hP hD hS dX5_share_83
      · have hf := of_neg hf c1
        refine lv_aload_n hx hb dX5_share_67 rfl (lv_at hl 0 rfl) ?_
        obtain ⟨⟨r_68_1, r_68_1_x0_8, r_68_1_a1, r_68_1_a2, r_68_1_a3, r_68_1_a4, r_68_1_a5⟩, hc_r_68_1, hf⟩ := of_bnd hf
        refine cl_Vi (w2 := (wW_X5_share G h0 h1 h2 h3 h4 h5 h6 h7 y0_5 y6_4 y6_5 x0_6_61 x0_7_61 r_68_1_x0_8 r_68_1_a1 r_68_1_a2 r_68_1_a3 r_68_1_a4 r_68_1_a5 x6_0 x6_1 x6_2 a7)) (As := []) (rest := []) ⟨hx, hb, hml, hown, ht0⟩ (c_X5_joinMostShared l G h0 h1 h2 h3 h4 h5 y0_5 _ x0_6_61 x0_7_61 x0_8_61 a1_61 a2_61 a3_61 a4_61 a5_61 F _ _ _ _ _ _ _ hc_r_68_1) yk_X5_joinMostShared wd_1127 ⟨rfl, rfl, by decide, by decide⟩ ⟨Nat.le_refl _, Nat.le_refl _⟩ hX hK hP hD hS hA [0, 1, 2, 3, 4, 5] [6, 7] [2, 3, 4, 5, 6, 7, 0, 1] (va_recv hK hP (ci := 5) (q0 := 0) rfl rfl) rfl rfl (by decide) rfl rfl rfl rfl rfl hl.1 rfl (Nat.le_of_ble_eq_true rfl) dX5_share_68 (fun H locs hP hD hS => ?_)
        refine lv_if_ne (tgt := 77) hx hb dX5_share_71 (by decide) (fun c3 => ?_) (fun c3 => ?_)
        · have hf := of_neg hf c3
          refine lv_iinc (v := u61_2 + (1 : Int32)) (lv' := [(2, .int (u61_2 + (1 : Int32))), (0, .ref h0)]) hx hb dX5_share_77 hl (k := 1) rfl (by rfl) (by decide) rfl (fun ls hl => ?_)
          refine lv_goto (tgt := 61) hx hb dX5_share_80 (by decide) ?_
          exact ih61 _ _ _ _ _ _ _ _ _ hf _ _ hP hD hS _ (lv_sub hl [1, 0] rfl)
        · have hf := of_pos hf c3
          refine lv_goto (tgt := 83) hx hb dX5_share_74 (by decide) ?_
          cases hf
          exact ret_v hx hb hr hlk hK hP hD hS dX5_share_83
  have kL26 : ∀ (n26 : Nat) (u26_2 : Int32) (x0_6_26 : Int32) (x0_7_26 : Int32) (x0_8_26 : Int32) (a1_26 : Nat → Int32) (a2_26 : Nat → Int32) (a3_26 : Nat → Int32) (a4_26 : Nat → Int32) (a5_26 : Nat → Int32), p_X5_share_L26 F x6_0 x6_1 a7 n26 u26_2 x0_6_26 x0_7_26 x0_8_26 a1_26 a2_26 a3_26 a4_26 a5_26 = some (e_x0_6, e_x0_7, e_x0_8, e_a1, e_a2, e_a3, e_a4, e_a5) → ∀ (H : Heap) (locs : List Loc), va_P G.1 vwCl (wW_X5_share G h0 h1 h2 h3 h4 h5 h6 h7 y0_5 y6_4 y6_5 x0_6_26 x0_7_26 x0_8_26 a1_26 a2_26 a3_26 a4_26 a5_26 x6_0 x6_1 x6_2 a7) H → va_D A (wW_X5_share G h0 h1 h2 h3 h4 h5 h6 h7 y0_5 y6_4 y6_5 x0_6_26 x0_7_26 x0_8_26 a1_26 a2_26 a3_26 a4_26 a5_26 x6_0 x6_1 x6_2 a7) → va_S A s.heap H locs → ∀ ls : Array Slot, lv_has ls 3 [(0, .ref h0), (1, .ref h6), (2, .int u26_2)] → W p l e ({ frames := 3, cells := 0, slots := 0, locals := 71 } : Room) s m (List.toArray [.ref h0, .ref h6]) below meth c H locs 0 0 (MQ below (QvS G A (wW_X5_share G h0 h1 h2 h3 h4 h5 h6 h7 y0_5 y6_4 y6_5 e_x0_6 e_x0_7 e_x0_8 e_a1 e_a2 e_a3 e_a4 e_a5 x6_0 x6_1 x6_2 a7)) (List.toArray [.ref h0, .ref h6]) s 0 0 A) (F0 m 26 ls []) := by
    intro n26
    induction n26 with
    | zero =>
      intro u26_2 x0_6_26 x0_7_26 x0_8_26 a1_26 a2_26 a3_26 a4_26 a5_26 hf
      cases hf
    | succ n26 ih26 =>
      intro u26_2 x0_6_26 x0_7_26 x0_8_26 a1_26 a2_26 a3_26 a4_26 a5_26 hf H locs hP hD hS ls hl
      have hf : p_X5_share_L26b F x6_0 x6_1 a7 (p_X5_share_L26 F x6_0 x6_1 a7 n26) u26_2 x0_6_26 x0_7_26 x0_8_26 a1_26 a2_26 a3_26 a4_26 a5_26 = some (e_x0_6, e_x0_7, e_x0_8, e_a1, e_a2, e_a3, e_a4, e_a5) := hf
      refine lv_iload_n hx hb dX5_share_26 rfl (lv_at hl 2 rfl) ?_
      refine lv_aload_n hx hb dX5_share_27 rfl (lv_at hl 0 rfl) ?_
      refine va_get (ci := 5) (v := .int x0_6_26) (C := RX5) (T := TX5) (N := 9) hx hb ht0 iX5 hown hK hP 0 rfl rfl 6 (by decide) (ht0 _ wd_432) (fun _ h9 => h9) rfl dX5_share_28 ?_
      refine lv_icmp_ge (tgt := 59) hx hb dX5_share_31 (by decide) (fun c4 => ?_) (fun c4 => ?_)
      · have hf := of_pos hf c4
        refine lv_iconst (v := (0 : Int32)) hx hb dX5_share_59 (by decide) ?_
        refine lv_istore_n (lv' := [(2, .int (0 : Int32)), (0, .ref h0), (1, .ref h6)]) hx hb dX5_share_60 rfl hl (by decide) rfl (fun ls hl => ?_)
        exact kL61 _ _ _ _ _ _ _ _ _ _ hf _ _ hP hD hS _ (lv_sub hl [1, 0] rfl)
      · have hf := of_neg hf c4
        refine lv_aload_n hx hb dX5_share_34 rfl (lv_at hl 0 rfl) ?_
        refine va_get (ci := 5) (v := .ref h1) (C := RX5) (T := TX5) (N := 9) hx hb ht0 iX5 hown hK hP 0 rfl rfl 0 (by decide) (ht0 _ wd_426) (fun _ h9 => h9) rfl dX5_share_35 ?_
        refine lv_iload_n hx hb dX5_share_38 rfl (lv_at hl 2 rfl) ?_
        refine lv_aload_n hx hb dX5_share_39 rfl (lv_at hl 1 rfl) ?_
        refine va_get (ci := 1) (v := .ref h7) (C := RX1) (T := TX1) (N := 6) hx hb ht0 iX1 hown hK hP 6 rfl rfl 3 (by decide) (ht0 _ wd_228) (fun _ h9 => h9) rfl dX5_share_40 ?_
        refine lv_iload_n hx hb dX5_share_43 rfl (lv_at hl 2 rfl) ?_
        obtain ⟨g5, hf⟩ := of_grd hf
        refine va_iald hx hb hK hP 7 0 rfl rfl g5 dX5_share_44 ?_
        obtain ⟨g6, hf⟩ := of_grd hf
        refine va_iast hx hb hK hP hD hS 1 0 rfl rfl g6 dX5_share_45 (fun H locs hP hD hS => ?_)
        have hP : va_P G.1 vwCl (wW_X5_share G h0 h1 h2 h3 h4 h5 h6 h7 y0_5 y6_4 y6_5 x0_6_26 x0_7_26 x0_8_26 (upd a1_26 u26_2.toNatClampNeg (a7 u26_2.toNatClampNeg)) a2_26 a3_26 a4_26 a5_26 x6_0 x6_1 x6_2 a7) H := hP
        have hD : va_D A (wW_X5_share G h0 h1 h2 h3 h4 h5 h6 h7 y0_5 y6_4 y6_5 x0_6_26 x0_7_26 x0_8_26 (upd a1_26 u26_2.toNatClampNeg (a7 u26_2.toNatClampNeg)) a2_26 a3_26 a4_26 a5_26 x6_0 x6_1 x6_2 a7) := hD
        refine lv_aload_n hx hb dX5_share_46 rfl (lv_at hl 0 rfl) ?_
        refine va_get (ci := 5) (v := .ref h2) (C := RX5) (T := TX5) (N := 9) hx hb ht0 iX5 hown hK hP 0 rfl rfl 1 (by decide) (ht0 _ wd_427) (fun _ h9 => h9) rfl dX5_share_47 ?_
        refine lv_iload_n hx hb dX5_share_50 rfl (lv_at hl 2 rfl) ?_
        refine lv_iconst (v := (0 : Int32)) hx hb dX5_share_51 (by decide) ?_
        obtain ⟨g7, hf⟩ := of_grd hf
        refine va_iast hx hb hK hP hD hS 2 0 rfl rfl g7 dX5_share_52 (fun H locs hP hD hS => ?_)
        have hP : va_P G.1 vwCl (wW_X5_share G h0 h1 h2 h3 h4 h5 h6 h7 y0_5 y6_4 y6_5 x0_6_26 x0_7_26 x0_8_26 (upd a1_26 u26_2.toNatClampNeg (a7 u26_2.toNatClampNeg)) (upd a2_26 u26_2.toNatClampNeg (0 : Int32)) a3_26 a4_26 a5_26 x6_0 x6_1 x6_2 a7) H := hP
        have hD : va_D A (wW_X5_share G h0 h1 h2 h3 h4 h5 h6 h7 y0_5 y6_4 y6_5 x0_6_26 x0_7_26 x0_8_26 (upd a1_26 u26_2.toNatClampNeg (a7 u26_2.toNatClampNeg)) (upd a2_26 u26_2.toNatClampNeg (0 : Int32)) a3_26 a4_26 a5_26 x6_0 x6_1 x6_2 a7) := hD
        refine lv_iinc (v := u26_2 + (1 : Int32)) (lv' := [(2, .int (u26_2 + (1 : Int32))), (0, .ref h0), (1, .ref h6)]) hx hb dX5_share_53 hl (k := 2) rfl (by rfl) (by decide) rfl (fun ls hl => ?_)
        refine lv_goto (tgt := 26) hx hb dX5_share_56 (by decide) ?_
        exact ih26 _ _ _ _ _ _ _ _ _ hf _ _ hP hD hS _ (lv_sub hl [1, 2, 0] rfl)
  refine lv_aload_n hx hb dX5_share_0 rfl (lv_at hl 0 rfl) ?_
  refine lv_aload_n hx hb dX5_share_1 rfl (lv_at hl 1 rfl) ?_
  refine va_get (ci := 1) (v := .int x6_0) (C := RX1) (T := TX1) (N := 6) hx hb ht0 iX1 hown hK hP 6 rfl rfl 0 (by decide) (ht0 _ wd_211) (fun _ h9 => h9) rfl dX5_share_2 ?_
  refine va_put (ci := 5) (v := .int x6_0) (ty := .int) (C := RX5) (T := TX5) (N := 9) hx hb ht0 iX5 tyX5 tyX5_ok nmX5 hown hK hP hD hS 0 rfl rfl 6 (by decide) (ht0 _ wd_432) (fun _ h9 => h9) rfl rfl rfl rfl (Nat.le_of_ble_eq_true rfl) dX5_share_5 (fun H locs hP hD hS => ?_)
  have hP : va_P G.1 vwCl (wW_X5_share G h0 h1 h2 h3 h4 h5 h6 h7 y0_5 y6_4 y6_5 x6_0 x0_7 x0_8 a1 a2 a3 a4 a5 x6_0 x6_1 x6_2 a7) H := hP
  have hD : va_D A (wW_X5_share G h0 h1 h2 h3 h4 h5 h6 h7 y0_5 y6_4 y6_5 x6_0 x0_7 x0_8 a1 a2 a3 a4 a5 x6_0 x6_1 x6_2 a7) := hD
  refine lv_aload_n hx hb dX5_share_8 rfl (lv_at hl 0 rfl) ?_
  refine lv_aload_n hx hb dX5_share_9 rfl (lv_at hl 1 rfl) ?_
  refine va_get (ci := 1) (v := .int x6_1) (C := RX1) (T := TX1) (N := 6) hx hb ht0 iX1 hown hK hP 6 rfl rfl 1 (by decide) (ht0 _ wd_217) (fun _ h9 => h9) rfl dX5_share_10 ?_
  refine va_put (ci := 5) (v := .int x6_1) (ty := .int) (C := RX5) (T := TX5) (N := 9) hx hb ht0 iX5 tyX5 tyX5_ok nmX5 hown hK hP hD hS 0 rfl rfl 7 (by decide) (ht0 _ wd_433) (fun _ h9 => h9) rfl rfl rfl rfl (Nat.le_of_ble_eq_true rfl) dX5_share_13 (fun H locs hP hD hS => ?_)
  have hP : va_P G.1 vwCl (wW_X5_share G h0 h1 h2 h3 h4 h5 h6 h7 y0_5 y6_4 y6_5 x6_0 x6_1 x0_8 a1 a2 a3 a4 a5 x6_0 x6_1 x6_2 a7) H := hP
  have hD : va_D A (wW_X5_share G h0 h1 h2 h3 h4 h5 h6 h7 y0_5 y6_4 y6_5 x6_0 x6_1 x0_8 a1 a2 a3 a4 a5 x6_0 x6_1 x6_2 a7) := hD
  refine lv_aload_n hx hb dX5_share_16 rfl (lv_at hl 0 rfl) ?_
  refine lv_aload_n hx hb dX5_share_17 rfl (lv_at hl 0 rfl) ?_
  refine va_get (ci := 5) (v := .int x6_0) (C := RX5) (T := TX5) (N := 9) hx hb ht0 iX5 hown hK hP 0 rfl rfl 6 (by decide) (ht0 _ wd_432) (fun _ h9 => h9) rfl dX5_share_18 ?_
  refine va_put (ci := 5) (v := .int x6_0) (ty := .int) (C := RX5) (T := TX5) (N := 9) hx hb ht0 iX5 tyX5 tyX5_ok nmX5 hown hK hP hD hS 0 rfl rfl 8 (by decide) (ht0 _ wd_434) (fun _ h9 => h9) rfl rfl rfl rfl (Nat.le_of_ble_eq_true rfl) dX5_share_21 (fun H locs hP hD hS => ?_)
  have hP : va_P G.1 vwCl (wW_X5_share G h0 h1 h2 h3 h4 h5 h6 h7 y0_5 y6_4 y6_5 x6_0 x6_1 x6_0 a1 a2 a3 a4 a5 x6_0 x6_1 x6_2 a7) H := hP
  have hD : va_D A (wW_X5_share G h0 h1 h2 h3 h4 h5 h6 h7 y0_5 y6_4 y6_5 x6_0 x6_1 x6_0 a1 a2 a3 a4 a5 x6_0 x6_1 x6_2 a7) := hD
  refine lv_iconst (v := (0 : Int32)) hx hb dX5_share_24 (by decide) ?_
  refine lv_istore_n (lv' := [(2, .int (0 : Int32)), (0, .ref h0), (1, .ref h6)]) hx hb dX5_share_25 rfl hl (by decide) rfl (fun ls hl => ?_)
  exact kL26 _ _ _ _ _ _ _ _ _ _ hf _ _ hP hD hS _ (lv_sub hl [1, 2, 0] rfl)
theorem yk_X5_share : ykV yX5_share RX5 cX5_share 3 none 1 := ⟨wd_1124, wd_1125, wd_137, wd_1126, rfl, by decide +kernel, by decide +kernel, by decide +kernel⟩
theorem dX5_countMore_0 : decode cX5_countMore 0 = .ok (.aload_n 0, 1) := by decide +kernel
theorem dX5_countMore_1 : decode cX5_countMore 1 = .ok (.getfield 51, 3) := by decide +kernel
theorem dX5_countMore_4 : decode cX5_countMore 4 = .ok (.aload_n 0, 1) := by decide +kernel
theorem dX5_countMore_5 : decode cX5_countMore 5 = .ok (.getfield 49, 3) := by decide +kernel
theorem dX5_countMore_8 : decode cX5_countMore 8 = .ok (.isub, 1) := by decide +kernel
theorem dX5_countMore_9 : decode cX5_countMore 9 = .ok (.ireturn, 1) := by decide +kernel
def wW_X5_countMore (G : GG) (h0 y0_0 y0_1 y0_2 y0_3 y0_4 y0_5 : Nat) (x0_6 : Int32) (x0_7 : Int32) (x0_8 : Int32) : va_W := [(h0, .inr (5, [.ref y0_0, .ref y0_1, .ref y0_2, .ref y0_3, .ref y0_4, .ref y0_5, .int x0_6, .int x0_7, .int x0_8]))]
set_option maxHeartbeats 4000000 in
set_option maxRecDepth 100000 in
theorem c_X5_countMore (l : Launch) (G : GG) (h0 y0_0 y0_1 y0_2 y0_3 y0_4 y0_5 : Nat) (sz : Nat) (x0_6 : Int32) (x0_7 : Int32) (x0_8 : Int32) (F : Nat)   (r0 : Int32) (hf : p_X5_countMore F x0_6 x0_8  = some r0) : Met l yX5_countMore (.code yX5_countMore cX5_countMore 1 (some .int) :: gtbl) ({ frames := 0, cells := 0, slots := 0, locals := 0 } : Room) (PcS G [.ref h0] (wW_X5_countMore G h0 y0_0 y0_1 y0_2 y0_3 y0_4 y0_5 x0_6 x0_7 x0_8) sz) (QiS G r0 (va_A (wW_X5_countMore G h0 y0_0 y0_1 y0_2 y0_3 y0_4 y0_5 x0_6 x0_7 x0_8) sz) (wW_X5_countMore G h0 y0_0 y0_1 y0_2 y0_3 y0_4 y0_5 x0_6 x0_7 x0_8)) 0 0 (va_A (wW_X5_countMore G h0 y0_0 y0_1 y0_2 y0_3 y0_4 y0_5 x0_6 x0_7 x0_8) sz) := by
  refine met_start (by decide) (Nat.le_of_ble_eq_true rfl) ?_
  intro p e s m below meth c hC hr hlk hnm hK hP hD hA hS hX ls hl
  obtain ⟨hx, hb, hml, hown, ht0⟩ := hC
  have hown : s.vm.findClass RX5 = some m.cls := hown
  generalize va_A (wW_X5_countMore G h0 y0_0 y0_1 y0_2 y0_3 y0_4 y0_5 x0_6 x0_7 x0_8) sz = A at hD hA hS hX ⊢
  have hl : lv_has ls 1 [(0, .ref h0)] := hl
  have hf : p_X5_countMore F x0_6 x0_8  = some r0 := hf
  refine lv_aload_n hx hb dX5_countMore_0 rfl (lv_at hl 0 rfl) ?_
  refine va_get (ci := 5) (v := .int x0_8) (C := RX5) (T := TX5) (N := 9) hx hb ht0 iX5 hown hK hP 0 rfl rfl 8 (by decide) (ht0 _ wd_434) (fun _ h9 => h9) rfl dX5_countMore_1 ?_
  refine lv_aload_n hx hb dX5_countMore_4 rfl (lv_at hl 0 rfl) ?_
  refine va_get (ci := 5) (v := .int x0_6) (C := RX5) (T := TX5) (N := 9) hx hb ht0 iX5 hown hK hP 0 rfl rfl 6 (by decide) (ht0 _ wd_432) (fun _ h9 => h9) rfl dX5_countMore_5 ?_
  refine lv_isub hx hb dX5_countMore_8 ?_
  cases hf
  exact ret_i hx hb hr hlk hK hP hD hS dX5_countMore_9
theorem yk_X5_countMore : ykV yX5_countMore RX5 cX5_countMore 1 (some .int) 0 := ⟨wd_1141, wd_1142, wd_137, wd_1143, rfl, by decide +kernel, by decide +kernel, by decide +kernel⟩
theorem dX5_told_0 : decode cX5_told 0 = .ok (.iload_n 1, 1) := by decide +kernel
theorem dX5_told_1 : decode cX5_told 1 = .ok (.ifCond .lt 11, 3) := by decide +kernel
theorem dX5_told_4 : decode cX5_told 4 = .ok (.iload_n 1, 1) := by decide +kernel
theorem dX5_told_5 : decode cX5_told 5 = .ok (.aload_n 0, 1) := by decide +kernel
theorem dX5_told_6 : decode cX5_told 6 = .ok (.invokevirtual 70, 3) := by decide +kernel
theorem dX5_told_9 : decode cX5_told 9 = .ok (.if_icmp .lt 5, 3) := by decide +kernel
theorem dX5_told_12 : decode cX5_told 12 = .ok (.iconst (-1), 1) := by decide +kernel
theorem dX5_told_13 : decode cX5_told 13 = .ok (.ireturn, 1) := by decide +kernel
theorem dX5_told_14 : decode cX5_told 14 = .ok (.iload_n 2, 1) := by decide +kernel
theorem dX5_told_15 : decode cX5_told 15 = .ok (.tableswitch 77 0 3 #[29, 41, 53, 65], 29) := by decide +kernel
theorem dX5_told_44 : decode cX5_told 44 = .ok (.aload_n 0, 1) := by decide +kernel
theorem dX5_told_45 : decode cX5_told 45 = .ok (.getfield 18, 3) := by decide +kernel
theorem dX5_told_48 : decode cX5_told 48 = .ok (.aload_n 0, 1) := by decide +kernel
theorem dX5_told_49 : decode cX5_told 49 = .ok (.getfield 49, 3) := by decide +kernel
theorem dX5_told_52 : decode cX5_told 52 = .ok (.iload_n 1, 1) := by decide +kernel
theorem dX5_told_53 : decode cX5_told 53 = .ok (.iadd, 1) := by decide +kernel
theorem dX5_told_54 : decode cX5_told 54 = .ok (.iaload, 1) := by decide +kernel
theorem dX5_told_55 : decode cX5_told 55 = .ok (.ireturn, 1) := by decide +kernel
theorem dX5_told_56 : decode cX5_told 56 = .ok (.aload_n 0, 1) := by decide +kernel
theorem dX5_told_57 : decode cX5_told 57 = .ok (.getfield 21, 3) := by decide +kernel
theorem dX5_told_60 : decode cX5_told 60 = .ok (.aload_n 0, 1) := by decide +kernel
theorem dX5_told_61 : decode cX5_told 61 = .ok (.getfield 49, 3) := by decide +kernel
theorem dX5_told_64 : decode cX5_told 64 = .ok (.iload_n 1, 1) := by decide +kernel
theorem dX5_told_65 : decode cX5_told 65 = .ok (.iadd, 1) := by decide +kernel
theorem dX5_told_66 : decode cX5_told 66 = .ok (.iaload, 1) := by decide +kernel
theorem dX5_told_67 : decode cX5_told 67 = .ok (.ireturn, 1) := by decide +kernel
theorem dX5_told_68 : decode cX5_told 68 = .ok (.aload_n 0, 1) := by decide +kernel
theorem dX5_told_69 : decode cX5_told 69 = .ok (.getfield 24, 3) := by decide +kernel
theorem dX5_told_72 : decode cX5_told 72 = .ok (.aload_n 0, 1) := by decide +kernel
theorem dX5_told_73 : decode cX5_told 73 = .ok (.getfield 49, 3) := by decide +kernel
theorem dX5_told_76 : decode cX5_told 76 = .ok (.iload_n 1, 1) := by decide +kernel
theorem dX5_told_77 : decode cX5_told 77 = .ok (.iadd, 1) := by decide +kernel
theorem dX5_told_78 : decode cX5_told 78 = .ok (.iaload, 1) := by decide +kernel
theorem dX5_told_79 : decode cX5_told 79 = .ok (.ireturn, 1) := by decide +kernel
theorem dX5_told_80 : decode cX5_told 80 = .ok (.aload_n 0, 1) := by decide +kernel
theorem dX5_told_81 : decode cX5_told 81 = .ok (.getfield 15, 3) := by decide +kernel
theorem dX5_told_84 : decode cX5_told 84 = .ok (.aload_n 0, 1) := by decide +kernel
theorem dX5_told_85 : decode cX5_told 85 = .ok (.getfield 49, 3) := by decide +kernel
theorem dX5_told_88 : decode cX5_told 88 = .ok (.iload_n 1, 1) := by decide +kernel
theorem dX5_told_89 : decode cX5_told 89 = .ok (.iadd, 1) := by decide +kernel
theorem dX5_told_90 : decode cX5_told 90 = .ok (.iaload, 1) := by decide +kernel
theorem dX5_told_91 : decode cX5_told 91 = .ok (.ireturn, 1) := by decide +kernel
theorem dX5_told_92 : decode cX5_told 92 = .ok (.iconst (-1), 1) := by decide +kernel
theorem dX5_told_93 : decode cX5_told 93 = .ok (.ireturn, 1) := by decide +kernel
def wW_X5_told (G : GG) (h0 h1 h2 h3 h4 y0_0 y0_5 : Nat) (x0_6 : Int32) (x0_7 : Int32) (x0_8 : Int32) (a1 : Nat → Int32) (a2 : Nat → Int32) (a3 : Nat → Int32) (a4 : Nat → Int32) : va_W := [(h0, .inr (5, [.ref y0_0, .ref h1, .ref h2, .ref h3, .ref h4, .ref y0_5, .int x0_6, .int x0_7, .int x0_8])), (h1, .inl (G.2.1, 128, .inl a1)), (h2, .inl (G.2.1, 128, .inl a2)), (h3, .inl (G.2.1, 128, .inl a3)), (h4, .inl (G.2.1, 128, .inl a4))]
set_option maxHeartbeats 4000000 in
set_option maxRecDepth 100000 in
theorem c_X5_told (l : Launch) (G : GG) (h0 h1 h2 h3 h4 y0_0 y0_5 : Nat) (sz : Nat) (x0_6 : Int32) (x0_7 : Int32) (x0_8 : Int32) (a1 : Nat → Int32) (a2 : Nat → Int32) (a3 : Nat → Int32) (a4 : Nat → Int32) (F : Nat) (b1 : Int32) (b2 : Int32)  (r0 : Int32) (hf : p_X5_told F x0_6 x0_8 a1 a2 a3 a4 b1 b2 = some r0) : Met l yX5_told (.code yX5_told cX5_told 3 (some .int) :: gtbl) ({ frames := 1, cells := 0, slots := 0, locals := 20 } : Room) (PcS G [.ref h0, .int b1, .int b2] (wW_X5_told G h0 h1 h2 h3 h4 y0_0 y0_5 x0_6 x0_7 x0_8 a1 a2 a3 a4) sz) (QiS G r0 (va_A (wW_X5_told G h0 h1 h2 h3 h4 y0_0 y0_5 x0_6 x0_7 x0_8 a1 a2 a3 a4) sz) (wW_X5_told G h0 h1 h2 h3 h4 y0_0 y0_5 x0_6 x0_7 x0_8 a1 a2 a3 a4)) 0 0 (va_A (wW_X5_told G h0 h1 h2 h3 h4 y0_0 y0_5 x0_6 x0_7 x0_8 a1 a2 a3 a4) sz) := by
  refine met_start (by decide) (Nat.le_of_ble_eq_true rfl) ?_
  intro p e s m below meth c hC hr hlk hnm hK hP hD hA hS hX ls hl
  obtain ⟨hx, hb, hml, hown, ht0⟩ := hC
  have hown : s.vm.findClass RX5 = some m.cls := hown
  generalize va_A (wW_X5_told G h0 h1 h2 h3 h4 y0_0 y0_5 x0_6 x0_7 x0_8 a1 a2 a3 a4) sz = A at hD hA hS hX ⊢
  have hl : lv_has ls 3 [(0, .ref h0), (1, .int b1), (2, .int b2)] := hl
  have hf : p_X5_told F x0_6 x0_8 a1 a2 a3 a4 b1 b2 = some r0 := hf
  refine lv_iload_n hx hb dX5_told_0 rfl (lv_at hl 1 rfl) ?_
  refine lv_if_lt (tgt := 12) hx hb dX5_told_1 (by decide) (fun c1 => ?_) (fun c1 => ?_)
  · have hf := of_pos hf c1
    refine lv_iconst (v := (-1 : Int32)) hx hb dX5_told_12 (by decide) ?_
    cases hf
    exact ret_i hx hb hr hlk hK hP hD hS dX5_told_13
  · have hf := of_neg hf c1
    refine lv_iload_n hx hb dX5_told_4 rfl (lv_at hl 1 rfl) ?_
    refine lv_aload_n hx hb dX5_told_5 rfl (lv_at hl 0 rfl) ?_
    obtain ⟨r_6_1, hc_r_6_1, hf⟩ := of_bnd hf
    refine cl_Vi (w2 := (wW_X5_told G h0 h1 h2 h3 h4 y0_0 y0_5 x0_6 x0_7 x0_8 a1 a2 a3 a4)) (As := []) (rest := [.int b1]) ⟨hx, hb, hml, hown, ht0⟩ (c_X5_countMore l G h0 y0_0 h1 h2 h3 h4 y0_5 _ x0_6 x0_7 x0_8 F _ hc_r_6_1) yk_X5_countMore wd_1140 ⟨rfl, rfl, by decide, by decide⟩ ⟨Nat.le_refl _, Nat.le_refl _⟩ hX hK hP hD hS hA [0] [1, 2, 3, 4] [4, 0, 1, 2, 3] (va_recv hK hP (ci := 5) (q0 := 0) rfl rfl) rfl rfl (by decide) rfl rfl rfl rfl rfl hl.1 rfl (Nat.le_of_ble_eq_true rfl) dX5_told_6 (fun H locs hP hD hS => ?_)
    refine lv_icmp_lt (tgt := 14) hx hb dX5_told_9 (by decide) (fun c3 => ?_) (fun c3 => ?_)
    · have hf := of_pos hf c3
      refine lv_iload_n hx hb dX5_told_14 rfl (lv_at hl 2 rfl) ?_
      by_cases c4 : b2 = (0 : Int32)
      · have hf := of_pos hf c4
        refine lv_tableIn (off := 29) (tgt := 44) hx hb dX5_told_15 (by rw [c4]; decide) (by rw [c4]; decide) (by rw [c4]; rfl) (by decide) ?_
        refine lv_aload_n hx hb dX5_told_44 rfl (lv_at hl 0 rfl) ?_
        refine va_get (ci := 5) (v := .ref h2) (C := RX5) (T := TX5) (N := 9) hx hb ht0 iX5 hown hK hP 0 rfl rfl 2 (by decide) (ht0 _ wd_428) (fun _ h9 => h9) rfl dX5_told_45 ?_
        refine lv_aload_n hx hb dX5_told_48 rfl (lv_at hl 0 rfl) ?_
        refine va_get (ci := 5) (v := .int x0_6) (C := RX5) (T := TX5) (N := 9) hx hb ht0 iX5 hown hK hP 0 rfl rfl 6 (by decide) (ht0 _ wd_432) (fun _ h9 => h9) rfl dX5_told_49 ?_
        refine lv_iload_n hx hb dX5_told_52 rfl (lv_at hl 1 rfl) ?_
        refine lv_iadd hx hb dX5_told_53 ?_
        obtain ⟨g5, hf⟩ := of_grd hf
        refine va_iald hx hb hK hP 2 0 rfl rfl g5 dX5_told_54 ?_
        cases hf
        exact ret_i hx hb hr hlk hK hP hD hS dX5_told_55
      have hf := of_neg hf c4
      by_cases c6 : b2 = (1 : Int32)
      · have hf := of_pos hf c6
        refine lv_tableIn (off := 41) (tgt := 56) hx hb dX5_told_15 (by rw [c6]; decide) (by rw [c6]; decide) (by rw [c6]; rfl) (by decide) ?_
        refine lv_aload_n hx hb dX5_told_56 rfl (lv_at hl 0 rfl) ?_
        refine va_get (ci := 5) (v := .ref h3) (C := RX5) (T := TX5) (N := 9) hx hb ht0 iX5 hown hK hP 0 rfl rfl 3 (by decide) (ht0 _ wd_429) (fun _ h9 => h9) rfl dX5_told_57 ?_
        refine lv_aload_n hx hb dX5_told_60 rfl (lv_at hl 0 rfl) ?_
        refine va_get (ci := 5) (v := .int x0_6) (C := RX5) (T := TX5) (N := 9) hx hb ht0 iX5 hown hK hP 0 rfl rfl 6 (by decide) (ht0 _ wd_432) (fun _ h9 => h9) rfl dX5_told_61 ?_
        refine lv_iload_n hx hb dX5_told_64 rfl (lv_at hl 1 rfl) ?_
        refine lv_iadd hx hb dX5_told_65 ?_
        obtain ⟨g7, hf⟩ := of_grd hf
        refine va_iald hx hb hK hP 3 0 rfl rfl g7 dX5_told_66 ?_
        cases hf
        exact ret_i hx hb hr hlk hK hP hD hS dX5_told_67
      have hf := of_neg hf c6
      by_cases c8 : b2 = (2 : Int32)
      · have hf := of_pos hf c8
        refine lv_tableIn (off := 53) (tgt := 68) hx hb dX5_told_15 (by rw [c8]; decide) (by rw [c8]; decide) (by rw [c8]; rfl) (by decide) ?_
        refine lv_aload_n hx hb dX5_told_68 rfl (lv_at hl 0 rfl) ?_
        refine va_get (ci := 5) (v := .ref h4) (C := RX5) (T := TX5) (N := 9) hx hb ht0 iX5 hown hK hP 0 rfl rfl 4 (by decide) (ht0 _ wd_430) (fun _ h9 => h9) rfl dX5_told_69 ?_
        refine lv_aload_n hx hb dX5_told_72 rfl (lv_at hl 0 rfl) ?_
        refine va_get (ci := 5) (v := .int x0_6) (C := RX5) (T := TX5) (N := 9) hx hb ht0 iX5 hown hK hP 0 rfl rfl 6 (by decide) (ht0 _ wd_432) (fun _ h9 => h9) rfl dX5_told_73 ?_
        refine lv_iload_n hx hb dX5_told_76 rfl (lv_at hl 1 rfl) ?_
        refine lv_iadd hx hb dX5_told_77 ?_
        obtain ⟨g9, hf⟩ := of_grd hf
        refine va_iald hx hb hK hP 4 0 rfl rfl g9 dX5_told_78 ?_
        cases hf
        exact ret_i hx hb hr hlk hK hP hD hS dX5_told_79
      have hf := of_neg hf c8
      by_cases c10 : b2 = (3 : Int32)
      · have hf := of_pos hf c10
        refine lv_tableIn (off := 65) (tgt := 80) hx hb dX5_told_15 (by rw [c10]; decide) (by rw [c10]; decide) (by rw [c10]; rfl) (by decide) ?_
        refine lv_aload_n hx hb dX5_told_80 rfl (lv_at hl 0 rfl) ?_
        refine va_get (ci := 5) (v := .ref h1) (C := RX5) (T := TX5) (N := 9) hx hb ht0 iX5 hown hK hP 0 rfl rfl 1 (by decide) (ht0 _ wd_427) (fun _ h9 => h9) rfl dX5_told_81 ?_
        refine lv_aload_n hx hb dX5_told_84 rfl (lv_at hl 0 rfl) ?_
        refine va_get (ci := 5) (v := .int x0_6) (C := RX5) (T := TX5) (N := 9) hx hb ht0 iX5 hown hK hP 0 rfl rfl 6 (by decide) (ht0 _ wd_432) (fun _ h9 => h9) rfl dX5_told_85 ?_
        refine lv_iload_n hx hb dX5_told_88 rfl (lv_at hl 1 rfl) ?_
        refine lv_iadd hx hb dX5_told_89 ?_
        obtain ⟨g11, hf⟩ := of_grd hf
        refine va_iald hx hb hK hP 1 0 rfl rfl g11 dX5_told_90 ?_
        cases hf
        exact ret_i hx hb hr hlk hK hP hD hS dX5_told_91
      have hf := of_neg hf c10
      refine lv_tableOut (tgt := 92) hx hb dX5_told_15 (by have n0 := lv_neT (a := 0) c4 rfl; have n1 := lv_neT (a := 1) c6 rfl; have n2 := lv_neT (a := 2) c8 rfl; have n3 := lv_neT (a := 3) c10 rfl; omega) (by decide) ?_
      refine lv_iconst (v := (-1 : Int32)) hx hb dX5_told_92 (by decide) ?_
      cases hf
      exact ret_i hx hb hr hlk hK hP hD hS dX5_told_93
    · have hf := of_neg hf c3
      refine lv_iconst (v := (-1 : Int32)) hx hb dX5_told_12 (by decide) ?_
      cases hf
      exact ret_i hx hb hr hlk hK hP hD hS dX5_told_13
theorem yk_X5_told : ykV yX5_told RX5 cX5_told 3 (some .int) 2 := ⟨wd_1163, wd_1164, wd_137, wd_1165, rfl, by decide +kernel, by decide +kernel, by decide +kernel⟩
theorem dX5_countInRow_0 : decode cX5_countInRow 0 = .ok (.iconst 0, 1) := by decide +kernel
theorem dX5_countInRow_1 : decode cX5_countInRow 1 = .ok (.istore_n 2, 1) := by decide +kernel
theorem dX5_countInRow_2 : decode cX5_countInRow 2 = .ok (.iconst 0, 1) := by decide +kernel
theorem dX5_countInRow_3 : decode cX5_countInRow 3 = .ok (.istore_n 3, 1) := by decide +kernel
theorem dX5_countInRow_4 : decode cX5_countInRow 4 = .ok (.iload_n 3, 1) := by decide +kernel
theorem dX5_countInRow_5 : decode cX5_countInRow 5 = .ok (.aload_n 0, 1) := by decide +kernel
theorem dX5_countInRow_6 : decode cX5_countInRow 6 = .ok (.getfield 51, 3) := by decide +kernel
theorem dX5_countInRow_9 : decode cX5_countInRow 9 = .ok (.if_icmp .ge 22, 3) := by decide +kernel
theorem dX5_countInRow_12 : decode cX5_countInRow 12 = .ok (.iload_n 2, 1) := by decide +kernel
theorem dX5_countInRow_13 : decode cX5_countInRow 13 = .ok (.aload_n 0, 1) := by decide +kernel
theorem dX5_countInRow_14 : decode cX5_countInRow 14 = .ok (.getfield 11, 3) := by decide +kernel
theorem dX5_countInRow_17 : decode cX5_countInRow 17 = .ok (.iload_n 3, 1) := by decide +kernel
theorem dX5_countInRow_18 : decode cX5_countInRow 18 = .ok (.iaload, 1) := by decide +kernel
theorem dX5_countInRow_19 : decode cX5_countInRow 19 = .ok (.iload_n 1, 1) := by decide +kernel
theorem dX5_countInRow_20 : decode cX5_countInRow 20 = .ok (.iushr, 1) := by decide +kernel
theorem dX5_countInRow_21 : decode cX5_countInRow 21 = .ok (.iconst 1, 1) := by decide +kernel
theorem dX5_countInRow_22 : decode cX5_countInRow 22 = .ok (.iand, 1) := by decide +kernel
theorem dX5_countInRow_23 : decode cX5_countInRow 23 = .ok (.iadd, 1) := by decide +kernel
theorem dX5_countInRow_24 : decode cX5_countInRow 24 = .ok (.istore_n 2, 1) := by decide +kernel
theorem dX5_countInRow_25 : decode cX5_countInRow 25 = .ok (.iinc 3 1, 3) := by decide +kernel
theorem dX5_countInRow_28 : decode cX5_countInRow 28 = .ok (.goto (-24), 3) := by decide +kernel
theorem dX5_countInRow_31 : decode cX5_countInRow 31 = .ok (.iload_n 2, 1) := by decide +kernel
theorem dX5_countInRow_32 : decode cX5_countInRow 32 = .ok (.ireturn, 1) := by decide +kernel
def wW_X5_countInRow (G : GG) (h0 h1 y0_1 y0_2 y0_3 y0_4 y0_5 : Nat) (x0_6 : Int32) (x0_7 : Int32) (x0_8 : Int32) (a1 : Nat → Int32) : va_W := [(h0, .inr (5, [.ref h1, .ref y0_1, .ref y0_2, .ref y0_3, .ref y0_4, .ref y0_5, .int x0_6, .int x0_7, .int x0_8])), (h1, .inl (G.2.1, 128, .inl a1))]
set_option maxHeartbeats 4000000 in
set_option maxRecDepth 100000 in
theorem c_X5_countInRow (l : Launch) (G : GG) (h0 h1 y0_1 y0_2 y0_3 y0_4 y0_5 : Nat) (sz : Nat) (x0_6 : Int32) (x0_7 : Int32) (x0_8 : Int32) (a1 : Nat → Int32) (F : Nat) (b1 : Int32)  (r0 : Int32) (hf : p_X5_countInRow F x0_8 a1 b1 = some r0) : Met l yX5_countInRow (.code yX5_countInRow cX5_countInRow 4 (some .int) :: gtbl) ({ frames := 0, cells := 0, slots := 0, locals := 0 } : Room) (PcS G [.ref h0, .int b1] (wW_X5_countInRow G h0 h1 y0_1 y0_2 y0_3 y0_4 y0_5 x0_6 x0_7 x0_8 a1) sz) (QiS G r0 (va_A (wW_X5_countInRow G h0 h1 y0_1 y0_2 y0_3 y0_4 y0_5 x0_6 x0_7 x0_8 a1) sz) (wW_X5_countInRow G h0 h1 y0_1 y0_2 y0_3 y0_4 y0_5 x0_6 x0_7 x0_8 a1)) 0 0 (va_A (wW_X5_countInRow G h0 h1 y0_1 y0_2 y0_3 y0_4 y0_5 x0_6 x0_7 x0_8 a1) sz) := by
  refine met_start (by decide) (Nat.le_of_ble_eq_true rfl) ?_
  intro p e s m below meth c hC hr hlk hnm hK hP hD hA hS hX ls hl
  obtain ⟨hx, hb, hml, hown, ht0⟩ := hC
  have hown : s.vm.findClass RX5 = some m.cls := hown
  generalize va_A (wW_X5_countInRow G h0 h1 y0_1 y0_2 y0_3 y0_4 y0_5 x0_6 x0_7 x0_8 a1) sz = A at hD hA hS hX ⊢
  have hl : lv_has ls 4 [(0, .ref h0), (1, .int b1)] := hl
  have hf : p_X5_countInRow F x0_8 a1 b1 = some r0 := hf
  have kL4 : ∀ (c4_1 : Int32) (n4 : Nat) (u4_2 : Int32) (u4_3 : Int32), p_X5_countInRow_L4 F x0_8 a1 c4_1 n4 u4_2 u4_3 = some r0 → ∀ (H : Heap) (locs : List Loc), va_P G.1 vwCl (wW_X5_countInRow G h0 h1 y0_1 y0_2 y0_3 y0_4 y0_5 x0_6 x0_7 x0_8 a1) H → va_D A (wW_X5_countInRow G h0 h1 y0_1 y0_2 y0_3 y0_4 y0_5 x0_6 x0_7 x0_8 a1) → va_S A s.heap H locs → ∀ ls : Array Slot, lv_has ls 4 [(0, .ref h0), (1, .int c4_1), (2, .int u4_2), (3, .int u4_3)] → W p l e ({ frames := 0, cells := 0, slots := 0, locals := 0 } : Room) s m (List.toArray [.ref h0, .int b1]) below meth c H locs 0 0 (MQ below (QiS G r0 A (wW_X5_countInRow G h0 h1 y0_1 y0_2 y0_3 y0_4 y0_5 x0_6 x0_7 x0_8 a1)) (List.toArray [.ref h0, .int b1]) s 0 0 A) (F0 m 4 ls []) := by
    intro c4_1 n4
    induction n4 with
    | zero =>
      intro u4_2 u4_3 hf
      cases hf
    | succ n4 ih4 =>
      intro u4_2 u4_3 hf H locs hP hD hS ls hl
      have hf : p_X5_countInRow_L4b F x0_8 a1 c4_1 (p_X5_countInRow_L4 F x0_8 a1 c4_1 n4) u4_2 u4_3 = some r0 := hf
      refine lv_iload_n hx hb dX5_countInRow_4 rfl (lv_at hl 3 rfl) ?_
      refine lv_aload_n hx hb dX5_countInRow_5 rfl (lv_at hl 0 rfl) ?_
      refine va_get (ci := 5) (v := .int x0_8) (C := RX5) (T := TX5) (N := 9) hx hb ht0 iX5 hown hK hP 0 rfl rfl 8 (by decide) (ht0 _ wd_434) (fun _ h9 => h9) rfl dX5_countInRow_6 ?_
      refine lv_icmp_ge (tgt := 31) hx hb dX5_countInRow_9 (by decide) (fun c1 => ?_) (fun c1 => ?_)
      · have hf := of_pos hf c1
        refine lv_iload_n hx hb dX5_countInRow_31 rfl (lv_at hl 2 rfl) ?_
        cases hf
        exact ret_i hx hb hr hlk hK hP hD hS dX5_countInRow_32
      · have hf := of_neg hf c1
        refine lv_iload_n hx hb dX5_countInRow_12 rfl (lv_at hl 2 rfl) ?_
        refine lv_aload_n hx hb dX5_countInRow_13 rfl (lv_at hl 0 rfl) ?_
        refine va_get (ci := 5) (v := .ref h1) (C := RX5) (T := TX5) (N := 9) hx hb ht0 iX5 hown hK hP 0 rfl rfl 0 (by decide) (ht0 _ wd_426) (fun _ h9 => h9) rfl dX5_countInRow_14 ?_
        refine lv_iload_n hx hb dX5_countInRow_17 rfl (lv_at hl 3 rfl) ?_
        obtain ⟨g2, hf⟩ := of_grd hf
        refine va_iald hx hb hK hP 1 0 rfl rfl g2 dX5_countInRow_18 ?_
        refine lv_iload_n hx hb dX5_countInRow_19 rfl (lv_at hl 1 rfl) ?_
        refine lv_iushr (v := jushr (a1 u4_3.toNatClampNeg) c4_1) hx hb dX5_countInRow_20 rfl ?_
        refine lv_iconst (v := (1 : Int32)) hx hb dX5_countInRow_21 (by decide) ?_
        refine lv_iand hx hb dX5_countInRow_22 ?_
        refine lv_iadd hx hb dX5_countInRow_23 ?_
        refine lv_topi (fun z3 ez3 => ?_)
        have hf := of_jlet hf ez3
        refine lv_istore_n (lv' := [(2, .int z3), (0, .ref h0), (1, .int c4_1), (3, .int u4_3)]) hx hb dX5_countInRow_24 rfl hl (by decide) rfl (fun ls hl => ?_)
        refine lv_iinc (v := u4_3 + (1 : Int32)) (lv' := [(3, .int (u4_3 + (1 : Int32))), (2, .int z3), (0, .ref h0), (1, .int c4_1)]) hx hb dX5_countInRow_25 hl (k := 3) rfl (by rfl) (by decide) rfl (fun ls hl => ?_)
        refine lv_goto (tgt := 4) hx hb dX5_countInRow_28 (by decide) ?_
        exact ih4 _ _ hf _ _ hP hD hS _ (lv_sub hl [2, 3, 1, 0] rfl)
  refine lv_iconst (v := (0 : Int32)) hx hb dX5_countInRow_0 (by decide) ?_
  refine lv_istore_n (lv' := [(2, .int (0 : Int32)), (0, .ref h0), (1, .int b1)]) hx hb dX5_countInRow_1 rfl hl (by decide) rfl (fun ls hl => ?_)
  refine lv_iconst (v := (0 : Int32)) hx hb dX5_countInRow_2 (by decide) ?_
  refine lv_istore_n (lv' := [(3, .int (0 : Int32)), (2, .int (0 : Int32)), (0, .ref h0), (1, .int b1)]) hx hb dX5_countInRow_3 rfl hl (by decide) rfl (fun ls hl => ?_)
  exact kL4 _ _ _ _ hf _ _ hP hD hS _ (lv_sub hl [2, 3, 1, 0] rfl)
theorem yk_X5_countInRow : ykV yX5_countInRow RX5 cX5_countInRow 4 (some .int) 1 := ⟨wd_1146, wd_36, wd_137, wd_1147, rfl, by decide +kernel, by decide +kernel, by decide +kernel⟩
theorem dX5_countGates_0 : decode cX5_countGates 0 = .ok (.aload_n 0, 1) := by decide +kernel
theorem dX5_countGates_1 : decode cX5_countGates 1 = .ok (.invokevirtual 70, 3) := by decide +kernel
theorem dX5_countGates_4 : decode cX5_countGates 4 = .ok (.istore_n 1, 1) := by decide +kernel
theorem dX5_countGates_5 : decode cX5_countGates 5 = .ok (.iconst 0, 1) := by decide +kernel
theorem dX5_countGates_6 : decode cX5_countGates 6 = .ok (.istore_n 2, 1) := by decide +kernel
theorem dX5_countGates_7 : decode cX5_countGates 7 = .ok (.iload_n 2, 1) := by decide +kernel
theorem dX5_countGates_8 : decode cX5_countGates 8 = .ok (.aload_n 0, 1) := by decide +kernel
theorem dX5_countGates_9 : decode cX5_countGates 9 = .ok (.getfield 50, 3) := by decide +kernel
theorem dX5_countGates_12 : decode cX5_countGates 12 = .ok (.if_icmp .ge 23, 3) := by decide +kernel
theorem dX5_countGates_15 : decode cX5_countGates 15 = .ok (.iload_n 1, 1) := by decide +kernel
theorem dX5_countGates_16 : decode cX5_countGates 16 = .ok (.iconst 0, 1) := by decide +kernel
theorem dX5_countGates_17 : decode cX5_countGates 17 = .ok (.aload_n 0, 1) := by decide +kernel
theorem dX5_countGates_18 : decode cX5_countGates 18 = .ok (.iload_n 2, 1) := by decide +kernel
theorem dX5_countGates_19 : decode cX5_countGates 19 = .ok (.invokevirtual 74, 3) := by decide +kernel
theorem dX5_countGates_22 : decode cX5_countGates 22 = .ok (.iconst 1, 1) := by decide +kernel
theorem dX5_countGates_23 : decode cX5_countGates 23 = .ok (.isub, 1) := by decide +kernel
theorem dX5_countGates_24 : decode cX5_countGates 24 = .ok (.invokestatic 40, 3) := by decide +kernel
theorem dX5_countGates_27 : decode cX5_countGates 27 = .ok (.iadd, 1) := by decide +kernel
theorem dX5_countGates_28 : decode cX5_countGates 28 = .ok (.istore_n 1, 1) := by decide +kernel
theorem dX5_countGates_29 : decode cX5_countGates 29 = .ok (.iinc 2 1, 3) := by decide +kernel
theorem dX5_countGates_32 : decode cX5_countGates 32 = .ok (.goto (-25), 3) := by decide +kernel
theorem dX5_countGates_35 : decode cX5_countGates 35 = .ok (.iload_n 1, 1) := by decide +kernel
theorem dX5_countGates_36 : decode cX5_countGates 36 = .ok (.ireturn, 1) := by decide +kernel
def wW_X5_countGates (G : GG) (h0 h1 y0_1 y0_2 y0_3 y0_4 y0_5 : Nat) (x0_6 : Int32) (x0_7 : Int32) (x0_8 : Int32) (a1 : Nat → Int32) : va_W := [(h0, .inr (5, [.ref h1, .ref y0_1, .ref y0_2, .ref y0_3, .ref y0_4, .ref y0_5, .int x0_6, .int x0_7, .int x0_8])), (h1, .inl (G.2.1, 128, .inl a1))]
set_option maxHeartbeats 4000000 in
set_option maxRecDepth 100000 in
theorem c_X5_countGates (l : Launch) (G : GG) (h0 h1 y0_1 y0_2 y0_3 y0_4 y0_5 : Nat) (sz : Nat) (x0_6 : Int32) (x0_7 : Int32) (x0_8 : Int32) (a1 : Nat → Int32) (F : Nat)   (r0 : Int32) (hf : p_X5_countGates F x0_6 x0_7 x0_8 a1  = some r0) : Met l yX5_countGates (.code yX5_countGates cX5_countGates 3 (some .int) :: gtbl) ({ frames := 1, cells := 0, slots := 0, locals := 23 } : Room) (PcS G [.ref h0] (wW_X5_countGates G h0 h1 y0_1 y0_2 y0_3 y0_4 y0_5 x0_6 x0_7 x0_8 a1) sz) (QiS G r0 (va_A (wW_X5_countGates G h0 h1 y0_1 y0_2 y0_3 y0_4 y0_5 x0_6 x0_7 x0_8 a1) sz) (wW_X5_countGates G h0 h1 y0_1 y0_2 y0_3 y0_4 y0_5 x0_6 x0_7 x0_8 a1)) 0 0 (va_A (wW_X5_countGates G h0 h1 y0_1 y0_2 y0_3 y0_4 y0_5 x0_6 x0_7 x0_8 a1) sz) := by
  refine met_start (by decide) (Nat.le_of_ble_eq_true rfl) ?_
  intro p e s m below meth c hC hr hlk hnm hK hP hD hA hS hX ls hl
  obtain ⟨hx, hb, hml, hown, ht0⟩ := hC
  have hown : s.vm.findClass RX5 = some m.cls := hown
  generalize va_A (wW_X5_countGates G h0 h1 y0_1 y0_2 y0_3 y0_4 y0_5 x0_6 x0_7 x0_8 a1) sz = A at hD hA hS hX ⊢
  have hl : lv_has ls 3 [(0, .ref h0)] := hl
  have hf : p_X5_countGates F x0_6 x0_7 x0_8 a1  = some r0 := hf
  have kL7 : ∀ (n7 : Nat) (u7_1 : Int32) (u7_2 : Int32), p_X5_countGates_L7 F x0_6 x0_7 x0_8 a1 n7 u7_1 u7_2 = some r0 → ∀ (H : Heap) (locs : List Loc), va_P G.1 vwCl (wW_X5_countGates G h0 h1 y0_1 y0_2 y0_3 y0_4 y0_5 x0_6 x0_7 x0_8 a1) H → va_D A (wW_X5_countGates G h0 h1 y0_1 y0_2 y0_3 y0_4 y0_5 x0_6 x0_7 x0_8 a1) → va_S A s.heap H locs → ∀ ls : Array Slot, lv_has ls 3 [(0, .ref h0), (1, .int u7_1), (2, .int u7_2)] → W p l e ({ frames := 1, cells := 0, slots := 0, locals := 23 } : Room) s m (List.toArray [.ref h0]) below meth c H locs 0 0 (MQ below (QiS G r0 A (wW_X5_countGates G h0 h1 y0_1 y0_2 y0_3 y0_4 y0_5 x0_6 x0_7 x0_8 a1)) (List.toArray [.ref h0]) s 0 0 A) (F0 m 7 ls []) := by
    intro n7
    induction n7 with
    | zero =>
      intro u7_1 u7_2 hf
      cases hf
    | succ n7 ih7 =>
      intro u7_1 u7_2 hf H locs hP hD hS ls hl
      have hf : p_X5_countGates_L7b F x0_6 x0_7 x0_8 a1 (p_X5_countGates_L7 F x0_6 x0_7 x0_8 a1 n7) u7_1 u7_2 = some r0 := hf
      refine lv_iload_n hx hb dX5_countGates_7 rfl (lv_at hl 2 rfl) ?_
      refine lv_aload_n hx hb dX5_countGates_8 rfl (lv_at hl 0 rfl) ?_
      refine va_get (ci := 5) (v := .int x0_7) (C := RX5) (T := TX5) (N := 9) hx hb ht0 iX5 hown hK hP 0 rfl rfl 7 (by decide) (ht0 _ wd_433) (fun _ h9 => h9) rfl dX5_countGates_9 ?_
      refine lv_icmp_ge (tgt := 35) hx hb dX5_countGates_12 (by decide) (fun c1 => ?_) (fun c1 => ?_)
      · have hf := of_pos hf c1
        refine lv_iload_n hx hb dX5_countGates_35 rfl (lv_at hl 1 rfl) ?_
        cases hf
        exact ret_i hx hb hr hlk hK hP hD hS dX5_countGates_36
      · have hf := of_neg hf c1
        refine lv_iload_n hx hb dX5_countGates_15 rfl (lv_at hl 1 rfl) ?_
        refine lv_iconst (v := (0 : Int32)) hx hb dX5_countGates_16 (by decide) ?_
        refine lv_aload_n hx hb dX5_countGates_17 rfl (lv_at hl 0 rfl) ?_
        refine lv_iload_n hx hb dX5_countGates_18 rfl (lv_at hl 2 rfl) ?_
        obtain ⟨r_19_1, hc_r_19_1, hf⟩ := of_bnd hf
        refine cl_Vi (w2 := (wW_X5_countGates G h0 h1 y0_1 y0_2 y0_3 y0_4 y0_5 x0_6 x0_7 x0_8 a1)) (As := [.int u7_2]) (rest := [.int (0 : Int32), .int u7_1]) ⟨hx, hb, hml, hown, ht0⟩ (c_X5_countInRow l G h0 h1 y0_1 y0_2 y0_3 y0_4 y0_5 _ x0_6 x0_7 x0_8 a1 F u7_2 _ hc_r_19_1) yk_X5_countInRow wd_1144 ⟨rfl, rfl, by decide, by decide⟩ ⟨Nat.le_refl _, Nat.le_refl _⟩ hX hK hP hD hS hA [0, 1] [] [0, 1] (va_recv hK hP (ci := 5) (q0 := 0) rfl rfl) rfl rfl (by decide) rfl rfl rfl rfl rfl hl.1 rfl (Nat.le_of_ble_eq_true rfl) dX5_countGates_19 (fun H locs hP hD hS => ?_)
        refine lv_iconst (v := (1 : Int32)) hx hb dX5_countGates_22 (by decide) ?_
        refine lv_isub hx hb dX5_countGates_23 ?_
        refine va_mmax hx hb (by rw [hml]; exact hl.1.symm) hown (ht0 _ wd_1122) (ht0 _ wd_517) (ht0 _ wd_140) (ht0 _ wd_518) (by decide) (Nat.le_of_ble_eq_true rfl) (Nat.zero_le _) (Nat.zero_le _) dX5_countGates_24 ?_
        refine lv_iadd hx hb dX5_countGates_27 ?_
        refine lv_topi (fun z3 ez3 => ?_)
        have hf := of_jlet hf ez3
        refine lv_istore_n (lv' := [(1, .int z3), (0, .ref h0), (2, .int u7_2)]) hx hb dX5_countGates_28 rfl hl (by decide) rfl (fun ls hl => ?_)
        refine lv_iinc (v := u7_2 + (1 : Int32)) (lv' := [(2, .int (u7_2 + (1 : Int32))), (1, .int z3), (0, .ref h0)]) hx hb dX5_countGates_29 hl (k := 2) rfl (by rfl) (by decide) rfl (fun ls hl => ?_)
        refine lv_goto (tgt := 7) hx hb dX5_countGates_32 (by decide) ?_
        exact ih7 _ _ hf _ _ hP hD hS _ (lv_sub hl [2, 1, 0] rfl)
  refine lv_aload_n hx hb dX5_countGates_0 rfl (lv_at hl 0 rfl) ?_
  obtain ⟨r_1_3, hc_r_1_3, hf⟩ := of_bnd hf
  refine cl_Vi (w2 := (wW_X5_countGates G h0 h1 y0_1 y0_2 y0_3 y0_4 y0_5 x0_6 x0_7 x0_8 a1)) (As := []) (rest := []) ⟨hx, hb, hml, hown, ht0⟩ (c_X5_countMore l G h0 h1 y0_1 y0_2 y0_3 y0_4 y0_5 _ x0_6 x0_7 x0_8 F _ hc_r_1_3) yk_X5_countMore wd_1140 ⟨rfl, rfl, by decide, by decide⟩ ⟨Nat.le_refl _, Nat.le_refl _⟩ hX hK hP hD hS hA [0] [1] [1, 0] (va_recv hK hP (ci := 5) (q0 := 0) rfl rfl) rfl rfl (by decide) rfl rfl rfl rfl rfl hl.1 rfl (Nat.le_of_ble_eq_true rfl) dX5_countGates_1 (fun H locs hP hD hS => ?_)
  refine lv_istore_n (lv' := [(1, .int r_1_3), (0, .ref h0)]) hx hb dX5_countGates_4 rfl hl (by decide) rfl (fun ls hl => ?_)
  refine lv_iconst (v := (0 : Int32)) hx hb dX5_countGates_5 (by decide) ?_
  refine lv_istore_n (lv' := [(2, .int (0 : Int32)), (1, .int r_1_3), (0, .ref h0)]) hx hb dX5_countGates_6 rfl hl (by decide) rfl (fun ls hl => ?_)
  exact kL7 _ _ _ hf _ _ hP hD hS _ (lv_sub hl [2, 1, 0] rfl)
theorem yk_X5_countGates : ykV yX5_countGates RX5 cX5_countGates 3 (some .int) 0 := ⟨wd_1137, wd_1138, wd_137, wd_1139, rfl, by decide +kernel, by decide +kernel, by decide +kernel⟩
theorem dX5_depthOfRow_0 : decode cX5_depthOfRow 0 = .ok (.aload_n 0, 1) := by decide +kernel
theorem dX5_depthOfRow_1 : decode cX5_depthOfRow 1 = .ok (.getfield 27, 3) := by decide +kernel
theorem dX5_depthOfRow_4 : decode cX5_depthOfRow 4 = .ok (.iconst 0, 1) := by decide +kernel
theorem dX5_depthOfRow_5 : decode cX5_depthOfRow 5 = .ok (.invokestatic 80, 3) := by decide +kernel
theorem dX5_depthOfRow_8 : decode cX5_depthOfRow 8 = .ok (.iconst 0, 1) := by decide +kernel
theorem dX5_depthOfRow_9 : decode cX5_depthOfRow 9 = .ok (.istore_n 2, 1) := by decide +kernel
theorem dX5_depthOfRow_10 : decode cX5_depthOfRow 10 = .ok (.iconst 0, 1) := by decide +kernel
theorem dX5_depthOfRow_11 : decode cX5_depthOfRow 11 = .ok (.istore_n 3, 1) := by decide +kernel
theorem dX5_depthOfRow_12 : decode cX5_depthOfRow 12 = .ok (.iload_n 3, 1) := by decide +kernel
theorem dX5_depthOfRow_13 : decode cX5_depthOfRow 13 = .ok (.aload_n 0, 1) := by decide +kernel
theorem dX5_depthOfRow_14 : decode cX5_depthOfRow 14 = .ok (.getfield 51, 3) := by decide +kernel
theorem dX5_depthOfRow_17 : decode cX5_depthOfRow 17 = .ok (.if_icmp .ge 53, 3) := by decide +kernel
theorem dX5_depthOfRow_20 : decode cX5_depthOfRow 20 = .ok (.aload_n 0, 1) := by decide +kernel
theorem dX5_depthOfRow_21 : decode cX5_depthOfRow 21 = .ok (.getfield 11, 3) := by decide +kernel
theorem dX5_depthOfRow_24 : decode cX5_depthOfRow 24 = .ok (.iload_n 3, 1) := by decide +kernel
theorem dX5_depthOfRow_25 : decode cX5_depthOfRow 25 = .ok (.iaload, 1) := by decide +kernel
theorem dX5_depthOfRow_26 : decode cX5_depthOfRow 26 = .ok (.iload_n 1, 1) := by decide +kernel
theorem dX5_depthOfRow_27 : decode cX5_depthOfRow 27 = .ok (.iushr, 1) := by decide +kernel
theorem dX5_depthOfRow_28 : decode cX5_depthOfRow 28 = .ok (.iconst 1, 1) := by decide +kernel
theorem dX5_depthOfRow_29 : decode cX5_depthOfRow 29 = .ok (.iand, 1) := by decide +kernel
theorem dX5_depthOfRow_30 : decode cX5_depthOfRow 30 = .ok (.iconst 1, 1) := by decide +kernel
theorem dX5_depthOfRow_31 : decode cX5_depthOfRow 31 = .ok (.if_icmp .ne 33, 3) := by decide +kernel
theorem dX5_depthOfRow_34 : decode cX5_depthOfRow 34 = .ok (.aload_n 0, 1) := by decide +kernel
theorem dX5_depthOfRow_35 : decode cX5_depthOfRow 35 = .ok (.getfield 15, 3) := by decide +kernel
theorem dX5_depthOfRow_38 : decode cX5_depthOfRow 38 = .ok (.iload_n 3, 1) := by decide +kernel
theorem dX5_depthOfRow_39 : decode cX5_depthOfRow 39 = .ok (.iaload, 1) := by decide +kernel
theorem dX5_depthOfRow_40 : decode cX5_depthOfRow 40 = .ok (.sipush 128, 3) := by decide +kernel
theorem dX5_depthOfRow_43 : decode cX5_depthOfRow 43 = .ok (.if_icmp .ge 21, 3) := by decide +kernel
theorem dX5_depthOfRow_46 : decode cX5_depthOfRow 46 = .ok (.aload_n 0, 1) := by decide +kernel
theorem dX5_depthOfRow_47 : decode cX5_depthOfRow 47 = .ok (.getfield 27, 3) := by decide +kernel
theorem dX5_depthOfRow_50 : decode cX5_depthOfRow 50 = .ok (.aload_n 0, 1) := by decide +kernel
theorem dX5_depthOfRow_51 : decode cX5_depthOfRow 51 = .ok (.getfield 15, 3) := by decide +kernel
theorem dX5_depthOfRow_54 : decode cX5_depthOfRow 54 = .ok (.iload_n 3, 1) := by decide +kernel
theorem dX5_depthOfRow_55 : decode cX5_depthOfRow 55 = .ok (.iaload, 1) := by decide +kernel
theorem dX5_depthOfRow_56 : decode cX5_depthOfRow 56 = .ok (.dup2, 1) := by decide +kernel
theorem dX5_depthOfRow_57 : decode cX5_depthOfRow 57 = .ok (.iaload, 1) := by decide +kernel
theorem dX5_depthOfRow_58 : decode cX5_depthOfRow 58 = .ok (.iconst 1, 1) := by decide +kernel
theorem dX5_depthOfRow_59 : decode cX5_depthOfRow 59 = .ok (.iadd, 1) := by decide +kernel
theorem dX5_depthOfRow_60 : decode cX5_depthOfRow 60 = .ok (.iastore, 1) := by decide +kernel
theorem dX5_depthOfRow_61 : decode cX5_depthOfRow 61 = .ok (.iinc 2 1, 3) := by decide +kernel
theorem dX5_depthOfRow_64 : decode cX5_depthOfRow 64 = .ok (.iinc 3 1, 3) := by decide +kernel
theorem dX5_depthOfRow_67 : decode cX5_depthOfRow 67 = .ok (.goto (-55), 3) := by decide +kernel
theorem dX5_depthOfRow_70 : decode cX5_depthOfRow 70 = .ok (.iconst 0, 1) := by decide +kernel
theorem dX5_depthOfRow_71 : decode cX5_depthOfRow 71 = .ok (.istore_n 3, 1) := by decide +kernel
theorem dX5_depthOfRow_72 : decode cX5_depthOfRow 72 = .ok (.iload_n 3, 1) := by decide +kernel
theorem dX5_depthOfRow_73 : decode cX5_depthOfRow 73 = .ok (.bipush 127, 2) := by decide +kernel
theorem dX5_depthOfRow_75 : decode cX5_depthOfRow 75 = .ok (.if_icmp .ge 57, 3) := by decide +kernel
theorem dX5_depthOfRow_78 : decode cX5_depthOfRow 78 = .ok (.aload_n 0, 1) := by decide +kernel
theorem dX5_depthOfRow_79 : decode cX5_depthOfRow 79 = .ok (.getfield 27, 3) := by decide +kernel
theorem dX5_depthOfRow_82 : decode cX5_depthOfRow 82 = .ok (.iload_n 3, 1) := by decide +kernel
theorem dX5_depthOfRow_83 : decode cX5_depthOfRow 83 = .ok (.iaload, 1) := by decide +kernel
theorem dX5_depthOfRow_84 : decode cX5_depthOfRow 84 = .ok (.istore 4, 2) := by decide +kernel
theorem dX5_depthOfRow_86 : decode cX5_depthOfRow 86 = .ok (.iload_n 2, 1) := by decide +kernel
theorem dX5_depthOfRow_87 : decode cX5_depthOfRow 87 = .ok (.iconst 1, 1) := by decide +kernel
theorem dX5_depthOfRow_88 : decode cX5_depthOfRow 88 = .ok (.if_icmp .gt 11, 3) := by decide +kernel
theorem dX5_depthOfRow_91 : decode cX5_depthOfRow 91 = .ok (.iload 4, 2) := by decide +kernel
theorem dX5_depthOfRow_93 : decode cX5_depthOfRow 93 = .ok (.iload_n 2, 1) := by decide +kernel
theorem dX5_depthOfRow_94 : decode cX5_depthOfRow 94 = .ok (.if_icmp .ne 5, 3) := by decide +kernel
theorem dX5_depthOfRow_97 : decode cX5_depthOfRow 97 = .ok (.iload_n 3, 1) := by decide +kernel
theorem dX5_depthOfRow_98 : decode cX5_depthOfRow 98 = .ok (.ireturn, 1) := by decide +kernel
theorem dX5_depthOfRow_99 : decode cX5_depthOfRow 99 = .ok (.iload 4, 2) := by decide +kernel
theorem dX5_depthOfRow_101 : decode cX5_depthOfRow 101 = .ok (.iconst 2, 1) := by decide +kernel
theorem dX5_depthOfRow_102 : decode cX5_depthOfRow 102 = .ok (.idiv, 1) := by decide +kernel
theorem dX5_depthOfRow_103 : decode cX5_depthOfRow 103 = .ok (.istore 5, 2) := by decide +kernel
theorem dX5_depthOfRow_105 : decode cX5_depthOfRow 105 = .ok (.aload_n 0, 1) := by decide +kernel
theorem dX5_depthOfRow_106 : decode cX5_depthOfRow 106 = .ok (.getfield 27, 3) := by decide +kernel
theorem dX5_depthOfRow_109 : decode cX5_depthOfRow 109 = .ok (.iload_n 3, 1) := by decide +kernel
theorem dX5_depthOfRow_110 : decode cX5_depthOfRow 110 = .ok (.iconst 1, 1) := by decide +kernel
theorem dX5_depthOfRow_111 : decode cX5_depthOfRow 111 = .ok (.iadd, 1) := by decide +kernel
theorem dX5_depthOfRow_112 : decode cX5_depthOfRow 112 = .ok (.dup2, 1) := by decide +kernel
theorem dX5_depthOfRow_113 : decode cX5_depthOfRow 113 = .ok (.iaload, 1) := by decide +kernel
theorem dX5_depthOfRow_114 : decode cX5_depthOfRow 114 = .ok (.iload 4, 2) := by decide +kernel
theorem dX5_depthOfRow_116 : decode cX5_depthOfRow 116 = .ok (.iload 5, 2) := by decide +kernel
theorem dX5_depthOfRow_118 : decode cX5_depthOfRow 118 = .ok (.isub, 1) := by decide +kernel
theorem dX5_depthOfRow_119 : decode cX5_depthOfRow 119 = .ok (.iadd, 1) := by decide +kernel
theorem dX5_depthOfRow_120 : decode cX5_depthOfRow 120 = .ok (.iastore, 1) := by decide +kernel
theorem dX5_depthOfRow_121 : decode cX5_depthOfRow 121 = .ok (.iload_n 2, 1) := by decide +kernel
theorem dX5_depthOfRow_122 : decode cX5_depthOfRow 122 = .ok (.iload 5, 2) := by decide +kernel
theorem dX5_depthOfRow_124 : decode cX5_depthOfRow 124 = .ok (.isub, 1) := by decide +kernel
theorem dX5_depthOfRow_125 : decode cX5_depthOfRow 125 = .ok (.istore_n 2, 1) := by decide +kernel
theorem dX5_depthOfRow_126 : decode cX5_depthOfRow 126 = .ok (.iinc 3 1, 3) := by decide +kernel
theorem dX5_depthOfRow_129 : decode cX5_depthOfRow 129 = .ok (.goto (-57), 3) := by decide +kernel
theorem dX5_depthOfRow_132 : decode cX5_depthOfRow 132 = .ok (.bipush 127, 2) := by decide +kernel
theorem dX5_depthOfRow_134 : decode cX5_depthOfRow 134 = .ok (.ireturn, 1) := by decide +kernel
def wW_X5_depthOfRow (G : GG) (h0 h1 h2 h3 y0_2 y0_3 y0_4 : Nat) (x0_6 : Int32) (x0_7 : Int32) (x0_8 : Int32) (a1 : Nat → Int32) (a2 : Nat → Int32) (a3 : Nat → Int32) : va_W := [(h0, .inr (5, [.ref h1, .ref h2, .ref y0_2, .ref y0_3, .ref y0_4, .ref h3, .int x0_6, .int x0_7, .int x0_8])), (h1, .inl (G.2.1, 128, .inl a1)), (h2, .inl (G.2.1, 128, .inl a2)), (h3, .inl (G.2.1, 128, .inl a3))]
set_option maxHeartbeats 4000000 in
set_option maxRecDepth 100000 in
theorem c_X5_depthOfRow (l : Launch) (G : GG) (h0 h1 h2 h3 y0_2 y0_3 y0_4 : Nat) (sz : Nat) (x0_6 : Int32) (x0_7 : Int32) (x0_8 : Int32) (a1 : Nat → Int32) (a2 : Nat → Int32) (a3 : Nat → Int32) (F : Nat) (b1 : Int32)  (r0 : Int32) (e_a3 : Nat → Int32) (hf : p_X5_depthOfRow F x0_8 a1 a2 a3 b1 = some (r0, e_a3)) : Met l yX5_depthOfRow (.code yX5_depthOfRow cX5_depthOfRow 6 (some .int) :: gtbl) ({ frames := 1, cells := 0, slots := 0, locals := 23 } : Room) (PcS G [.ref h0, .int b1] (wW_X5_depthOfRow G h0 h1 h2 h3 y0_2 y0_3 y0_4 x0_6 x0_7 x0_8 a1 a2 a3) sz) (QiS G r0 (va_A (wW_X5_depthOfRow G h0 h1 h2 h3 y0_2 y0_3 y0_4 x0_6 x0_7 x0_8 a1 a2 a3) sz) (wW_X5_depthOfRow G h0 h1 h2 h3 y0_2 y0_3 y0_4 x0_6 x0_7 x0_8 a1 a2 e_a3)) 0 0 (va_A (wW_X5_depthOfRow G h0 h1 h2 h3 y0_2 y0_3 y0_4 x0_6 x0_7 x0_8 a1 a2 a3) sz) := by
  refine met_start (by decide) (Nat.le_of_ble_eq_true rfl) ?_
  intro p e s m below meth c hC hr hlk hnm hK hP hD hA hS hX ls hl
  obtain ⟨hx, hb, hml, hown, ht0⟩ := hC
  have hown : s.vm.findClass RX5 = some m.cls := hown
  generalize va_A (wW_X5_depthOfRow G h0 h1 h2 h3 y0_2 y0_3 y0_4 x0_6 x0_7 x0_8 a1 a2 a3) sz = A at hD hA hS hX ⊢
  have hl : lv_has ls 6 [(0, .ref h0), (1, .int b1)] := hl
  have hf : p_X5_depthOfRow F x0_8 a1 a2 a3 b1 = some (r0, e_a3) := hf
  have kL72 : ∀ (n72 : Nat) (u72_2 : Int32) (u72_3 : Int32) (a3_72 : Nat → Int32), p_X5_depthOfRow_L72 F x0_8 a1 a2 n72 u72_2 u72_3 a3_72 = some (r0, e_a3) → ∀ (H : Heap) (locs : List Loc), va_P G.1 vwCl (wW_X5_depthOfRow G h0 h1 h2 h3 y0_2 y0_3 y0_4 x0_6 x0_7 x0_8 a1 a2 a3_72) H → va_D A (wW_X5_depthOfRow G h0 h1 h2 h3 y0_2 y0_3 y0_4 x0_6 x0_7 x0_8 a1 a2 a3_72) → va_S A s.heap H locs → ∀ ls : Array Slot, lv_has ls 6 [(0, .ref h0), (2, .int u72_2), (3, .int u72_3)] → W p l e ({ frames := 1, cells := 0, slots := 0, locals := 23 } : Room) s m (List.toArray [.ref h0, .int b1]) below meth c H locs 0 0 (MQ below (QiS G r0 A (wW_X5_depthOfRow G h0 h1 h2 h3 y0_2 y0_3 y0_4 x0_6 x0_7 x0_8 a1 a2 e_a3)) (List.toArray [.ref h0, .int b1]) s 0 0 A) (F0 m 72 ls []) := by
    intro n72
    induction n72 with
    | zero =>
      intro u72_2 u72_3 a3_72 hf
      cases hf
    | succ n72 ih72 =>
      have kJ99 : ∀ (u99_2 : Int32) (u99_3 : Int32) (u99_4 : Int32) (a3_99 : Nat → Int32), p_X5_depthOfRow_J99 F x0_8 a1 a2 (p_X5_depthOfRow_L72 F x0_8 a1 a2 n72) u99_2 u99_3 u99_4 a3_99 = some (r0, e_a3) → ∀ (H : Heap) (locs : List Loc), va_P G.1 vwCl (wW_X5_depthOfRow G h0 h1 h2 h3 y0_2 y0_3 y0_4 x0_6 x0_7 x0_8 a1 a2 a3_99) H → va_D A (wW_X5_depthOfRow G h0 h1 h2 h3 y0_2 y0_3 y0_4 x0_6 x0_7 x0_8 a1 a2 a3_99) → va_S A s.heap H locs → ∀ ls : Array Slot, lv_has ls 6 [(0, .ref h0), (2, .int u99_2), (3, .int u99_3), (4, .int u99_4)] → W p l e ({ frames := 1, cells := 0, slots := 0, locals := 23 } : Room) s m (List.toArray [.ref h0, .int b1]) below meth c H locs 0 0 (MQ below (QiS G r0 A (wW_X5_depthOfRow G h0 h1 h2 h3 y0_2 y0_3 y0_4 x0_6 x0_7 x0_8 a1 a2 e_a3)) (List.toArray [.ref h0, .int b1]) s 0 0 A) (F0 m 99 ls []) := by
        intro u99_2 u99_3 u99_4 a3_99 hf H locs hP hD hS ls hl
        refine lv_iload hx hb dX5_depthOfRow_99 (lv_at hl 3 rfl) ?_
        refine lv_iconst (v := (2 : Int32)) hx hb dX5_depthOfRow_101 (by decide) ?_
        refine lv_idiv hx hb dX5_depthOfRow_102 (by decide) ?_
        refine lv_istore (lv' := [(5, .int (u99_4 / (2 : Int32))), (0, .ref h0), (2, .int u99_2), (3, .int u99_3), (4, .int u99_4)]) hx hb dX5_depthOfRow_103 hl (by decide) rfl (fun ls hl => ?_)
        refine lv_aload_n hx hb dX5_depthOfRow_105 rfl (lv_at hl 1 rfl) ?_
        refine va_get (ci := 5) (v := .ref h3) (C := RX5) (T := TX5) (N := 9) hx hb ht0 iX5 hown hK hP 0 rfl rfl 5 (by decide) (ht0 _ wd_431) (fun _ h9 => h9) rfl dX5_depthOfRow_106 ?_
        refine lv_iload_n hx hb dX5_depthOfRow_109 rfl (lv_at hl 3 rfl) ?_
        refine lv_iconst (v := (1 : Int32)) hx hb dX5_depthOfRow_110 (by decide) ?_
        refine lv_iadd hx hb dX5_depthOfRow_111 ?_
        refine lv_dup2_11 hx hb dX5_depthOfRow_112 rfl rfl ?_
        obtain ⟨g1, hf⟩ := of_grd hf
        refine va_iald hx hb hK hP 3 0 rfl rfl g1 dX5_depthOfRow_113 ?_
        refine lv_iload hx hb dX5_depthOfRow_114 (lv_at hl 4 rfl) ?_
        refine lv_iload hx hb dX5_depthOfRow_116 (lv_at hl 0 rfl) ?_
        refine lv_isub hx hb dX5_depthOfRow_118 ?_
        refine lv_iadd hx hb dX5_depthOfRow_119 ?_
        obtain ⟨g2, hf⟩ := of_grd hf
        refine va_iast hx hb hK hP hD hS 3 0 rfl rfl g2 dX5_depthOfRow_120 (fun H locs hP hD hS => ?_)
        have hP : va_P G.1 vwCl (wW_X5_depthOfRow G h0 h1 h2 h3 y0_2 y0_3 y0_4 x0_6 x0_7 x0_8 a1 a2 (upd a3_99 (u99_3 + (1 : Int32)).toNatClampNeg ((a3_99 (u99_3 + (1 : Int32)).toNatClampNeg) + (u99_4 - (u99_4 / (2 : Int32)))))) H := hP
        have hD : va_D A (wW_X5_depthOfRow G h0 h1 h2 h3 y0_2 y0_3 y0_4 x0_6 x0_7 x0_8 a1 a2 (upd a3_99 (u99_3 + (1 : Int32)).toNatClampNeg ((a3_99 (u99_3 + (1 : Int32)).toNatClampNeg) + (u99_4 - (u99_4 / (2 : Int32)))))) := hD
        refine lv_iload_n hx hb dX5_depthOfRow_121 rfl (lv_at hl 2 rfl) ?_
        refine lv_iload hx hb dX5_depthOfRow_122 (lv_at hl 0 rfl) ?_
        refine lv_isub hx hb dX5_depthOfRow_124 ?_
        refine lv_istore_n (lv' := [(2, .int (u99_2 - (u99_4 / (2 : Int32)))), (5, .int (u99_4 / (2 : Int32))), (0, .ref h0), (3, .int u99_3), (4, .int u99_4)]) hx hb dX5_depthOfRow_125 rfl hl (by decide) rfl (fun ls hl => ?_)
        refine lv_iinc (v := u99_3 + (1 : Int32)) (lv' := [(3, .int (u99_3 + (1 : Int32))), (2, .int (u99_2 - (u99_4 / (2 : Int32)))), (5, .int (u99_4 / (2 : Int32))), (0, .ref h0), (4, .int u99_4)]) hx hb dX5_depthOfRow_126 hl (k := 3) rfl (by rfl) (by decide) rfl (fun ls hl => ?_)
        refine lv_goto (tgt := 72) hx hb dX5_depthOfRow_129 (by decide) ?_
        exact ih72 _ _ _ hf _ _ hP hD hS _ (lv_sub hl [3, 1, 0] rfl)
      intro u72_2 u72_3 a3_72 hf H locs hP hD hS ls hl
      have hf : p_X5_depthOfRow_L72b F x0_8 a1 a2 (p_X5_depthOfRow_L72 F x0_8 a1 a2 n72) u72_2 u72_3 a3_72 = some (r0, e_a3) := hf
      refine lv_iload_n hx hb dX5_depthOfRow_72 rfl (lv_at hl 2 rfl) ?_
      refine lv_bipush (v := (127 : Int32)) hx hb dX5_depthOfRow_73 (by decide) ?_
      refine lv_icmp_ge (tgt := 132) hx hb dX5_depthOfRow_75 (by decide) (fun c3 => ?_) (fun c3 => ?_)
      · have hf := of_pos hf c3
        refine lv_bipush (v := (127 : Int32)) hx hb dX5_depthOfRow_132 (by decide) ?_
        cases hf
        exact ret_i hx hb hr hlk hK hP hD hS dX5_depthOfRow_134
      · have hf := of_neg hf c3
        refine lv_aload_n hx hb dX5_depthOfRow_78 rfl (lv_at hl 0 rfl) ?_
        refine va_get (ci := 5) (v := .ref h3) (C := RX5) (T := TX5) (N := 9) hx hb ht0 iX5 hown hK hP 0 rfl rfl 5 (by decide) (ht0 _ wd_431) (fun _ h9 => h9) rfl dX5_depthOfRow_79 ?_
        refine lv_iload_n hx hb dX5_depthOfRow_82 rfl (lv_at hl 2 rfl) ?_
        obtain ⟨g4, hf⟩ := of_grd hf
        refine va_iald hx hb hK hP 3 0 rfl rfl g4 dX5_depthOfRow_83 ?_
        refine lv_istore (lv' := [(4, .int (a3_72 u72_3.toNatClampNeg)), (0, .ref h0), (2, .int u72_2), (3, .int u72_3)]) hx hb dX5_depthOfRow_84 hl (by decide) rfl (fun ls hl => ?_)
        refine lv_iload_n hx hb dX5_depthOfRow_86 rfl (lv_at hl 2 rfl) ?_
        refine lv_iconst (v := (1 : Int32)) hx hb dX5_depthOfRow_87 (by decide) ?_
        refine lv_icmp_gt (tgt := 99) hx hb dX5_depthOfRow_88 (by decide) (fun c5 => ?_) (fun c5 => ?_)
        · have hf := of_pos hf c5
          exact kJ99 _ _ _ _ hf _ _ hP hD hS _ (lv_sub hl [1, 2, 3, 0] rfl)
        · have hf := of_neg hf c5
          refine lv_iload hx hb dX5_depthOfRow_91 (lv_at hl 0 rfl) ?_
          refine lv_iload_n hx hb dX5_depthOfRow_93 rfl (lv_at hl 2 rfl) ?_
          refine lv_icmp_ne (tgt := 99) hx hb dX5_depthOfRow_94 (by decide) (fun c6 => ?_) (fun c6 => ?_)
          · have hf := of_neg hf c6
            exact kJ99 _ _ _ _ hf _ _ hP hD hS _ (lv_sub hl [1, 2, 3, 0] rfl)
          · have hf := of_pos hf c6
            refine lv_iload_n hx hb dX5_depthOfRow_97 rfl (lv_at hl 3 rfl) ?_
            cases hf
            exact ret_i hx hb hr hlk hK hP hD hS dX5_depthOfRow_98
  have kL12 : ∀ (c12_1 : Int32) (n12 : Nat) (u12_2 : Int32) (u12_3 : Int32) (a3_12 : Nat → Int32), p_X5_depthOfRow_L12 F x0_8 a1 a2 c12_1 n12 u12_2 u12_3 a3_12 = some (r0, e_a3) → ∀ (H : Heap) (locs : List Loc), va_P G.1 vwCl (wW_X5_depthOfRow G h0 h1 h2 h3 y0_2 y0_3 y0_4 x0_6 x0_7 x0_8 a1 a2 a3_12) H → va_D A (wW_X5_depthOfRow G h0 h1 h2 h3 y0_2 y0_3 y0_4 x0_6 x0_7 x0_8 a1 a2 a3_12) → va_S A s.heap H locs → ∀ ls : Array Slot, lv_has ls 6 [(0, .ref h0), (1, .int c12_1), (2, .int u12_2), (3, .int u12_3)] → W p l e ({ frames := 1, cells := 0, slots := 0, locals := 23 } : Room) s m (List.toArray [.ref h0, .int b1]) below meth c H locs 0 0 (MQ below (QiS G r0 A (wW_X5_depthOfRow G h0 h1 h2 h3 y0_2 y0_3 y0_4 x0_6 x0_7 x0_8 a1 a2 e_a3)) (List.toArray [.ref h0, .int b1]) s 0 0 A) (F0 m 12 ls []) := by
    intro c12_1 n12
    induction n12 with
    | zero =>
      intro u12_2 u12_3 a3_12 hf
      cases hf
    | succ n12 ih12 =>
      have kJ64 : ∀ (u64_2 : Int32) (u64_3 : Int32) (a3_64 : Nat → Int32), p_X5_depthOfRow_J64 F x0_8 a1 a2 c12_1 (p_X5_depthOfRow_L12 F x0_8 a1 a2 c12_1 n12) u64_2 u64_3 a3_64 = some (r0, e_a3) → ∀ (H : Heap) (locs : List Loc), va_P G.1 vwCl (wW_X5_depthOfRow G h0 h1 h2 h3 y0_2 y0_3 y0_4 x0_6 x0_7 x0_8 a1 a2 a3_64) H → va_D A (wW_X5_depthOfRow G h0 h1 h2 h3 y0_2 y0_3 y0_4 x0_6 x0_7 x0_8 a1 a2 a3_64) → va_S A s.heap H locs → ∀ ls : Array Slot, lv_has ls 6 [(0, .ref h0), (1, .int c12_1), (2, .int u64_2), (3, .int u64_3)] → W p l e ({ frames := 1, cells := 0, slots := 0, locals := 23 } : Room) s m (List.toArray [.ref h0, .int b1]) below meth c H locs 0 0 (MQ below (QiS G r0 A (wW_X5_depthOfRow G h0 h1 h2 h3 y0_2 y0_3 y0_4 x0_6 x0_7 x0_8 a1 a2 e_a3)) (List.toArray [.ref h0, .int b1]) s 0 0 A) (F0 m 64 ls []) := by
        intro u64_2 u64_3 a3_64 hf H locs hP hD hS ls hl
        refine lv_iinc (v := u64_3 + (1 : Int32)) (lv' := [(3, .int (u64_3 + (1 : Int32))), (0, .ref h0), (1, .int c12_1), (2, .int u64_2)]) hx hb dX5_depthOfRow_64 hl (k := 3) rfl (by rfl) (by decide) rfl (fun ls hl => ?_)
        refine lv_goto (tgt := 12) hx hb dX5_depthOfRow_67 (by decide) ?_
        exact ih12 _ _ _ hf _ _ hP hD hS _ (lv_sub hl [1, 2, 3, 0] rfl)
      intro u12_2 u12_3 a3_12 hf H locs hP hD hS ls hl
      have hf : p_X5_depthOfRow_L12b F x0_8 a1 a2 c12_1 (p_X5_depthOfRow_L12 F x0_8 a1 a2 c12_1 n12) u12_2 u12_3 a3_12 = some (r0, e_a3) := hf
      refine lv_iload_n hx hb dX5_depthOfRow_12 rfl (lv_at hl 3 rfl) ?_
      refine lv_aload_n hx hb dX5_depthOfRow_13 rfl (lv_at hl 0 rfl) ?_
      refine va_get (ci := 5) (v := .int x0_8) (C := RX5) (T := TX5) (N := 9) hx hb ht0 iX5 hown hK hP 0 rfl rfl 8 (by decide) (ht0 _ wd_434) (fun _ h9 => h9) rfl dX5_depthOfRow_14 ?_
      refine lv_icmp_ge (tgt := 70) hx hb dX5_depthOfRow_17 (by decide) (fun c7 => ?_) (fun c7 => ?_)
      · have hf := of_pos hf c7
        refine lv_iconst (v := (0 : Int32)) hx hb dX5_depthOfRow_70 (by decide) ?_
        refine lv_istore_n (lv' := [(3, .int (0 : Int32)), (0, .ref h0), (1, .int c12_1), (2, .int u12_2)]) hx hb dX5_depthOfRow_71 rfl hl (by decide) rfl (fun ls hl => ?_)
        exact kL72 _ _ _ _ hf _ _ hP hD hS _ (lv_sub hl [1, 3, 0] rfl)
      · have hf := of_neg hf c7
        refine lv_aload_n hx hb dX5_depthOfRow_20 rfl (lv_at hl 0 rfl) ?_
        refine va_get (ci := 5) (v := .ref h1) (C := RX5) (T := TX5) (N := 9) hx hb ht0 iX5 hown hK hP 0 rfl rfl 0 (by decide) (ht0 _ wd_426) (fun _ h9 => h9) rfl dX5_depthOfRow_21 ?_
        refine lv_iload_n hx hb dX5_depthOfRow_24 rfl (lv_at hl 3 rfl) ?_
        obtain ⟨g8, hf⟩ := of_grd hf
        refine va_iald hx hb hK hP 1 0 rfl rfl g8 dX5_depthOfRow_25 ?_
        refine lv_iload_n hx hb dX5_depthOfRow_26 rfl (lv_at hl 1 rfl) ?_
        refine lv_iushr (v := jushr (a1 u12_3.toNatClampNeg) c12_1) hx hb dX5_depthOfRow_27 rfl ?_
        refine lv_iconst (v := (1 : Int32)) hx hb dX5_depthOfRow_28 (by decide) ?_
        refine lv_iand hx hb dX5_depthOfRow_29 ?_
        refine lv_iconst (v := (1 : Int32)) hx hb dX5_depthOfRow_30 (by decide) ?_
        refine lv_icmp_ne (tgt := 64) hx hb dX5_depthOfRow_31 (by decide) (fun c9 => ?_) (fun c9 => ?_)
        · have hf := of_neg hf c9
          exact kJ64 _ _ _ hf _ _ hP hD hS _ (lv_sub hl [0, 1, 2, 3] rfl)
        · have hf := of_pos hf c9
          refine lv_aload_n hx hb dX5_depthOfRow_34 rfl (lv_at hl 0 rfl) ?_
          refine va_get (ci := 5) (v := .ref h2) (C := RX5) (T := TX5) (N := 9) hx hb ht0 iX5 hown hK hP 0 rfl rfl 1 (by decide) (ht0 _ wd_427) (fun _ h9 => h9) rfl dX5_depthOfRow_35 ?_
          refine lv_iload_n hx hb dX5_depthOfRow_38 rfl (lv_at hl 3 rfl) ?_
          obtain ⟨g10, hf⟩ := of_grd hf
          refine va_iald hx hb hK hP 2 0 rfl rfl g10 dX5_depthOfRow_39 ?_
          refine lv_sipush (v := (128 : Int32)) hx hb dX5_depthOfRow_40 (by decide) ?_
          refine lv_icmp_ge (tgt := 64) hx hb dX5_depthOfRow_43 (by decide) (fun c11 => ?_) (fun c11 => ?_)
          · have hf := of_pos hf c11
            exact kJ64 _ _ _ hf _ _ hP hD hS _ (lv_sub hl [0, 1, 2, 3] rfl)
          · have hf := of_neg hf c11
            refine lv_aload_n hx hb dX5_depthOfRow_46 rfl (lv_at hl 0 rfl) ?_
            refine va_get (ci := 5) (v := .ref h3) (C := RX5) (T := TX5) (N := 9) hx hb ht0 iX5 hown hK hP 0 rfl rfl 5 (by decide) (ht0 _ wd_431) (fun _ h9 => h9) rfl dX5_depthOfRow_47 ?_
            refine lv_aload_n hx hb dX5_depthOfRow_50 rfl (lv_at hl 0 rfl) ?_
            refine va_get (ci := 5) (v := .ref h2) (C := RX5) (T := TX5) (N := 9) hx hb ht0 iX5 hown hK hP 0 rfl rfl 1 (by decide) (ht0 _ wd_427) (fun _ h9 => h9) rfl dX5_depthOfRow_51 ?_
            refine lv_iload_n hx hb dX5_depthOfRow_54 rfl (lv_at hl 3 rfl) ?_
            obtain ⟨g12, hf⟩ := of_grd hf
            refine va_iald hx hb hK hP 2 0 rfl rfl g12 dX5_depthOfRow_55 ?_
            refine lv_dup2_11 hx hb dX5_depthOfRow_56 rfl rfl ?_
            obtain ⟨g13, hf⟩ := of_grd hf
            refine va_iald hx hb hK hP 3 0 rfl rfl g13 dX5_depthOfRow_57 ?_
            refine lv_iconst (v := (1 : Int32)) hx hb dX5_depthOfRow_58 (by decide) ?_
            refine lv_iadd hx hb dX5_depthOfRow_59 ?_
            obtain ⟨g14, hf⟩ := of_grd hf
            refine va_iast hx hb hK hP hD hS 3 0 rfl rfl g14 dX5_depthOfRow_60 (fun H locs hP hD hS => ?_)
            have hP : va_P G.1 vwCl (wW_X5_depthOfRow G h0 h1 h2 h3 y0_2 y0_3 y0_4 x0_6 x0_7 x0_8 a1 a2 (upd a3_12 (a2 u12_3.toNatClampNeg).toNatClampNeg ((a3_12 (a2 u12_3.toNatClampNeg).toNatClampNeg) + (1 : Int32)))) H := hP
            have hD : va_D A (wW_X5_depthOfRow G h0 h1 h2 h3 y0_2 y0_3 y0_4 x0_6 x0_7 x0_8 a1 a2 (upd a3_12 (a2 u12_3.toNatClampNeg).toNatClampNeg ((a3_12 (a2 u12_3.toNatClampNeg).toNatClampNeg) + (1 : Int32)))) := hD
            refine lv_iinc (v := u12_2 + (1 : Int32)) (lv' := [(2, .int (u12_2 + (1 : Int32))), (0, .ref h0), (1, .int c12_1), (3, .int u12_3)]) hx hb dX5_depthOfRow_61 hl (k := 2) rfl (by rfl) (by decide) rfl (fun ls hl => ?_)
            exact kJ64 _ _ _ hf _ _ hP hD hS _ (lv_sub hl [1, 2, 0, 3] rfl)
  refine lv_aload_n hx hb dX5_depthOfRow_0 rfl (lv_at hl 0 rfl) ?_
  refine va_get (ci := 5) (v := .ref h3) (C := RX5) (T := TX5) (N := 9) hx hb ht0 iX5 hown hK hP 0 rfl rfl 5 (by decide) (ht0 _ wd_431) (fun _ h9 => h9) rfl dX5_depthOfRow_1 ?_
  refine lv_iconst (v := (0 : Int32)) hx hb dX5_depthOfRow_4 (by decide) ?_
  obtain ⟨r_5_14_a0, hc_r_5_14, hf⟩ := of_bnd hf
  refine cl_Sv (w2 := (wW_X5_depthOfRow G h0 h1 h2 h3 y0_2 y0_3 y0_4 x0_6 x0_7 x0_8 a1 a2 r_5_14_a0)) (As := [.ref h3, .int (0 : Int32)]) (rest := []) ⟨hx, hb, hml, hown, ht0⟩ (c_J7_fill_53178 l G 128 h3 _ a3 F (0 : Int32) _ hc_r_5_14) yk_J7_fill_53178 wd_1157 ⟨rfl, rfl, by decide, by decide⟩ ⟨Nat.le_refl _, Nat.le_refl _⟩ hX hK hP hD hS hA [3] [0, 1, 2] [0, 1, 2, 3] rfl rfl (by decide) rfl rfl rfl rfl rfl hl.1 rfl (Nat.le_of_ble_eq_true rfl) dX5_depthOfRow_5 (fun H locs hP hD hS => ?_)
  refine lv_iconst (v := (0 : Int32)) hx hb dX5_depthOfRow_8 (by decide) ?_
  refine lv_istore_n (lv' := [(2, .int (0 : Int32)), (0, .ref h0), (1, .int b1)]) hx hb dX5_depthOfRow_9 rfl hl (by decide) rfl (fun ls hl => ?_)
  refine lv_iconst (v := (0 : Int32)) hx hb dX5_depthOfRow_10 (by decide) ?_
  refine lv_istore_n (lv' := [(3, .int (0 : Int32)), (2, .int (0 : Int32)), (0, .ref h0), (1, .int b1)]) hx hb dX5_depthOfRow_11 rfl hl (by decide) rfl (fun ls hl => ?_)
  exact kL12 _ _ _ _ _ hf _ _ hP hD hS _ (lv_sub hl [2, 3, 1, 0] rfl)
theorem yk_X5_depthOfRow : ykV yX5_depthOfRow RX5 cX5_depthOfRow 6 (some .int) 1 := ⟨wd_1155, wd_37, wd_137, wd_1156, rfl, by decide +kernel, by decide +kernel, by decide +kernel⟩
theorem dX5_deepestRow_0 : decode cX5_deepestRow 0 = .ok (.iconst 0, 1) := by decide +kernel
theorem dX5_deepestRow_1 : decode cX5_deepestRow 1 = .ok (.istore_n 1, 1) := by decide +kernel
theorem dX5_deepestRow_2 : decode cX5_deepestRow 2 = .ok (.iconst 0, 1) := by decide +kernel
theorem dX5_deepestRow_3 : decode cX5_deepestRow 3 = .ok (.istore_n 2, 1) := by decide +kernel
theorem dX5_deepestRow_4 : decode cX5_deepestRow 4 = .ok (.iload_n 2, 1) := by decide +kernel
theorem dX5_deepestRow_5 : decode cX5_deepestRow 5 = .ok (.aload_n 0, 1) := by decide +kernel
theorem dX5_deepestRow_6 : decode cX5_deepestRow 6 = .ok (.getfield 50, 3) := by decide +kernel
theorem dX5_deepestRow_9 : decode cX5_deepestRow 9 = .ok (.if_icmp .ge 19, 3) := by decide +kernel
theorem dX5_deepestRow_12 : decode cX5_deepestRow 12 = .ok (.iload_n 1, 1) := by decide +kernel
theorem dX5_deepestRow_13 : decode cX5_deepestRow 13 = .ok (.aload_n 0, 1) := by decide +kernel
theorem dX5_deepestRow_14 : decode cX5_deepestRow 14 = .ok (.iload_n 2, 1) := by decide +kernel
theorem dX5_deepestRow_15 : decode cX5_deepestRow 15 = .ok (.invokevirtual 77, 3) := by decide +kernel
theorem dX5_deepestRow_18 : decode cX5_deepestRow 18 = .ok (.invokestatic 40, 3) := by decide +kernel
theorem dX5_deepestRow_21 : decode cX5_deepestRow 21 = .ok (.istore_n 1, 1) := by decide +kernel
theorem dX5_deepestRow_22 : decode cX5_deepestRow 22 = .ok (.iinc 2 1, 3) := by decide +kernel
theorem dX5_deepestRow_25 : decode cX5_deepestRow 25 = .ok (.goto (-21), 3) := by decide +kernel
theorem dX5_deepestRow_28 : decode cX5_deepestRow 28 = .ok (.iload_n 1, 1) := by decide +kernel
theorem dX5_deepestRow_29 : decode cX5_deepestRow 29 = .ok (.ireturn, 1) := by decide +kernel
def wW_X5_deepestRow (G : GG) (h0 h1 h2 h3 y0_2 y0_3 y0_4 : Nat) (x0_6 : Int32) (x0_7 : Int32) (x0_8 : Int32) (a1 : Nat → Int32) (a2 : Nat → Int32) (a3 : Nat → Int32) : va_W := [(h0, .inr (5, [.ref h1, .ref h2, .ref y0_2, .ref y0_3, .ref y0_4, .ref h3, .int x0_6, .int x0_7, .int x0_8])), (h1, .inl (G.2.1, 128, .inl a1)), (h2, .inl (G.2.1, 128, .inl a2)), (h3, .inl (G.2.1, 128, .inl a3))]
set_option maxHeartbeats 4000000 in
set_option maxRecDepth 100000 in
theorem c_X5_deepestRow (l : Launch) (G : GG) (h0 h1 h2 h3 y0_2 y0_3 y0_4 : Nat) (sz : Nat) (x0_6 : Int32) (x0_7 : Int32) (x0_8 : Int32) (a1 : Nat → Int32) (a2 : Nat → Int32) (a3 : Nat → Int32) (F : Nat)   (r0 : Int32) (e_a3 : Nat → Int32) (hf : p_X5_deepestRow F x0_7 x0_8 a1 a2 a3  = some (r0, e_a3)) : Met l yX5_deepestRow (.code yX5_deepestRow cX5_deepestRow 3 (some .int) :: gtbl) ({ frames := 2, cells := 0, slots := 0, locals := 48 } : Room) (PcS G [.ref h0] (wW_X5_deepestRow G h0 h1 h2 h3 y0_2 y0_3 y0_4 x0_6 x0_7 x0_8 a1 a2 a3) sz) (QiS G r0 (va_A (wW_X5_deepestRow G h0 h1 h2 h3 y0_2 y0_3 y0_4 x0_6 x0_7 x0_8 a1 a2 a3) sz) (wW_X5_deepestRow G h0 h1 h2 h3 y0_2 y0_3 y0_4 x0_6 x0_7 x0_8 a1 a2 e_a3)) 0 0 (va_A (wW_X5_deepestRow G h0 h1 h2 h3 y0_2 y0_3 y0_4 x0_6 x0_7 x0_8 a1 a2 a3) sz) := by
  refine met_start (by decide) (Nat.le_of_ble_eq_true rfl) ?_
  intro p e s m below meth c hC hr hlk hnm hK hP hD hA hS hX ls hl
  obtain ⟨hx, hb, hml, hown, ht0⟩ := hC
  have hown : s.vm.findClass RX5 = some m.cls := hown
  generalize va_A (wW_X5_deepestRow G h0 h1 h2 h3 y0_2 y0_3 y0_4 x0_6 x0_7 x0_8 a1 a2 a3) sz = A at hD hA hS hX ⊢
  have hl : lv_has ls 3 [(0, .ref h0)] := hl
  have hf : p_X5_deepestRow F x0_7 x0_8 a1 a2 a3  = some (r0, e_a3) := hf
  have kL4 : ∀ (n4 : Nat) (u4_1 : Int32) (u4_2 : Int32) (a3_4 : Nat → Int32), p_X5_deepestRow_L4 F x0_7 x0_8 a1 a2 n4 u4_1 u4_2 a3_4 = some (r0, e_a3) → ∀ (H : Heap) (locs : List Loc), va_P G.1 vwCl (wW_X5_deepestRow G h0 h1 h2 h3 y0_2 y0_3 y0_4 x0_6 x0_7 x0_8 a1 a2 a3_4) H → va_D A (wW_X5_deepestRow G h0 h1 h2 h3 y0_2 y0_3 y0_4 x0_6 x0_7 x0_8 a1 a2 a3_4) → va_S A s.heap H locs → ∀ ls : Array Slot, lv_has ls 3 [(0, .ref h0), (1, .int u4_1), (2, .int u4_2)] → W p l e ({ frames := 2, cells := 0, slots := 0, locals := 48 } : Room) s m (List.toArray [.ref h0]) below meth c H locs 0 0 (MQ below (QiS G r0 A (wW_X5_deepestRow G h0 h1 h2 h3 y0_2 y0_3 y0_4 x0_6 x0_7 x0_8 a1 a2 e_a3)) (List.toArray [.ref h0]) s 0 0 A) (F0 m 4 ls []) := by
    intro n4
    induction n4 with
    | zero =>
      intro u4_1 u4_2 a3_4 hf
      cases hf
    | succ n4 ih4 =>
      intro u4_1 u4_2 a3_4 hf H locs hP hD hS ls hl
      have hf : p_X5_deepestRow_L4b F x0_7 x0_8 a1 a2 (p_X5_deepestRow_L4 F x0_7 x0_8 a1 a2 n4) u4_1 u4_2 a3_4 = some (r0, e_a3) := hf
      refine lv_iload_n hx hb dX5_deepestRow_4 rfl (lv_at hl 2 rfl) ?_
      refine lv_aload_n hx hb dX5_deepestRow_5 rfl (lv_at hl 0 rfl) ?_
      refine va_get (ci := 5) (v := .int x0_7) (C := RX5) (T := TX5) (N := 9) hx hb ht0 iX5 hown hK hP 0 rfl rfl 7 (by decide) (ht0 _ wd_433) (fun _ h9 => h9) rfl dX5_deepestRow_6 ?_
      refine lv_icmp_ge (tgt := 28) hx hb dX5_deepestRow_9 (by decide) (fun c1 => ?_) (fun c1 => ?_)
      · have hf := of_pos hf c1
        refine lv_iload_n hx hb dX5_deepestRow_28 rfl (lv_at hl 1 rfl) ?_
        cases hf
        exact ret_i hx hb hr hlk hK hP hD hS dX5_deepestRow_29
      · have hf := of_neg hf c1
        refine lv_iload_n hx hb dX5_deepestRow_12 rfl (lv_at hl 1 rfl) ?_
        refine lv_aload_n hx hb dX5_deepestRow_13 rfl (lv_at hl 0 rfl) ?_
        refine lv_iload_n hx hb dX5_deepestRow_14 rfl (lv_at hl 2 rfl) ?_
        obtain ⟨⟨r_15_1, r_15_1_a3⟩, hc_r_15_1, hf⟩ := of_bnd hf
        refine cl_Vi (w2 := (wW_X5_deepestRow G h0 h1 h2 h3 y0_2 y0_3 y0_4 x0_6 x0_7 x0_8 a1 a2 r_15_1_a3)) (As := [.int u4_2]) (rest := [.int u4_1]) ⟨hx, hb, hml, hown, ht0⟩ (c_X5_depthOfRow l G h0 h1 h2 h3 y0_2 y0_3 y0_4 _ x0_6 x0_7 x0_8 a1 a2 a3_4 F u4_2 _ _ hc_r_15_1) yk_X5_depthOfRow wd_1153 ⟨rfl, rfl, by decide, by decide⟩ ⟨Nat.le_refl _, Nat.le_refl _⟩ hX hK hP hD hS hA [0, 1, 2, 3] [] [0, 1, 2, 3] (va_recv hK hP (ci := 5) (q0 := 0) rfl rfl) rfl rfl (by decide) rfl rfl rfl rfl rfl hl.1 rfl (Nat.le_of_ble_eq_true rfl) dX5_deepestRow_15 (fun H locs hP hD hS => ?_)
        refine va_mmax hx hb (by rw [hml]; exact hl.1.symm) hown (ht0 _ wd_1122) (ht0 _ wd_517) (ht0 _ wd_140) (ht0 _ wd_518) (by decide) (Nat.le_of_ble_eq_true rfl) (Nat.zero_le _) (Nat.zero_le _) dX5_deepestRow_18 ?_
        refine lv_istore_n (lv' := [(1, .int (if u4_1 < r_15_1 then r_15_1 else u4_1)), (0, .ref h0), (2, .int u4_2)]) hx hb dX5_deepestRow_21 rfl hl (by decide) rfl (fun ls hl => ?_)
        refine lv_iinc (v := u4_2 + (1 : Int32)) (lv' := [(2, .int (u4_2 + (1 : Int32))), (1, .int (if u4_1 < r_15_1 then r_15_1 else u4_1)), (0, .ref h0)]) hx hb dX5_deepestRow_22 hl (k := 2) rfl (by rfl) (by decide) rfl (fun ls hl => ?_)
        refine lv_goto (tgt := 4) hx hb dX5_deepestRow_25 (by decide) ?_
        exact ih4 _ _ _ hf _ _ hP hD hS _ (lv_sub hl [2, 1, 0] rfl)
  refine lv_iconst (v := (0 : Int32)) hx hb dX5_deepestRow_0 (by decide) ?_
  refine lv_istore_n (lv' := [(1, .int (0 : Int32)), (0, .ref h0)]) hx hb dX5_deepestRow_1 rfl hl (by decide) rfl (fun ls hl => ?_)
  refine lv_iconst (v := (0 : Int32)) hx hb dX5_deepestRow_2 (by decide) ?_
  refine lv_istore_n (lv' := [(2, .int (0 : Int32)), (1, .int (0 : Int32)), (0, .ref h0)]) hx hb dX5_deepestRow_3 rfl hl (by decide) rfl (fun ls hl => ?_)
  exact kL4 _ _ _ _ hf _ _ hP hD hS _ (lv_sub hl [2, 1, 0] rfl)
theorem yk_X5_deepestRow : ykV yX5_deepestRow RX5 cX5_deepestRow 3 (some .int) 0 := ⟨wd_1150, wd_1151, wd_137, wd_1152, rfl, by decide +kernel, by decide +kernel, by decide +kernel⟩
