theorem dX10_rows_0 : decode cX10_rows 0 = .ok (.iload_n 1, 1) := by decide +kernel
theorem dX10_rows_1 : decode cX10_rows 1 = .ok (.ifCond .lt 8, 3) := by decide +kernel
theorem dX10_rows_4 : decode cX10_rows 4 = .ok (.iload_n 1, 1) := by decide +kernel
theorem dX10_rows_5 : decode cX10_rows 5 = .ok (.iconst 2, 1) := by decide +kernel
theorem dX10_rows_6 : decode cX10_rows 6 = .ok (.if_icmp .le 5, 3) := by decide +kernel
theorem dX10_rows_9 : decode cX10_rows 9 = .ok (.iconst (-1), 1) := by decide +kernel
theorem dX10_rows_10 : decode cX10_rows 10 = .ok (.ireturn, 1) := by decide +kernel
theorem dX10_rows_11 : decode cX10_rows 11 = .ok (.aload_n 0, 1) := by decide +kernel
theorem dX10_rows_12 : decode cX10_rows 12 = .ok (.getfield 29, 3) := by decide +kernel
theorem dX10_rows_15 : decode cX10_rows 15 = .ok (.invokevirtual 92, 3) := by decide +kernel
theorem dX10_rows_18 : decode cX10_rows 18 = .ok (.getfield 96, 3) := by decide +kernel
theorem dX10_rows_21 : decode cX10_rows 21 = .ok (.astore_n 2, 1) := by decide +kernel
theorem dX10_rows_22 : decode cX10_rows 22 = .ok (.iconst 0, 1) := by decide +kernel
theorem dX10_rows_23 : decode cX10_rows 23 = .ok (.istore_n 3, 1) := by decide +kernel
theorem dX10_rows_24 : decode cX10_rows 24 = .ok (.iconst 0, 1) := by decide +kernel
theorem dX10_rows_25 : decode cX10_rows 25 = .ok (.istore 4, 2) := by decide +kernel
theorem dX10_rows_27 : decode cX10_rows 27 = .ok (.bipush 24, 2) := by decide +kernel
theorem dX10_rows_29 : decode cX10_rows 29 = .ok (.istore 5, 2) := by decide +kernel
theorem dX10_rows_31 : decode cX10_rows 31 = .ok (.iconst 0, 1) := by decide +kernel
theorem dX10_rows_32 : decode cX10_rows 32 = .ok (.istore 6, 2) := by decide +kernel
theorem dX10_rows_34 : decode cX10_rows 34 = .ok (.iload 6, 2) := by decide +kernel
theorem dX10_rows_36 : decode cX10_rows 36 = .ok (.aload_n 2, 1) := by decide +kernel
theorem dX10_rows_37 : decode cX10_rows 37 = .ok (.getfield 256, 3) := by decide +kernel
theorem dX10_rows_40 : decode cX10_rows 40 = .ok (.if_icmp .ge 40, 3) := by decide +kernel
theorem dX10_rows_43 : decode cX10_rows 43 = .ok (.aload_n 2, 1) := by decide +kernel
theorem dX10_rows_44 : decode cX10_rows 44 = .ok (.iload 6, 2) := by decide +kernel
theorem dX10_rows_46 : decode cX10_rows 46 = .ok (.invokevirtual 259, 3) := by decide +kernel
theorem dX10_rows_49 : decode cX10_rows 49 = .ok (.istore 7, 2) := by decide +kernel
theorem dX10_rows_51 : decode cX10_rows 51 = .ok (.iload_n 3, 1) := by decide +kernel
theorem dX10_rows_52 : decode cX10_rows 52 = .ok (.iload 7, 2) := by decide +kernel
theorem dX10_rows_54 : decode cX10_rows 54 = .ok (.iadd, 1) := by decide +kernel
theorem dX10_rows_55 : decode cX10_rows 55 = .ok (.istore_n 3, 1) := by decide +kernel
theorem dX10_rows_56 : decode cX10_rows 56 = .ok (.iload 4, 2) := by decide +kernel
theorem dX10_rows_58 : decode cX10_rows 58 = .ok (.iload 7, 2) := by decide +kernel
theorem dX10_rows_60 : decode cX10_rows 60 = .ok (.invokestatic 265, 3) := by decide +kernel
theorem dX10_rows_63 : decode cX10_rows 63 = .ok (.istore 4, 2) := by decide +kernel
theorem dX10_rows_65 : decode cX10_rows 65 = .ok (.iload 5, 2) := by decide +kernel
theorem dX10_rows_67 : decode cX10_rows 67 = .ok (.iload 7, 2) := by decide +kernel
theorem dX10_rows_69 : decode cX10_rows 69 = .ok (.invokestatic 271, 3) := by decide +kernel
theorem dX10_rows_72 : decode cX10_rows 72 = .ok (.istore 5, 2) := by decide +kernel
theorem dX10_rows_74 : decode cX10_rows 74 = .ok (.iinc 6 1, 3) := by decide +kernel
theorem dX10_rows_77 : decode cX10_rows 77 = .ok (.goto (-43), 3) := by decide +kernel
theorem dX10_rows_80 : decode cX10_rows 80 = .ok (.iload_n 1, 1) := by decide +kernel
theorem dX10_rows_81 : decode cX10_rows 81 = .ok (.ifCond .ne 5, 3) := by decide +kernel
theorem dX10_rows_84 : decode cX10_rows 84 = .ok (.iload_n 3, 1) := by decide +kernel
theorem dX10_rows_85 : decode cX10_rows 85 = .ok (.ireturn, 1) := by decide +kernel
theorem dX10_rows_86 : decode cX10_rows 86 = .ok (.iload_n 1, 1) := by decide +kernel
theorem dX10_rows_87 : decode cX10_rows 87 = .ok (.iconst 1, 1) := by decide +kernel
theorem dX10_rows_88 : decode cX10_rows 88 = .ok (.if_icmp .ne 11, 3) := by decide +kernel
theorem dX10_rows_91 : decode cX10_rows 91 = .ok (.iload 4, 2) := by decide +kernel
theorem dX10_rows_93 : decode cX10_rows 93 = .ok (.iload 5, 2) := by decide +kernel
theorem dX10_rows_95 : decode cX10_rows 95 = .ok (.isub, 1) := by decide +kernel
theorem dX10_rows_96 : decode cX10_rows 96 = .ok (.goto 8, 3) := by decide +kernel
theorem dX10_rows_99 : decode cX10_rows 99 = .ok (.iload 4, 2) := by decide +kernel
theorem dX10_rows_101 : decode cX10_rows 101 = .ok (.invokestatic 262, 3) := by decide +kernel
theorem dX10_rows_104 : decode cX10_rows 104 = .ok (.ireturn, 1) := by decide +kernel
def wW_X10_rows (G : GG) (h0 h1 h2 h3 h4 y0_0 y0_1 y0_2 y0_4 y0_5 y0_6 y0_7 y0_8 y0_9 y0_10 y3_4 y3_5 : Nat) (x0_11 : Int32) (x0_12 : Int32) (x1_1 : Int32) (x1_2 : Int32) (a2 : Nat → Option Nat) (x3_0 : Int32) (x3_1 : Int32) (x3_2 : Int32) (a4 : Nat → Int32) : va_W := [(h0, .inr (10, [.ref y0_0, .ref y0_1, .ref y0_2, .ref h1, .ref y0_4, .ref y0_5, .ref y0_6, .ref y0_7, .ref y0_8, .ref y0_9, .ref y0_10, .int x0_11, .int x0_12])), (h1, .inr (8, [.ref h2, .int x1_1, .int x1_2])), (h2, .inl (G.2.2.2.2.1, 13, .inr (.inr (.inr (.inr a2))))), (h3, .inr (1, [.int x3_0, .int x3_1, .int x3_2, .ref h4, .ref y3_4, .ref y3_5])), (h4, .inl (G.2.1, 32, .inl a4))]
set_option maxHeartbeats 4000000 in
set_option maxRecDepth 100000 in
theorem c_X10_rows (l : Launch) (G : GG) (h0 h1 h2 h3 h4 y0_0 y0_1 y0_2 y0_4 y0_5 y0_6 y0_7 y0_8 y0_9 y0_10 y3_4 y3_5 g_cur y_cur_words : Nat) (sz : Nat) (x0_11 : Int32) (x0_12 : Int32) (x1_1 : Int32) (x1_2 : Int32) (a2 : Nat → Option Nat) (x3_0 : Int32) (x3_1 : Int32) (x3_2 : Int32) (a4 : Nat → Int32) (F : Nat) (b1 : Int32) (hq_cur : (g_cur, h3, y_cur_words) ∈ gS G)  (r0 : Int32) (hf : p_X10_rows F g_cur x1_1 a2 x3_0 x3_1 a4 b1 = some r0) : Met l yX10_rows (.code yX10_rows cX10_rows 8 (some .int) :: gtbl) ({ frames := 1, cells := 0, slots := 0, locals := 23 } : Room) (PcS G [.ref h0, .int b1] (wW_X10_rows G h0 h1 h2 h3 h4 y0_0 y0_1 y0_2 y0_4 y0_5 y0_6 y0_7 y0_8 y0_9 y0_10 y3_4 y3_5 x0_11 x0_12 x1_1 x1_2 a2 x3_0 x3_1 x3_2 a4) sz) (QiS G r0 (va_A (wW_X10_rows G h0 h1 h2 h3 h4 y0_0 y0_1 y0_2 y0_4 y0_5 y0_6 y0_7 y0_8 y0_9 y0_10 y3_4 y3_5 x0_11 x0_12 x1_1 x1_2 a2 x3_0 x3_1 x3_2 a4) sz) (wW_X10_rows G h0 h1 h2 h3 h4 y0_0 y0_1 y0_2 y0_4 y0_5 y0_6 y0_7 y0_8 y0_9 y0_10 y3_4 y3_5 x0_11 x0_12 x1_1 x1_2 a2 x3_0 x3_1 x3_2 a4)) 0 0 (va_A (wW_X10_rows G h0 h1 h2 h3 h4 y0_0 y0_1 y0_2 y0_4 y0_5 y0_6 y0_7 y0_8 y0_9 y0_10 y3_4 y3_5 x0_11 x0_12 x1_1 x1_2 a2 x3_0 x3_1 x3_2 a4) sz) := by
  refine met_start (by decide) (Nat.le_of_ble_eq_true rfl) ?_
  intro p e s m below meth c hC hr hlk hnm hK hP hD hA hS hX ls hl
  obtain ⟨hx, hb, hml, hown, ht0⟩ := hC
  have hown : s.vm.findClass RX10 = some m.cls := hown
  generalize va_A (wW_X10_rows G h0 h1 h2 h3 h4 y0_0 y0_1 y0_2 y0_4 y0_5 y0_6 y0_7 y0_8 y0_9 y0_10 y3_4 y3_5 x0_11 x0_12 x1_1 x1_2 a2 x3_0 x3_1 x3_2 a4) sz = A at hD hA hS hX ⊢
  have hl : lv_has ls 8 [(0, .ref h0), (1, .int b1)] := hl
  have hf : p_X10_rows F g_cur x1_1 a2 x3_0 x3_1 a4 b1 = some r0 := hf
  have kL34 : ∀ (c34_1 : Int32) (n34 : Nat) (u34_3 : Int32) (u34_4 : Int32) (u34_5 : Int32) (u34_6 : Int32), p_X10_rows_L34 F g_cur x1_1 a2 x3_0 x3_1 a4 c34_1 n34 u34_3 u34_4 u34_5 u34_6 = some r0 → ∀ (H : Heap) (locs : List Loc), va_P G.1 vwCl (wW_X10_rows G h0 h1 h2 h3 h4 y0_0 y0_1 y0_2 y0_4 y0_5 y0_6 y0_7 y0_8 y0_9 y0_10 y3_4 y3_5 x0_11 x0_12 x1_1 x1_2 a2 x3_0 x3_1 x3_2 a4) H → va_D A (wW_X10_rows G h0 h1 h2 h3 h4 y0_0 y0_1 y0_2 y0_4 y0_5 y0_6 y0_7 y0_8 y0_9 y0_10 y3_4 y3_5 x0_11 x0_12 x1_1 x1_2 a2 x3_0 x3_1 x3_2 a4) → va_S A s.heap H locs → ∀ ls : Array Slot, lv_has ls 8 [(1, .int c34_1), (2, .ref h3), (3, .int u34_3), (4, .int u34_4), (5, .int u34_5), (6, .int u34_6)] → W p l e ({ frames := 1, cells := 0, slots := 0, locals := 23 } : Room) s m (List.toArray [.ref h0, .int b1]) below meth c H locs 0 0 (MQ below (QiS G r0 A (wW_X10_rows G h0 h1 h2 h3 h4 y0_0 y0_1 y0_2 y0_4 y0_5 y0_6 y0_7 y0_8 y0_9 y0_10 y3_4 y3_5 x0_11 x0_12 x1_1 x1_2 a2 x3_0 x3_1 x3_2 a4)) (List.toArray [.ref h0, .int b1]) s 0 0 A) (F0 m 34 ls []) := by
    intro c34_1 n34
    induction n34 with
    | zero =>
      intro u34_3 u34_4 u34_5 u34_6 hf
      cases hf
    | succ n34 ih34 =>
      intro u34_3 u34_4 u34_5 u34_6 hf H locs hP hD hS ls hl
      have hf : p_X10_rows_L34b F g_cur x1_1 a2 x3_0 x3_1 a4 c34_1 (p_X10_rows_L34 F g_cur x1_1 a2 x3_0 x3_1 a4 c34_1 n34) u34_3 u34_4 u34_5 u34_6 = some r0 := hf
      refine lv_iload hx hb dX10_rows_34 (lv_at hl 5 rfl) ?_
      refine lv_aload_n hx hb dX10_rows_36 rfl (lv_at hl 1 rfl) ?_
      refine va_get (ci := 1) (v := .int x3_1) (C := RX1) (T := TX1) (N := 6) hx hb ht0 iX1 hown hK hP 3 rfl rfl 1 (by decide) (ht0 _ wd_220) (fun _ h9 => h9) rfl dX10_rows_37 ?_
      refine lv_icmp_ge (tgt := 80) hx hb dX10_rows_40 (by decide) (fun c1 => ?_) (fun c1 => ?_)
      · have hf := of_pos hf c1
        refine lv_iload_n hx hb dX10_rows_80 rfl (lv_at hl 0 rfl) ?_
        refine lv_if_ne (tgt := 86) hx hb dX10_rows_81 (by decide) (fun c2 => ?_) (fun c2 => ?_)
        · have hf := of_neg hf c2
          refine lv_iload_n hx hb dX10_rows_86 rfl (lv_at hl 0 rfl) ?_
          refine lv_iconst (v := (1 : Int32)) hx hb dX10_rows_87 (by decide) ?_
          refine lv_icmp_ne (tgt := 99) hx hb dX10_rows_88 (by decide) (fun c3 => ?_) (fun c3 => ?_)
          · have hf := of_neg hf c3
            refine lv_iload hx hb dX10_rows_99 (lv_at hl 3 rfl) ?_
            obtain ⟨r_101_3, hc_r_101_3, hf⟩ := of_bnd hf
            refine cl_Si (w2 := (wW_X10_rows G h0 h1 h2 h3 h4 y0_0 y0_1 y0_2 y0_4 y0_5 y0_6 y0_7 y0_8 y0_9 y0_10 y3_4 y3_5 x0_11 x0_12 x1_1 x1_2 a2 x3_0 x3_1 x3_2 a4)) (As := [.int u34_4]) (rest := []) ⟨hx, hb, hml, hown, ht0⟩ (c_X10_depthOfGates l G _ F u34_4 _ hc_r_101_3) yk_X10_depthOfGates wd_1043 ⟨rfl, rfl, by decide, by decide⟩ ⟨Nat.le_refl _, Nat.le_refl _⟩ hX hK hP hD hS hA [] [0, 1, 2, 3, 4] [0, 1, 2, 3, 4] rfl rfl (by decide) rfl rfl rfl rfl rfl hl.1 rfl (Nat.le_of_ble_eq_true rfl) dX10_rows_101 (fun H locs hP hD hS => ?_)
            cases hf
            exact ret_i hx hb hr hlk hK hP hD hS dX10_rows_104
          · have hf := of_pos hf c3
            refine lv_iload hx hb dX10_rows_91 (lv_at hl 3 rfl) ?_
            refine lv_iload hx hb dX10_rows_93 (lv_at hl 4 rfl) ?_
            refine lv_isub hx hb dX10_rows_95 ?_
            refine lv_goto (tgt := 104) hx hb dX10_rows_96 (by decide) ?_
            cases hf
            exact ret_i hx hb hr hlk hK hP hD hS dX10_rows_104
        · have hf := of_pos hf c2
          refine lv_iload_n hx hb dX10_rows_84 rfl (lv_at hl 2 rfl) ?_
          cases hf
          exact ret_i hx hb hr hlk hK hP hD hS dX10_rows_85
      · have hf := of_neg hf c1
        refine lv_aload_n hx hb dX10_rows_43 rfl (lv_at hl 1 rfl) ?_
        refine lv_iload hx hb dX10_rows_44 (lv_at hl 5 rfl) ?_
        obtain ⟨r_46_4, hc_r_46_4, hf⟩ := of_bnd hf
        refine cl_Vi (w2 := (wW_X10_rows G h0 h1 h2 h3 h4 y0_0 y0_1 y0_2 y0_4 y0_5 y0_6 y0_7 y0_8 y0_9 y0_10 y3_4 y3_5 x0_11 x0_12 x1_1 x1_2 a2 x3_0 x3_1 x3_2 a4)) (As := [.int u34_6]) (rest := []) ⟨hx, hb, hml, hown, ht0⟩ (c_X1_wiresOf l G h3 h4 y3_4 y3_5 _ x3_0 x3_1 x3_2 a4 F u34_6 _ hc_r_46_4) yk_X1_wiresOf wd_1039 ⟨rfl, rfl, by decide, by decide⟩ ⟨Nat.le_refl _, Nat.le_refl _⟩ hX hK hP hD hS hA [3, 4] [0, 1, 2] [0, 1, 2, 3, 4] (va_recv hK hP (ci := 1) (q0 := 3) rfl rfl) rfl rfl (by decide) rfl rfl rfl rfl rfl hl.1 rfl (Nat.le_of_ble_eq_true rfl) dX10_rows_46 (fun H locs hP hD hS => ?_)
        refine lv_istore (lv' := [(7, .int r_46_4), (1, .int c34_1), (2, .ref h3), (3, .int u34_3), (4, .int u34_4), (5, .int u34_5), (6, .int u34_6)]) hx hb dX10_rows_49 hl (by decide) rfl (fun ls hl => ?_)
        refine lv_iload_n hx hb dX10_rows_51 rfl (lv_at hl 3 rfl) ?_
        refine lv_iload hx hb dX10_rows_52 (lv_at hl 0 rfl) ?_
        refine lv_iadd hx hb dX10_rows_54 ?_
        refine lv_istore_n (lv' := [(3, .int (u34_3 + r_46_4)), (7, .int r_46_4), (1, .int c34_1), (2, .ref h3), (4, .int u34_4), (5, .int u34_5), (6, .int u34_6)]) hx hb dX10_rows_55 rfl hl (by decide) rfl (fun ls hl => ?_)
        refine lv_iload hx hb dX10_rows_56 (lv_at hl 4 rfl) ?_
        refine lv_iload hx hb dX10_rows_58 (lv_at hl 1 rfl) ?_
        refine va_mmax hx hb (by rw [hml]; exact hl.1.symm) hown (ht0 _ wd_1050) (ht0 _ wd_517) (ht0 _ wd_140) (ht0 _ wd_518) (by decide) (Nat.le_of_ble_eq_true rfl) (Nat.zero_le _) (Nat.zero_le _) dX10_rows_60 ?_
        refine lv_topi (fun z6 ez6 => ?_)
        have hf := of_jlet hf ez6
        refine lv_istore (lv' := [(4, .int z6), (3, .int (u34_3 + r_46_4)), (7, .int r_46_4), (1, .int c34_1), (2, .ref h3), (5, .int u34_5), (6, .int u34_6)]) hx hb dX10_rows_63 hl (by decide) rfl (fun ls hl => ?_)
        refine lv_iload hx hb dX10_rows_65 (lv_at hl 5 rfl) ?_
        refine lv_iload hx hb dX10_rows_67 (lv_at hl 2 rfl) ?_
        refine va_mmin hx hb (by rw [hml]; exact hl.1.symm) hown (ht0 _ wd_1051) (ht0 _ wd_636) (ht0 _ wd_140) (ht0 _ wd_637) (by decide) (Nat.le_of_ble_eq_true rfl) (Nat.zero_le _) (Nat.zero_le _) dX10_rows_69 ?_
        refine lv_topi (fun z7 ez7 => ?_)
        have hf := of_jlet hf ez7
        refine lv_istore (lv' := [(5, .int z7), (4, .int z6), (3, .int (u34_3 + r_46_4)), (7, .int r_46_4), (1, .int c34_1), (2, .ref h3), (6, .int u34_6)]) hx hb dX10_rows_72 hl (by decide) rfl (fun ls hl => ?_)
        refine lv_iinc (v := u34_6 + (1 : Int32)) (lv' := [(6, .int (u34_6 + (1 : Int32))), (5, .int z7), (4, .int z6), (3, .int (u34_3 + r_46_4)), (7, .int r_46_4), (1, .int c34_1), (2, .ref h3)]) hx hb dX10_rows_74 hl (k := 6) rfl (by rfl) (by decide) rfl (fun ls hl => ?_)
        refine lv_goto (tgt := 34) hx hb dX10_rows_77 (by decide) ?_
        exact ih34 _ _ _ _ hf _ _ hP hD hS _ (lv_sub hl [5, 6, 3, 2, 1, 0] rfl)
  refine lv_iload_n hx hb dX10_rows_0 rfl (lv_at hl 1 rfl) ?_
  refine lv_if_lt (tgt := 9) hx hb dX10_rows_1 (by decide) (fun c8 => ?_) (fun c8 => ?_)
  · have hf := of_pos hf c8
    refine lv_iconst (v := (-1 : Int32)) hx hb dX10_rows_9 (by decide) ?_
    cases hf
    exact ret_i hx hb hr hlk hK hP hD hS dX10_rows_10
  · have hf := of_neg hf c8
    refine lv_iload_n hx hb dX10_rows_4 rfl (lv_at hl 1 rfl) ?_
    refine lv_iconst (v := (2 : Int32)) hx hb dX10_rows_5 (by decide) ?_
    refine lv_icmp_le (tgt := 11) hx hb dX10_rows_6 (by decide) (fun c9 => ?_) (fun c9 => ?_)
    · have hf := of_pos hf c9
      refine lv_aload_n hx hb dX10_rows_11 rfl (lv_at hl 0 rfl) ?_
      refine va_get (ci := 10) (v := .ref h1) (C := RX10) (T := TX10) (N := 13) hx hb ht0 iX10 hown hK hP 0 rfl rfl 3 (by decide) (ht0 _ wd_543) (fun _ h9 => h9) rfl dX10_rows_12 ?_
      obtain ⟨_, hc_r_15_9, hf⟩ := of_bnd hf
      refine cl_Vr (w2 := (wW_X10_rows G h0 h1 h2 h3 h4 y0_0 y0_1 y0_2 y0_4 y0_5 y0_6 y0_7 y0_8 y0_9 y0_10 y3_4 y3_5 x0_11 x0_12 x1_1 x1_2 a2 x3_0 x3_1 x3_2 a4)) (As := []) (rest := []) ⟨hx, hb, hml, hown, ht0⟩ (c_X8_now l G h1 h2 g_cur h3 y_cur_words _ x1_1 x1_2 a2 F hq_cur hc_r_15_9) yk_X8_now wd_531 ⟨rfl, rfl, by decide, by decide⟩ ⟨Nat.le_refl _, Nat.le_refl _⟩ hX hK hP hD hS hA [1, 2] [0, 3, 4] [0, 3, 4, 1, 2] (va_recv hK hP (ci := 8) (q0 := 1) rfl rfl) rfl rfl (by decide) rfl rfl rfl rfl rfl hl.1 rfl (Nat.le_of_ble_eq_true rfl) dX10_rows_15 (fun H locs hP hD hS => ?_)
      refine vk_getf hx hb (hX.2.2 _ hq_cur).2.1 hS hown (ht0 _ wd_342) (fun _ h => h) dX10_rows_18 ?_
      refine lv_astore_n (lv' := [(2, .ref h3), (0, .ref h0), (1, .int b1)]) hx hb dX10_rows_21 rfl hl (by decide) rfl (fun ls hl => ?_)
      refine lv_iconst (v := (0 : Int32)) hx hb dX10_rows_22 (by decide) ?_
      refine lv_istore_n (lv' := [(3, .int (0 : Int32)), (2, .ref h3), (0, .ref h0), (1, .int b1)]) hx hb dX10_rows_23 rfl hl (by decide) rfl (fun ls hl => ?_)
      refine lv_iconst (v := (0 : Int32)) hx hb dX10_rows_24 (by decide) ?_
      refine lv_istore (lv' := [(4, .int (0 : Int32)), (3, .int (0 : Int32)), (2, .ref h3), (0, .ref h0), (1, .int b1)]) hx hb dX10_rows_25 hl (by decide) rfl (fun ls hl => ?_)
      refine lv_bipush (v := (24 : Int32)) hx hb dX10_rows_27 (by decide) ?_
      refine lv_istore (lv' := [(5, .int (24 : Int32)), (4, .int (0 : Int32)), (3, .int (0 : Int32)), (2, .ref h3), (0, .ref h0), (1, .int b1)]) hx hb dX10_rows_29 hl (by decide) rfl (fun ls hl => ?_)
      refine lv_iconst (v := (0 : Int32)) hx hb dX10_rows_31 (by decide) ?_
      refine lv_istore (lv' := [(6, .int (0 : Int32)), (5, .int (24 : Int32)), (4, .int (0 : Int32)), (3, .int (0 : Int32)), (2, .ref h3), (0, .ref h0), (1, .int b1)]) hx hb dX10_rows_32 hl (by decide) rfl (fun ls hl => ?_)
      exact kL34 _ _ _ _ _ _ hf _ _ hP hD hS _ (lv_sub hl [6, 4, 3, 2, 1, 0] rfl)
    · have hf := of_neg hf c9
      refine lv_iconst (v := (-1 : Int32)) hx hb dX10_rows_9 (by decide) ?_
      cases hf
      exact ret_i hx hb hr hlk hK hP hD hS dX10_rows_10
theorem yk_X10_rows : ykV yX10_rows RX10 cX10_rows 8 (some .int) 1 := ⟨wd_1047, wd_1048, wd_127, wd_1049, rfl, by decide +kernel, by decide +kernel, by decide +kernel⟩
theorem dX10_word_0 : decode cX10_word 0 = .ok (.iload_n 1, 1) := by decide +kernel
theorem dX10_word_1 : decode cX10_word 1 = .ok (.invokestatic 140, 3) := by decide +kernel
theorem dX10_word_4 : decode cX10_word 4 = .ok (.ifCond .ne 5, 3) := by decide +kernel
theorem dX10_word_7 : decode cX10_word 7 = .ok (.iconst (-1), 1) := by decide +kernel
theorem dX10_word_8 : decode cX10_word 8 = .ok (.ireturn, 1) := by decide +kernel
theorem dX10_word_9 : decode cX10_word 9 = .ok (.aload_n 0, 1) := by decide +kernel
theorem dX10_word_10 : decode cX10_word 10 = .ok (.getfield 29, 3) := by decide +kernel
theorem dX10_word_13 : decode cX10_word 13 = .ok (.invokevirtual 92, 3) := by decide +kernel
theorem dX10_word_16 : decode cX10_word 16 = .ok (.getfield 96, 3) := by decide +kernel
theorem dX10_word_19 : decode cX10_word 19 = .ok (.astore_n 3, 1) := by decide +kernel
theorem dX10_word_20 : decode cX10_word 20 = .ok (.aload_n 0, 1) := by decide +kernel
theorem dX10_word_21 : decode cX10_word 21 = .ok (.getfield 29, 3) := by decide +kernel
theorem dX10_word_24 : decode cX10_word 24 = .ok (.invokevirtual 92, 3) := by decide +kernel
theorem dX10_word_27 : decode cX10_word 27 = .ok (.getfield 125, 3) := by decide +kernel
theorem dX10_word_30 : decode cX10_word 30 = .ok (.astore 4, 2) := by decide +kernel
theorem dX10_word_32 : decode cX10_word 32 = .ok (.iload_n 2, 1) := by decide +kernel
theorem dX10_word_33 : decode cX10_word 33 = .ok (.tableswitch 101 0 4 #[35, 48, 61, 69, 82], 35) := by decide +kernel
theorem dX10_word_68 : decode cX10_word 68 = .ok (.aload 4, 2) := by decide +kernel
theorem dX10_word_70 : decode cX10_word 70 = .ok (.getfield 182, 3) := by decide +kernel
theorem dX10_word_73 : decode cX10_word 73 = .ok (.iload_n 1, 1) := by decide +kernel
theorem dX10_word_74 : decode cX10_word 74 = .ok (.iaload, 1) := by decide +kernel
theorem dX10_word_75 : decode cX10_word 75 = .ok (.aload_n 3, 1) := by decide +kernel
theorem dX10_word_76 : decode cX10_word 76 = .ok (.invokevirtual 274, 3) := by decide +kernel
theorem dX10_word_79 : decode cX10_word 79 = .ok (.iand, 1) := by decide +kernel
theorem dX10_word_80 : decode cX10_word 80 = .ok (.ireturn, 1) := by decide +kernel
theorem dX10_word_81 : decode cX10_word 81 = .ok (.aload 4, 2) := by decide +kernel
theorem dX10_word_83 : decode cX10_word 83 = .ok (.getfield 182, 3) := by decide +kernel
theorem dX10_word_86 : decode cX10_word 86 = .ok (.iload_n 1, 1) := by decide +kernel
theorem dX10_word_87 : decode cX10_word 87 = .ok (.iaload, 1) := by decide +kernel
theorem dX10_word_88 : decode cX10_word 88 = .ok (.aload_n 3, 1) := by decide +kernel
theorem dX10_word_89 : decode cX10_word 89 = .ok (.getfield 277, 3) := by decide +kernel
theorem dX10_word_92 : decode cX10_word 92 = .ok (.iushr, 1) := by decide +kernel
theorem dX10_word_93 : decode cX10_word 93 = .ok (.ireturn, 1) := by decide +kernel
theorem dX10_word_94 : decode cX10_word 94 = .ok (.aload 4, 2) := by decide +kernel
theorem dX10_word_96 : decode cX10_word 96 = .ok (.getfield 280, 3) := by decide +kernel
theorem dX10_word_99 : decode cX10_word 99 = .ok (.iload_n 1, 1) := by decide +kernel
theorem dX10_word_100 : decode cX10_word 100 = .ok (.iaload, 1) := by decide +kernel
theorem dX10_word_101 : decode cX10_word 101 = .ok (.ireturn, 1) := by decide +kernel
theorem dX10_word_102 : decode cX10_word 102 = .ok (.aload 4, 2) := by decide +kernel
theorem dX10_word_104 : decode cX10_word 104 = .ok (.getfield 283, 3) := by decide +kernel
theorem dX10_word_107 : decode cX10_word 107 = .ok (.iload_n 1, 1) := by decide +kernel
theorem dX10_word_108 : decode cX10_word 108 = .ok (.iaload, 1) := by decide +kernel
theorem dX10_word_109 : decode cX10_word 109 = .ok (.aload_n 3, 1) := by decide +kernel
theorem dX10_word_110 : decode cX10_word 110 = .ok (.invokevirtual 274, 3) := by decide +kernel
theorem dX10_word_113 : decode cX10_word 113 = .ok (.iand, 1) := by decide +kernel
theorem dX10_word_114 : decode cX10_word 114 = .ok (.ireturn, 1) := by decide +kernel
theorem dX10_word_115 : decode cX10_word 115 = .ok (.aload 4, 2) := by decide +kernel
theorem dX10_word_117 : decode cX10_word 117 = .ok (.getfield 182, 3) := by decide +kernel
theorem dX10_word_120 : decode cX10_word 120 = .ok (.iload_n 1, 1) := by decide +kernel
theorem dX10_word_121 : decode cX10_word 121 = .ok (.iaload, 1) := by decide +kernel
theorem dX10_word_122 : decode cX10_word 122 = .ok (.aload 4, 2) := by decide +kernel
theorem dX10_word_124 : decode cX10_word 124 = .ok (.getfield 283, 3) := by decide +kernel
theorem dX10_word_127 : decode cX10_word 127 = .ok (.iload_n 1, 1) := by decide +kernel
theorem dX10_word_128 : decode cX10_word 128 = .ok (.iaload, 1) := by decide +kernel
theorem dX10_word_129 : decode cX10_word 129 = .ok (.ixor, 1) := by decide +kernel
theorem dX10_word_130 : decode cX10_word 130 = .ok (.invokestatic 198, 3) := by decide +kernel
theorem dX10_word_133 : decode cX10_word 133 = .ok (.ireturn, 1) := by decide +kernel
theorem dX10_word_134 : decode cX10_word 134 = .ok (.iconst (-1), 1) := by decide +kernel
theorem dX10_word_135 : decode cX10_word 135 = .ok (.ireturn, 1) := by decide +kernel
def wW_X10_word (G : GG) (h0 h1 h2 h3 h4 h5 h6 h7 y0_0 y0_1 y0_2 y0_4 y0_5 y0_6 y0_7 y0_8 y0_9 y0_10 y3_3 y3_4 y3_5 y4_2 y4_4 : Nat) (x0_11 : Int32) (x0_12 : Int32) (x1_1 : Int32) (x1_2 : Int32) (a2 : Nat → Option Nat) (x3_0 : Int32) (x3_1 : Int32) (x3_2 : Int32) (a5 : Nat → Int32) (a6 : Nat → Int32) (a7 : Nat → Int32) : va_W := [(h0, .inr (10, [.ref y0_0, .ref y0_1, .ref y0_2, .ref h1, .ref y0_4, .ref y0_5, .ref y0_6, .ref y0_7, .ref y0_8, .ref y0_9, .ref y0_10, .int x0_11, .int x0_12])), (h1, .inr (8, [.ref h2, .int x1_1, .int x1_2])), (h2, .inl (G.2.2.2.2.1, 13, .inr (.inr (.inr (.inr a2))))), (h3, .inr (1, [.int x3_0, .int x3_1, .int x3_2, .ref y3_3, .ref y3_4, .ref y3_5])), (h4, .inr (9, [.ref h5, .ref h6, .ref y4_2, .ref h7, .ref y4_4])), (h5, .inl (G.2.1, 16, .inl a5)), (h6, .inl (G.2.1, 16, .inl a6)), (h7, .inl (G.2.1, 16, .inl a7))]
set_option maxHeartbeats 4000000 in
set_option maxRecDepth 100000 in
theorem c_X10_word (l : Launch) (G : GG) (h0 h1 h2 h3 h4 h5 h6 h7 y0_0 y0_1 y0_2 y0_4 y0_5 y0_6 y0_7 y0_8 y0_9 y0_10 y3_3 y3_4 y3_5 y4_2 y4_4 g_cur : Nat) (sz : Nat) (x0_11 : Int32) (x0_12 : Int32) (x1_1 : Int32) (x1_2 : Int32) (a2 : Nat → Option Nat) (x3_0 : Int32) (x3_1 : Int32) (x3_2 : Int32) (a5 : Nat → Int32) (a6 : Nat → Int32) (a7 : Nat → Int32) (F : Nat) (b1 : Int32) (b2 : Int32) (hq_cur : (g_cur, h3, h4) ∈ gS G)  (r0 : Int32) (hf : p_X10_word F g_cur x1_1 a2 x3_0 a5 a6 a7 b1 b2 = some r0) : Met l yX10_word (.code yX10_word cX10_word 5 (some .int) :: gtbl) ({ frames := 1, cells := 0, slots := 0, locals := 20 } : Room) (PcS G [.ref h0, .int b1, .int b2] (wW_X10_word G h0 h1 h2 h3 h4 h5 h6 h7 y0_0 y0_1 y0_2 y0_4 y0_5 y0_6 y0_7 y0_8 y0_9 y0_10 y3_3 y3_4 y3_5 y4_2 y4_4 x0_11 x0_12 x1_1 x1_2 a2 x3_0 x3_1 x3_2 a5 a6 a7) sz) (QiS G r0 (va_A (wW_X10_word G h0 h1 h2 h3 h4 h5 h6 h7 y0_0 y0_1 y0_2 y0_4 y0_5 y0_6 y0_7 y0_8 y0_9 y0_10 y3_3 y3_4 y3_5 y4_2 y4_4 x0_11 x0_12 x1_1 x1_2 a2 x3_0 x3_1 x3_2 a5 a6 a7) sz) (wW_X10_word G h0 h1 h2 h3 h4 h5 h6 h7 y0_0 y0_1 y0_2 y0_4 y0_5 y0_6 y0_7 y0_8 y0_9 y0_10 y3_3 y3_4 y3_5 y4_2 y4_4 x0_11 x0_12 x1_1 x1_2 a2 x3_0 x3_1 x3_2 a5 a6 a7)) 0 0 (va_A (wW_X10_word G h0 h1 h2 h3 h4 h5 h6 h7 y0_0 y0_1 y0_2 y0_4 y0_5 y0_6 y0_7 y0_8 y0_9 y0_10 y3_3 y3_4 y3_5 y4_2 y4_4 x0_11 x0_12 x1_1 x1_2 a2 x3_0 x3_1 x3_2 a5 a6 a7) sz) := by
  refine met_start (by decide) (Nat.le_of_ble_eq_true rfl) ?_
  intro p e s m below meth c hC hr hlk hnm hK hP hD hA hS hX ls hl
  obtain ⟨hx, hb, hml, hown, ht0⟩ := hC
  have hown : s.vm.findClass RX10 = some m.cls := hown
  generalize va_A (wW_X10_word G h0 h1 h2 h3 h4 h5 h6 h7 y0_0 y0_1 y0_2 y0_4 y0_5 y0_6 y0_7 y0_8 y0_9 y0_10 y3_3 y3_4 y3_5 y4_2 y4_4 x0_11 x0_12 x1_1 x1_2 a2 x3_0 x3_1 x3_2 a5 a6 a7) sz = A at hD hA hS hX ⊢
  have hl : lv_has ls 5 [(0, .ref h0), (1, .int b1), (2, .int b2)] := hl
  have hf : p_X10_word F g_cur x1_1 a2 x3_0 a5 a6 a7 b1 b2 = some r0 := hf
  refine lv_iload_n hx hb dX10_word_0 rfl (lv_at hl 1 rfl) ?_
  obtain ⟨r_1_0, hc_r_1_0, hf⟩ := of_bnd hf
  refine cl_Si (w2 := (wW_X10_word G h0 h1 h2 h3 h4 h5 h6 h7 y0_0 y0_1 y0_2 y0_4 y0_5 y0_6 y0_7 y0_8 y0_9 y0_10 y3_3 y3_4 y3_5 y4_2 y4_4 x0_11 x0_12 x1_1 x1_2 a2 x3_0 x3_1 x3_2 a5 a6 a7)) (As := [.int b1]) (rest := []) ⟨hx, hb, hml, hown, ht0⟩ (c_X10_isWord l G _ F b1 _ hc_r_1_0) yk_X10_isWord wd_791 ⟨rfl, rfl, by decide, by decide⟩ ⟨Nat.le_refl _, Nat.le_refl _⟩ hX hK hP hD hS hA [] [0, 1, 2, 3, 4, 5, 6, 7] [0, 1, 2, 3, 4, 5, 6, 7] rfl rfl (by decide) rfl rfl rfl rfl rfl hl.1 rfl (Nat.le_of_ble_eq_true rfl) dX10_word_1 (fun H locs hP hD hS => ?_)
  refine lv_if_ne (tgt := 9) hx hb dX10_word_4 (by decide) (fun c2 => ?_) (fun c2 => ?_)
  · have hf := of_neg hf c2
    refine lv_aload_n hx hb dX10_word_9 rfl (lv_at hl 0 rfl) ?_
    refine va_get (ci := 10) (v := .ref h1) (C := RX10) (T := TX10) (N := 13) hx hb ht0 iX10 hown hK hP 0 rfl rfl 3 (by decide) (ht0 _ wd_543) (fun _ h9 => h9) rfl dX10_word_10 ?_
    obtain ⟨_, hc_r_13_2, hf⟩ := of_bnd hf
    refine cl_Vr (w2 := (wW_X10_word G h0 h1 h2 h3 h4 h5 h6 h7 y0_0 y0_1 y0_2 y0_4 y0_5 y0_6 y0_7 y0_8 y0_9 y0_10 y3_3 y3_4 y3_5 y4_2 y4_4 x0_11 x0_12 x1_1 x1_2 a2 x3_0 x3_1 x3_2 a5 a6 a7)) (As := []) (rest := []) ⟨hx, hb, hml, hown, ht0⟩ (c_X8_now l G h1 h2 g_cur h3 h4 _ x1_1 x1_2 a2 F hq_cur hc_r_13_2) yk_X8_now wd_531 ⟨rfl, rfl, by decide, by decide⟩ ⟨Nat.le_refl _, Nat.le_refl _⟩ hX hK hP hD hS hA [1, 2] [0, 3, 4, 5, 6, 7] [0, 6, 7, 1, 2, 3, 4, 5] (va_recv hK hP (ci := 8) (q0 := 1) rfl rfl) rfl rfl (by decide) rfl rfl rfl rfl rfl hl.1 rfl (Nat.le_of_ble_eq_true rfl) dX10_word_13 (fun H locs hP hD hS => ?_)
    refine vk_getf hx hb (hX.2.2 _ hq_cur).2.1 hS hown (ht0 _ wd_342) (fun _ h => h) dX10_word_16 ?_
    refine lv_astore_n (lv' := [(3, .ref h3), (0, .ref h0), (1, .int b1), (2, .int b2)]) hx hb dX10_word_19 rfl hl (by decide) rfl (fun ls hl => ?_)
    refine lv_aload_n hx hb dX10_word_20 rfl (lv_at hl 1 rfl) ?_
    refine va_get (ci := 10) (v := .ref h1) (C := RX10) (T := TX10) (N := 13) hx hb ht0 iX10 hown hK hP 0 rfl rfl 3 (by decide) (ht0 _ wd_543) (fun _ h9 => h9) rfl dX10_word_21 ?_
    obtain ⟨_, hc_r_24_3, hf⟩ := of_bnd hf
    refine cl_Vr (w2 := (wW_X10_word G h0 h1 h2 h3 h4 h5 h6 h7 y0_0 y0_1 y0_2 y0_4 y0_5 y0_6 y0_7 y0_8 y0_9 y0_10 y3_3 y3_4 y3_5 y4_2 y4_4 x0_11 x0_12 x1_1 x1_2 a2 x3_0 x3_1 x3_2 a5 a6 a7)) (As := []) (rest := []) ⟨hx, hb, hml, hown, ht0⟩ (c_X8_now l G h1 h2 g_cur h3 h4 _ x1_1 x1_2 a2 F hq_cur hc_r_24_3) yk_X8_now wd_531 ⟨rfl, rfl, by decide, by decide⟩ ⟨Nat.le_refl _, Nat.le_refl _⟩ hX hK hP hD hS hA [1, 2] [0, 3, 4, 5, 6, 7] [0, 6, 7, 1, 2, 3, 4, 5] (va_recv hK hP (ci := 8) (q0 := 1) rfl rfl) rfl rfl (by decide) rfl rfl rfl rfl rfl hl.1 rfl (Nat.le_of_ble_eq_true rfl) dX10_word_24 (fun H locs hP hD hS => ?_)
    refine vk_getf hx hb (hX.2.2 _ hq_cur).2.2 hS hown (ht0 _ wd_344) (fun _ h => h) dX10_word_27 ?_
    refine lv_astore (lv' := [(4, .ref h4), (3, .ref h3), (0, .ref h0), (1, .int b1), (2, .int b2)]) hx hb dX10_word_30 hl (by decide) rfl (fun ls hl => ?_)
    refine lv_iload_n hx hb dX10_word_32 rfl (lv_at hl 4 rfl) ?_
    by_cases c5 : b2 = (0 : Int32)
    · have hf := of_pos hf c5
      refine lv_tableIn (off := 35) (tgt := 68) hx hb dX10_word_33 (by rw [c5]; decide) (by rw [c5]; decide) (by rw [c5]; rfl) (by decide) ?_
      refine lv_aload hx hb dX10_word_68 (lv_at hl 0 rfl) ?_
      refine va_get (ci := 9) (v := .ref h5) (C := RX9) (T := TX9) (N := 5) hx hb ht0 iX9 hown hK hP 4 rfl rfl 0 (by decide) (ht0 _ wd_321) (fun _ h9 => h9) rfl dX10_word_70 ?_
      refine lv_iload_n hx hb dX10_word_73 rfl (lv_at hl 3 rfl) ?_
      obtain ⟨g6, hf⟩ := of_grd hf
      refine va_iald hx hb hK hP 5 0 rfl rfl g6 dX10_word_74 ?_
      refine lv_aload_n hx hb dX10_word_75 rfl (lv_at hl 1 rfl) ?_
      obtain ⟨r_76_6, hc_r_76_6, hf⟩ := of_bnd hf
      refine cl_Vi (w2 := (wW_X10_word G h0 h1 h2 h3 h4 h5 h6 h7 y0_0 y0_1 y0_2 y0_4 y0_5 y0_6 y0_7 y0_8 y0_9 y0_10 y3_3 y3_4 y3_5 y4_2 y4_4 x0_11 x0_12 x1_1 x1_2 a2 x3_0 x3_1 x3_2 a5 a6 a7)) (As := []) (rest := [.int (a5 b1.toNatClampNeg)]) ⟨hx, hb, hml, hown, ht0⟩ (c_X1_dataMask l G h3 y3_3 y3_4 y3_5 _ x3_0 x3_1 x3_2 F _ hc_r_76_6) yk_X1_dataMask wd_1056 ⟨rfl, rfl, by decide, by decide⟩ ⟨Nat.le_refl _, Nat.le_refl _⟩ hX hK hP hD hS hA [3] [0, 1, 2, 4, 5, 6, 7] [0, 1, 2, 7, 3, 4, 5, 6] (va_recv hK hP (ci := 1) (q0 := 3) rfl rfl) rfl rfl (by decide) rfl rfl rfl rfl rfl hl.1 rfl (Nat.le_of_ble_eq_true rfl) dX10_word_76 (fun H locs hP hD hS => ?_)
      refine lv_iand hx hb dX10_word_79 ?_
      cases hf
      exact ret_i hx hb hr hlk hK hP hD hS dX10_word_80
    have hf := of_neg hf c5
    by_cases c8 : b2 = (1 : Int32)
    · have hf := of_pos hf c8
      refine lv_tableIn (off := 48) (tgt := 81) hx hb dX10_word_33 (by rw [c8]; decide) (by rw [c8]; decide) (by rw [c8]; rfl) (by decide) ?_
      refine lv_aload hx hb dX10_word_81 (lv_at hl 0 rfl) ?_
      refine va_get (ci := 9) (v := .ref h5) (C := RX9) (T := TX9) (N := 5) hx hb ht0 iX9 hown hK hP 4 rfl rfl 0 (by decide) (ht0 _ wd_321) (fun _ h9 => h9) rfl dX10_word_83 ?_
      refine lv_iload_n hx hb dX10_word_86 rfl (lv_at hl 3 rfl) ?_
      obtain ⟨g9, hf⟩ := of_grd hf
      refine va_iald hx hb hK hP 5 0 rfl rfl g9 dX10_word_87 ?_
      refine lv_aload_n hx hb dX10_word_88 rfl (lv_at hl 1 rfl) ?_
      refine va_get (ci := 1) (v := .int x3_0) (C := RX1) (T := TX1) (N := 6) hx hb ht0 iX1 hown hK hP 3 rfl rfl 0 (by decide) (ht0 _ wd_214) (fun _ h9 => h9) rfl dX10_word_89 ?_
      refine lv_iushr (v := jushr (a5 b1.toNatClampNeg) x3_0) hx hb dX10_word_92 rfl ?_
      cases hf
      exact ret_i hx hb hr hlk hK hP hD hS dX10_word_93
    have hf := of_neg hf c8
    by_cases c10 : b2 = (2 : Int32)
    · have hf := of_pos hf c10
      refine lv_tableIn (off := 61) (tgt := 94) hx hb dX10_word_33 (by rw [c10]; decide) (by rw [c10]; decide) (by rw [c10]; rfl) (by decide) ?_
      refine lv_aload hx hb dX10_word_94 (lv_at hl 0 rfl) ?_
      refine va_get (ci := 9) (v := .ref h7) (C := RX9) (T := TX9) (N := 5) hx hb ht0 iX9 hown hK hP 4 rfl rfl 3 (by decide) (ht0 _ wd_327) (fun _ h9 => h9) rfl dX10_word_96 ?_
      refine lv_iload_n hx hb dX10_word_99 rfl (lv_at hl 3 rfl) ?_
      obtain ⟨g11, hf⟩ := of_grd hf
      refine va_iald hx hb hK hP 7 0 rfl rfl g11 dX10_word_100 ?_
      cases hf
      exact ret_i hx hb hr hlk hK hP hD hS dX10_word_101
    have hf := of_neg hf c10
    by_cases c12 : b2 = (3 : Int32)
    · have hf := of_pos hf c12
      refine lv_tableIn (off := 69) (tgt := 102) hx hb dX10_word_33 (by rw [c12]; decide) (by rw [c12]; decide) (by rw [c12]; rfl) (by decide) ?_
      refine lv_aload hx hb dX10_word_102 (lv_at hl 0 rfl) ?_
      refine va_get (ci := 9) (v := .ref h6) (C := RX9) (T := TX9) (N := 5) hx hb ht0 iX9 hown hK hP 4 rfl rfl 1 (by decide) (ht0 _ wd_323) (fun _ h9 => h9) rfl dX10_word_104 ?_
      refine lv_iload_n hx hb dX10_word_107 rfl (lv_at hl 3 rfl) ?_
      obtain ⟨g13, hf⟩ := of_grd hf
      refine va_iald hx hb hK hP 6 0 rfl rfl g13 dX10_word_108 ?_
      refine lv_aload_n hx hb dX10_word_109 rfl (lv_at hl 1 rfl) ?_
      obtain ⟨r_110_13, hc_r_110_13, hf⟩ := of_bnd hf
      refine cl_Vi (w2 := (wW_X10_word G h0 h1 h2 h3 h4 h5 h6 h7 y0_0 y0_1 y0_2 y0_4 y0_5 y0_6 y0_7 y0_8 y0_9 y0_10 y3_3 y3_4 y3_5 y4_2 y4_4 x0_11 x0_12 x1_1 x1_2 a2 x3_0 x3_1 x3_2 a5 a6 a7)) (As := []) (rest := [.int (a6 b1.toNatClampNeg)]) ⟨hx, hb, hml, hown, ht0⟩ (c_X1_dataMask l G h3 y3_3 y3_4 y3_5 _ x3_0 x3_1 x3_2 F _ hc_r_110_13) yk_X1_dataMask wd_1056 ⟨rfl, rfl, by decide, by decide⟩ ⟨Nat.le_refl _, Nat.le_refl _⟩ hX hK hP hD hS hA [3] [0, 1, 2, 4, 5, 6, 7] [0, 1, 2, 7, 3, 4, 5, 6] (va_recv hK hP (ci := 1) (q0 := 3) rfl rfl) rfl rfl (by decide) rfl rfl rfl rfl rfl hl.1 rfl (Nat.le_of_ble_eq_true rfl) dX10_word_110 (fun H locs hP hD hS => ?_)
      refine lv_iand hx hb dX10_word_113 ?_
      cases hf
      exact ret_i hx hb hr hlk hK hP hD hS dX10_word_114
    have hf := of_neg hf c12
    by_cases c15 : b2 = (4 : Int32)
    · have hf := of_pos hf c15
      refine lv_tableIn (off := 82) (tgt := 115) hx hb dX10_word_33 (by rw [c15]; decide) (by rw [c15]; decide) (by rw [c15]; rfl) (by decide) ?_
      refine lv_aload hx hb dX10_word_115 (lv_at hl 0 rfl) ?_
      refine va_get (ci := 9) (v := .ref h5) (C := RX9) (T := TX9) (N := 5) hx hb ht0 iX9 hown hK hP 4 rfl rfl 0 (by decide) (ht0 _ wd_321) (fun _ h9 => h9) rfl dX10_word_117 ?_
      refine lv_iload_n hx hb dX10_word_120 rfl (lv_at hl 3 rfl) ?_
      obtain ⟨g16, hf⟩ := of_grd hf
      refine va_iald hx hb hK hP 5 0 rfl rfl g16 dX10_word_121 ?_
      refine lv_aload hx hb dX10_word_122 (lv_at hl 0 rfl) ?_
      refine va_get (ci := 9) (v := .ref h6) (C := RX9) (T := TX9) (N := 5) hx hb ht0 iX9 hown hK hP 4 rfl rfl 1 (by decide) (ht0 _ wd_323) (fun _ h9 => h9) rfl dX10_word_124 ?_
      refine lv_iload_n hx hb dX10_word_127 rfl (lv_at hl 3 rfl) ?_
      obtain ⟨g17, hf⟩ := of_grd hf
      refine va_iald hx hb hK hP 6 0 rfl rfl g17 dX10_word_128 ?_
      refine lv_ixor hx hb dX10_word_129 ?_
      obtain ⟨r_130_17, hc_r_130_17, hf⟩ := of_bnd hf
      refine cl_Si (w2 := (wW_X10_word G h0 h1 h2 h3 h4 h5 h6 h7 y0_0 y0_1 y0_2 y0_4 y0_5 y0_6 y0_7 y0_8 y0_9 y0_10 y3_3 y3_4 y3_5 y4_2 y4_4 x0_11 x0_12 x1_1 x1_2 a2 x3_0 x3_1 x3_2 a5 a6 a7)) (As := [.int ((a5 b1.toNatClampNeg) ^^^ (a6 b1.toNatClampNeg))]) (rest := []) ⟨hx, hb, hml, hown, ht0⟩ (c_J6_bitCount_0f7a4 l G _ F ((a5 b1.toNatClampNeg) ^^^ (a6 b1.toNatClampNeg)) _ hc_r_130_17) yk_J6_bitCount_0f7a4 wd_939 ⟨rfl, rfl, by decide, by decide⟩ ⟨Nat.le_refl _, Nat.le_refl _⟩ hX hK hP hD hS hA [] [0, 1, 2, 3, 4, 5, 6, 7] [0, 1, 2, 3, 4, 5, 6, 7] rfl rfl (by decide) rfl rfl rfl rfl rfl hl.1 rfl (Nat.le_of_ble_eq_true rfl) dX10_word_130 (fun H locs hP hD hS => ?_)
      cases hf
      exact ret_i hx hb hr hlk hK hP hD hS dX10_word_133
    have hf := of_neg hf c15
    refine lv_tableOut (tgt := 134) hx hb dX10_word_33 (by have n0 := lv_neT (a := 0) c5 rfl; have n1 := lv_neT (a := 1) c8 rfl; have n2 := lv_neT (a := 2) c10 rfl; have n3 := lv_neT (a := 3) c12 rfl; have n4 := lv_neT (a := 4) c15 rfl; omega) (by decide) ?_
    refine lv_iconst (v := (-1 : Int32)) hx hb dX10_word_134 (by decide) ?_
    cases hf
    exact ret_i hx hb hr hlk hK hP hD hS dX10_word_135
  · have hf := of_pos hf c2
    refine lv_iconst (v := (-1 : Int32)) hx hb dX10_word_7 (by decide) ?_
    cases hf
    exact ret_i hx hb hr hlk hK hP hD hS dX10_word_8
theorem yk_X10_word : ykV yX10_word RX10 cX10_word 5 (some .int) 2 := ⟨wd_1053, wd_1054, wd_127, wd_1055, rfl, by decide +kernel, by decide +kernel, by decide +kernel⟩
theorem dX10_reading_0 : decode cX10_reading 0 = .ok (.iload_n 1, 1) := by decide +kernel
theorem dX10_reading_1 : decode cX10_reading 1 = .ok (.invokestatic 140, 3) := by decide +kernel
theorem dX10_reading_4 : decode cX10_reading 4 = .ok (.ifCond .eq 12, 3) := by decide +kernel
theorem dX10_reading_7 : decode cX10_reading 7 = .ok (.iload_n 2, 1) := by decide +kernel
theorem dX10_reading_8 : decode cX10_reading 8 = .ok (.ifCond .lt 8, 3) := by decide +kernel
theorem dX10_reading_11 : decode cX10_reading 11 = .ok (.iload_n 2, 1) := by decide +kernel
theorem dX10_reading_12 : decode cX10_reading 12 = .ok (.iconst 3, 1) := by decide +kernel
theorem dX10_reading_13 : decode cX10_reading 13 = .ok (.if_icmp .le 5, 3) := by decide +kernel
theorem dX10_reading_16 : decode cX10_reading 16 = .ok (.iconst (-1), 1) := by decide +kernel
theorem dX10_reading_17 : decode cX10_reading 17 = .ok (.ireturn, 1) := by decide +kernel
theorem dX10_reading_18 : decode cX10_reading 18 = .ok (.aload_n 0, 1) := by decide +kernel
theorem dX10_reading_19 : decode cX10_reading 19 = .ok (.getfield 29, 3) := by decide +kernel
theorem dX10_reading_22 : decode cX10_reading 22 = .ok (.invokevirtual 92, 3) := by decide +kernel
theorem dX10_reading_25 : decode cX10_reading 25 = .ok (.getfield 96, 3) := by decide +kernel
theorem dX10_reading_28 : decode cX10_reading 28 = .ok (.astore_n 3, 1) := by decide +kernel
theorem dX10_reading_29 : decode cX10_reading 29 = .ok (.aload_n 0, 1) := by decide +kernel
theorem dX10_reading_30 : decode cX10_reading 30 = .ok (.getfield 29, 3) := by decide +kernel
theorem dX10_reading_33 : decode cX10_reading 33 = .ok (.invokevirtual 92, 3) := by decide +kernel
theorem dX10_reading_36 : decode cX10_reading 36 = .ok (.getfield 125, 3) := by decide +kernel
theorem dX10_reading_39 : decode cX10_reading 39 = .ok (.astore 4, 2) := by decide +kernel
theorem dX10_reading_41 : decode cX10_reading 41 = .ok (.aload 4, 2) := by decide +kernel
theorem dX10_reading_43 : decode cX10_reading 43 = .ok (.aload_n 3, 1) := by decide +kernel
theorem dX10_reading_44 : decode cX10_reading 44 = .ok (.iload_n 1, 1) := by decide +kernel
theorem dX10_reading_45 : decode cX10_reading 45 = .ok (.aload_n 0, 1) := by decide +kernel
theorem dX10_reading_46 : decode cX10_reading 46 = .ok (.getfield 47, 3) := by decide +kernel
theorem dX10_reading_49 : decode cX10_reading 49 = .ok (.invokevirtual 154, 3) := by decide +kernel
theorem dX10_reading_52 : decode cX10_reading 52 = .ok (.iload_n 2, 1) := by decide +kernel
theorem dX10_reading_53 : decode cX10_reading 53 = .ok (.ifCond .ne 11, 3) := by decide +kernel
theorem dX10_reading_56 : decode cX10_reading 56 = .ok (.aload_n 0, 1) := by decide +kernel
theorem dX10_reading_57 : decode cX10_reading 57 = .ok (.getfield 47, 3) := by decide +kernel
theorem dX10_reading_60 : decode cX10_reading 60 = .ok (.getfield 161, 3) := by decide +kernel
theorem dX10_reading_63 : decode cX10_reading 63 = .ok (.ireturn, 1) := by decide +kernel
theorem dX10_reading_64 : decode cX10_reading 64 = .ok (.iload_n 2, 1) := by decide +kernel
theorem dX10_reading_65 : decode cX10_reading 65 = .ok (.iconst 1, 1) := by decide +kernel
theorem dX10_reading_66 : decode cX10_reading 66 = .ok (.if_icmp .ne 11, 3) := by decide +kernel
theorem dX10_reading_69 : decode cX10_reading 69 = .ok (.aload_n 0, 1) := by decide +kernel
theorem dX10_reading_70 : decode cX10_reading 70 = .ok (.getfield 47, 3) := by decide +kernel
theorem dX10_reading_73 : decode cX10_reading 73 = .ok (.getfield 286, 3) := by decide +kernel
theorem dX10_reading_76 : decode cX10_reading 76 = .ok (.ireturn, 1) := by decide +kernel
theorem dX10_reading_77 : decode cX10_reading 77 = .ok (.aload_n 0, 1) := by decide +kernel
theorem dX10_reading_78 : decode cX10_reading 78 = .ok (.getfield 47, 3) := by decide +kernel
theorem dX10_reading_81 : decode cX10_reading 81 = .ok (.invokevirtual 158, 3) := by decide +kernel
theorem dX10_reading_84 : decode cX10_reading 84 = .ok (.ifCond .eq 5, 3) := by decide +kernel
theorem dX10_reading_87 : decode cX10_reading 87 = .ok (.iconst (-1), 1) := by decide +kernel
theorem dX10_reading_88 : decode cX10_reading 88 = .ok (.ireturn, 1) := by decide +kernel
theorem dX10_reading_89 : decode cX10_reading 89 = .ok (.aload 4, 2) := by decide +kernel
theorem dX10_reading_91 : decode cX10_reading 91 = .ok (.getfield 182, 3) := by decide +kernel
theorem dX10_reading_94 : decode cX10_reading 94 = .ok (.iload_n 1, 1) := by decide +kernel
theorem dX10_reading_95 : decode cX10_reading 95 = .ok (.iaload, 1) := by decide +kernel
theorem dX10_reading_96 : decode cX10_reading 96 = .ok (.aload_n 0, 1) := by decide +kernel
theorem dX10_reading_97 : decode cX10_reading 97 = .ok (.getfield 47, 3) := by decide +kernel
theorem dX10_reading_100 : decode cX10_reading 100 = .ok (.getfield 289, 3) := by decide +kernel
theorem dX10_reading_103 : decode cX10_reading 103 = .ok (.ixor, 1) := by decide +kernel
theorem dX10_reading_104 : decode cX10_reading 104 = .ok (.istore 5, 2) := by decide +kernel
theorem dX10_reading_106 : decode cX10_reading 106 = .ok (.iload_n 2, 1) := by decide +kernel
theorem dX10_reading_107 : decode cX10_reading 107 = .ok (.iconst 2, 1) := by decide +kernel
theorem dX10_reading_108 : decode cX10_reading 108 = .ok (.if_icmp .ne 11, 3) := by decide +kernel
theorem dX10_reading_111 : decode cX10_reading 111 = .ok (.iload 5, 2) := by decide +kernel
theorem dX10_reading_113 : decode cX10_reading 113 = .ok (.aload_n 3, 1) := by decide +kernel
theorem dX10_reading_114 : decode cX10_reading 114 = .ok (.invokevirtual 274, 3) := by decide +kernel
theorem dX10_reading_117 : decode cX10_reading 117 = .ok (.iand, 1) := by decide +kernel
theorem dX10_reading_118 : decode cX10_reading 118 = .ok (.ireturn, 1) := by decide +kernel
theorem dX10_reading_119 : decode cX10_reading 119 = .ok (.iload 5, 2) := by decide +kernel
theorem dX10_reading_121 : decode cX10_reading 121 = .ok (.aload 4, 2) := by decide +kernel
theorem dX10_reading_123 : decode cX10_reading 123 = .ok (.getfield 283, 3) := by decide +kernel
theorem dX10_reading_126 : decode cX10_reading 126 = .ok (.iload_n 1, 1) := by decide +kernel
theorem dX10_reading_127 : decode cX10_reading 127 = .ok (.iaload, 1) := by decide +kernel
theorem dX10_reading_128 : decode cX10_reading 128 = .ok (.if_icmp .ne 7, 3) := by decide +kernel
theorem dX10_reading_131 : decode cX10_reading 131 = .ok (.iconst 1, 1) := by decide +kernel
theorem dX10_reading_132 : decode cX10_reading 132 = .ok (.goto 4, 3) := by decide +kernel
theorem dX10_reading_135 : decode cX10_reading 135 = .ok (.iconst 0, 1) := by decide +kernel
theorem dX10_reading_136 : decode cX10_reading 136 = .ok (.ireturn, 1) := by decide +kernel
def wW_X10_reading (G : GG) (h0 h1 h2 h3 h4 h5 h6 h7 h8 h9 h10 h11 h12 y0_0 y0_1 y0_2 y0_4 y0_5 y0_7 y0_8 y0_9 y0_10 y8_4 : Nat) (x0_11 : Int32) (x0_12 : Int32) (x1_1 : Int32) (x1_2 : Int32) (a2 : Nat → Option Nat) (x3_0 : Int32) (x3_1 : Int32) (x3_2 : Int32) (x4_0 : Int32) (x4_1 : Int32) (x4_2 : Int32) (a5 : Nat → Int32) (a6 : Nat → Int32) (a7 : Nat → Int32) (a9 : Nat → Int32) (a10 : Nat → Int32) (a11 : Nat → Int32) (a12 : Nat → Int32) : va_W := [(h0, .inr (10, [.ref y0_0, .ref y0_1, .ref y0_2, .ref h1, .ref y0_4, .ref y0_5, .ref h3, .ref y0_7, .ref y0_8, .ref y0_9, .ref y0_10, .int x0_11, .int x0_12])), (h1, .inr (8, [.ref h2, .int x1_1, .int x1_2])), (h2, .inl (G.2.2.2.2.1, 13, .inr (.inr (.inr (.inr a2))))), (h3, .inr (2, [.int x3_0, .int x3_1, .int x3_2])), (h4, .inr (1, [.int x4_0, .int x4_1, .int x4_2, .ref h5, .ref h6, .ref h7])), (h5, .inl (G.2.1, 32, .inl a5)), (h6, .inl (G.2.1, 256, .inl a6)), (h7, .inl (G.2.1, 256, .inl a7)), (h8, .inr (9, [.ref h9, .ref h10, .ref h11, .ref h12, .ref y8_4])), (h9, .inl (G.2.1, 16, .inl a9)), (h10, .inl (G.2.1, 16, .inl a10)), (h11, .inl (G.2.1, 16, .inl a11)), (h12, .inl (G.2.1, 16, .inl a12))]
set_option maxHeartbeats 4000000 in
set_option maxRecDepth 100000 in
theorem c_X10_reading (l : Launch) (G : GG) (h0 h1 h2 h3 h4 h5 h6 h7 h8 h9 h10 h11 h12 y0_0 y0_1 y0_2 y0_4 y0_5 y0_7 y0_8 y0_9 y0_10 y8_4 g_cur : Nat) (sz : Nat) (x0_11 : Int32) (x0_12 : Int32) (x1_1 : Int32) (x1_2 : Int32) (a2 : Nat → Option Nat) (x3_0 : Int32) (x3_1 : Int32) (x3_2 : Int32) (x4_0 : Int32) (x4_1 : Int32) (x4_2 : Int32) (a5 : Nat → Int32) (a6 : Nat → Int32) (a7 : Nat → Int32) (a9 : Nat → Int32) (a10 : Nat → Int32) (a11 : Nat → Int32) (a12 : Nat → Int32) (F : Nat) (b1 : Int32) (b2 : Int32) (hq_cur : (g_cur, h4, h8) ∈ gS G)  (r0 : Int32) (e_x3_0 : Int32) (e_x3_1 : Int32) (e_x3_2 : Int32) (hf : p_X10_reading F g_cur x1_1 a2 x3_0 x3_1 x3_2 x4_0 x4_2 a5 a6 a7 a9 a10 a11 a12 b1 b2 = some (r0, e_x3_0, e_x3_1, e_x3_2)) : Met l yX10_reading (.code yX10_reading cX10_reading 6 (some .int) :: gtbl) ({ frames := 4, cells := 0, slots := 0, locals := 99 } : Room) (PcS G [.ref h0, .int b1, .int b2] (wW_X10_reading G h0 h1 h2 h3 h4 h5 h6 h7 h8 h9 h10 h11 h12 y0_0 y0_1 y0_2 y0_4 y0_5 y0_7 y0_8 y0_9 y0_10 y8_4 x0_11 x0_12 x1_1 x1_2 a2 x3_0 x3_1 x3_2 x4_0 x4_1 x4_2 a5 a6 a7 a9 a10 a11 a12) sz) (QiS G r0 (va_A (wW_X10_reading G h0 h1 h2 h3 h4 h5 h6 h7 h8 h9 h10 h11 h12 y0_0 y0_1 y0_2 y0_4 y0_5 y0_7 y0_8 y0_9 y0_10 y8_4 x0_11 x0_12 x1_1 x1_2 a2 x3_0 x3_1 x3_2 x4_0 x4_1 x4_2 a5 a6 a7 a9 a10 a11 a12) sz) (wW_X10_reading G h0 h1 h2 h3 h4 h5 h6 h7 h8 h9 h10 h11 h12 y0_0 y0_1 y0_2 y0_4 y0_5 y0_7 y0_8 y0_9 y0_10 y8_4 x0_11 x0_12 x1_1 x1_2 a2 e_x3_0 e_x3_1 e_x3_2 x4_0 x4_1 x4_2 a5 a6 a7 a9 a10 a11 a12)) 0 0 (va_A (wW_X10_reading G h0 h1 h2 h3 h4 h5 h6 h7 h8 h9 h10 h11 h12 y0_0 y0_1 y0_2 y0_4 y0_5 y0_7 y0_8 y0_9 y0_10 y8_4 x0_11 x0_12 x1_1 x1_2 a2 x3_0 x3_1 x3_2 x4_0 x4_1 x4_2 a5 a6 a7 a9 a10 a11 a12) sz) := by
  refine met_start (by decide) (Nat.le_of_ble_eq_true rfl) ?_
  intro p e s m below meth c hC hr hlk hnm hK hP hD hA hS hX ls hl
  obtain ⟨hx, hb, hml, hown, ht0⟩ := hC
  have hown : s.vm.findClass RX10 = some m.cls := hown
  generalize va_A (wW_X10_reading G h0 h1 h2 h3 h4 h5 h6 h7 h8 h9 h10 h11 h12 y0_0 y0_1 y0_2 y0_4 y0_5 y0_7 y0_8 y0_9 y0_10 y8_4 x0_11 x0_12 x1_1 x1_2 a2 x3_0 x3_1 x3_2 x4_0 x4_1 x4_2 a5 a6 a7 a9 a10 a11 a12) sz = A at hD hA hS hX ⊢
  have hl : lv_has ls 6 [(0, .ref h0), (1, .int b1), (2, .int b2)] := hl
  have hf : p_X10_reading F g_cur x1_1 a2 x3_0 x3_1 x3_2 x4_0 x4_2 a5 a6 a7 a9 a10 a11 a12 b1 b2 = some (r0, e_x3_0, e_x3_1, e_x3_2) := hf
  refine lv_iload_n hx hb dX10_reading_0 rfl (lv_at hl 1 rfl) ?_
  obtain ⟨r_1_0, hc_r_1_0, hf⟩ := of_bnd hf
  refine cl_Si (w2 := (wW_X10_reading G h0 h1 h2 h3 h4 h5 h6 h7 h8 h9 h10 h11 h12 y0_0 y0_1 y0_2 y0_4 y0_5 y0_7 y0_8 y0_9 y0_10 y8_4 x0_11 x0_12 x1_1 x1_2 a2 x3_0 x3_1 x3_2 x4_0 x4_1 x4_2 a5 a6 a7 a9 a10 a11 a12)) (As := [.int b1]) (rest := []) ⟨hx, hb, hml, hown, ht0⟩ (c_X10_isWord l G _ F b1 _ hc_r_1_0) yk_X10_isWord wd_791 ⟨rfl, rfl, by decide, by decide⟩ ⟨Nat.le_refl _, Nat.le_refl _⟩ hX hK hP hD hS hA [] [0, 1, 2, 3, 4, 5, 6, 7, 8, 9, 10, 11, 12] [0, 1, 2, 3, 4, 5, 6, 7, 8, 9, 10, 11, 12] rfl rfl (by decide) rfl rfl rfl rfl rfl hl.1 rfl (Nat.le_of_ble_eq_true rfl) dX10_reading_1 (fun H locs hP hD hS => ?_)
  refine lv_if_eq (tgt := 16) hx hb dX10_reading_4 (by decide) (fun c2 => ?_) (fun c2 => ?_)
  · have hf := of_pos hf c2
    refine lv_iconst (v := (-1 : Int32)) hx hb dX10_reading_16 (by decide) ?_
    cases hf
    exact ret_i hx hb hr hlk hK hP hD hS dX10_reading_17
  · have hf := of_neg hf c2
    refine lv_iload_n hx hb dX10_reading_7 rfl (lv_at hl 2 rfl) ?_
    refine lv_if_lt (tgt := 16) hx hb dX10_reading_8 (by decide) (fun c3 => ?_) (fun c3 => ?_)
    · have hf := of_pos hf c3
      refine lv_iconst (v := (-1 : Int32)) hx hb dX10_reading_16 (by decide) ?_
      cases hf
      exact ret_i hx hb hr hlk hK hP hD hS dX10_reading_17
    · have hf := of_neg hf c3
      refine lv_iload_n hx hb dX10_reading_11 rfl (lv_at hl 2 rfl) ?_
      refine lv_iconst (v := (3 : Int32)) hx hb dX10_reading_12 (by decide) ?_
      refine lv_icmp_le (tgt := 18) hx hb dX10_reading_13 (by decide) (fun c4 => ?_) (fun c4 => ?_)
      · have hf := of_pos hf c4
        refine lv_aload_n hx hb dX10_reading_18 rfl (lv_at hl 0 rfl) ?_
        refine va_get (ci := 10) (v := .ref h1) (C := RX10) (T := TX10) (N := 13) hx hb ht0 iX10 hown hK hP 0 rfl rfl 3 (by decide) (ht0 _ wd_543) (fun _ h9 => h9) rfl dX10_reading_19 ?_
        obtain ⟨_, hc_r_22_4, hf⟩ := of_bnd hf
        refine cl_Vr (w2 := (wW_X10_reading G h0 h1 h2 h3 h4 h5 h6 h7 h8 h9 h10 h11 h12 y0_0 y0_1 y0_2 y0_4 y0_5 y0_7 y0_8 y0_9 y0_10 y8_4 x0_11 x0_12 x1_1 x1_2 a2 x3_0 x3_1 x3_2 x4_0 x4_1 x4_2 a5 a6 a7 a9 a10 a11 a12)) (As := []) (rest := []) ⟨hx, hb, hml, hown, ht0⟩ (c_X8_now l G h1 h2 g_cur h4 h8 _ x1_1 x1_2 a2 F hq_cur hc_r_22_4) yk_X8_now wd_531 ⟨rfl, rfl, by decide, by decide⟩ ⟨Nat.le_refl _, Nat.le_refl _⟩ hX hK hP hD hS hA [1, 2] [0, 3, 4, 5, 6, 7, 8, 9, 10, 11, 12] [0, 11, 12, 1, 2, 3, 4, 5, 6, 7, 8, 9, 10] (va_recv hK hP (ci := 8) (q0 := 1) rfl rfl) rfl rfl (by decide) rfl rfl rfl rfl rfl hl.1 rfl (Nat.le_of_ble_eq_true rfl) dX10_reading_22 (fun H locs hP hD hS => ?_)
        refine vk_getf hx hb (hX.2.2 _ hq_cur).2.1 hS hown (ht0 _ wd_342) (fun _ h => h) dX10_reading_25 ?_
        refine lv_astore_n (lv' := [(3, .ref h4), (0, .ref h0), (1, .int b1), (2, .int b2)]) hx hb dX10_reading_28 rfl hl (by decide) rfl (fun ls hl => ?_)
        refine lv_aload_n hx hb dX10_reading_29 rfl (lv_at hl 1 rfl) ?_
        refine va_get (ci := 10) (v := .ref h1) (C := RX10) (T := TX10) (N := 13) hx hb ht0 iX10 hown hK hP 0 rfl rfl 3 (by decide) (ht0 _ wd_543) (fun _ h9 => h9) rfl dX10_reading_30 ?_
        obtain ⟨_, hc_r_33_5, hf⟩ := of_bnd hf
        refine cl_Vr (w2 := (wW_X10_reading G h0 h1 h2 h3 h4 h5 h6 h7 h8 h9 h10 h11 h12 y0_0 y0_1 y0_2 y0_4 y0_5 y0_7 y0_8 y0_9 y0_10 y8_4 x0_11 x0_12 x1_1 x1_2 a2 x3_0 x3_1 x3_2 x4_0 x4_1 x4_2 a5 a6 a7 a9 a10 a11 a12)) (As := []) (rest := []) ⟨hx, hb, hml, hown, ht0⟩ (c_X8_now l G h1 h2 g_cur h4 h8 _ x1_1 x1_2 a2 F hq_cur hc_r_33_5) yk_X8_now wd_531 ⟨rfl, rfl, by decide, by decide⟩ ⟨Nat.le_refl _, Nat.le_refl _⟩ hX hK hP hD hS hA [1, 2] [0, 3, 4, 5, 6, 7, 8, 9, 10, 11, 12] [0, 11, 12, 1, 2, 3, 4, 5, 6, 7, 8, 9, 10] (va_recv hK hP (ci := 8) (q0 := 1) rfl rfl) rfl rfl (by decide) rfl rfl rfl rfl rfl hl.1 rfl (Nat.le_of_ble_eq_true rfl) dX10_reading_33 (fun H locs hP hD hS => ?_)
        refine vk_getf hx hb (hX.2.2 _ hq_cur).2.2 hS hown (ht0 _ wd_344) (fun _ h => h) dX10_reading_36 ?_
        refine lv_astore (lv' := [(4, .ref h8), (3, .ref h4), (0, .ref h0), (1, .int b1), (2, .int b2)]) hx hb dX10_reading_39 hl (by decide) rfl (fun ls hl => ?_)
        refine lv_aload hx hb dX10_reading_41 (lv_at hl 0 rfl) ?_
        refine lv_aload_n hx hb dX10_reading_43 rfl (lv_at hl 1 rfl) ?_
        refine lv_iload_n hx hb dX10_reading_44 rfl (lv_at hl 3 rfl) ?_
        refine lv_aload_n hx hb dX10_reading_45 rfl (lv_at hl 2 rfl) ?_
        refine va_get (ci := 10) (v := .ref h3) (C := RX10) (T := TX10) (N := 13) hx hb ht0 iX10 hown hK hP 0 rfl rfl 6 (by decide) (ht0 _ wd_546) (fun _ h9 => h9) rfl dX10_reading_46 ?_
        obtain ⟨⟨r_49_6_x7_0, r_49_6_x7_1, r_49_6_x7_2⟩, hc_r_49_6, hf⟩ := of_bnd hf
        refine cl_Vv (w2 := (wW_X10_reading G h0 h1 h2 h3 h4 h5 h6 h7 h8 h9 h10 h11 h12 y0_0 y0_1 y0_2 y0_4 y0_5 y0_7 y0_8 y0_9 y0_10 y8_4 x0_11 x0_12 x1_1 x1_2 a2 r_49_6_x7_0 r_49_6_x7_1 r_49_6_x7_2 x4_0 x4_1 x4_2 a5 a6 a7 a9 a10 a11 a12)) (As := [.ref h4, .int b1, .ref h3]) (rest := []) ⟨hx, hb, hml, hown, ht0⟩ (c_X9_readWord l G h8 h11 h12 h4 h5 h6 h7 h3 h9 h10 y8_4 _ a11 a12 x4_0 x4_1 x4_2 a5 a6 a7 x3_0 x3_1 x3_2 F b1 _ _ _ hc_r_49_6) yk_X9_readWord wd_821 ⟨rfl, rfl, by decide, by decide⟩ ⟨Nat.le_refl _, Nat.le_refl _⟩ hX hK hP hD hS hA [8, 11, 12, 4, 5, 6, 7, 3] [0, 1, 2, 9, 10] [0, 1, 2, 12, 8, 9, 10, 11, 5, 3, 4, 6, 7] (va_recv hK hP (ci := 9) (q0 := 8) rfl rfl) rfl rfl (by decide) rfl rfl rfl rfl rfl hl.1 rfl (Nat.le_of_ble_eq_true rfl) dX10_reading_49 (fun H locs hP hD hS => ?_)
        refine lv_iload_n hx hb dX10_reading_52 rfl (lv_at hl 4 rfl) ?_
        refine lv_if_ne (tgt := 64) hx hb dX10_reading_53 (by decide) (fun c8 => ?_) (fun c8 => ?_)
        · have hf := of_neg hf c8
          refine lv_iload_n hx hb dX10_reading_64 rfl (lv_at hl 4 rfl) ?_
          refine lv_iconst (v := (1 : Int32)) hx hb dX10_reading_65 (by decide) ?_
          refine lv_icmp_ne (tgt := 77) hx hb dX10_reading_66 (by decide) (fun c9 => ?_) (fun c9 => ?_)
          · have hf := of_neg hf c9
            refine lv_aload_n hx hb dX10_reading_77 rfl (lv_at hl 2 rfl) ?_
            refine va_get (ci := 10) (v := .ref h3) (C := RX10) (T := TX10) (N := 13) hx hb ht0 iX10 hown hK hP 0 rfl rfl 6 (by decide) (ht0 _ wd_546) (fun _ h9 => h9) rfl dX10_reading_78 ?_
            obtain ⟨r_81_9, hc_r_81_9, hf⟩ := of_bnd hf
            refine cl_Vi (w2 := (wW_X10_reading G h0 h1 h2 h3 h4 h5 h6 h7 h8 h9 h10 h11 h12 y0_0 y0_1 y0_2 y0_4 y0_5 y0_7 y0_8 y0_9 y0_10 y8_4 x0_11 x0_12 x1_1 x1_2 a2 r_49_6_x7_0 r_49_6_x7_1 r_49_6_x7_2 x4_0 x4_1 x4_2 a5 a6 a7 a9 a10 a11 a12)) (As := []) (rest := []) ⟨hx, hb, hml, hown, ht0⟩ (c_X2_isTold l G h3 _ r_49_6_x7_0 r_49_6_x7_1 r_49_6_x7_2 F _ hc_r_81_9) yk_X2_isTold wd_850 ⟨rfl, rfl, by decide, by decide⟩ ⟨Nat.le_refl _, Nat.le_refl _⟩ hX hK hP hD hS hA [3] [0, 1, 2, 4, 5, 6, 7, 8, 9, 10, 11, 12] [0, 1, 2, 12, 3, 4, 5, 6, 7, 8, 9, 10, 11] (va_recv hK hP (ci := 2) (q0 := 3) rfl rfl) rfl rfl (by decide) rfl rfl rfl rfl rfl hl.1 rfl (Nat.le_of_ble_eq_true rfl) dX10_reading_81 (fun H locs hP hD hS => ?_)
            refine lv_if_eq (tgt := 89) hx hb dX10_reading_84 (by decide) (fun c11 => ?_) (fun c11 => ?_)
            · have hf := of_pos hf c11
              refine lv_aload hx hb dX10_reading_89 (lv_at hl 0 rfl) ?_
              refine va_get (ci := 9) (v := .ref h9) (C := RX9) (T := TX9) (N := 5) hx hb ht0 iX9 hown hK hP 8 rfl rfl 0 (by decide) (ht0 _ wd_321) (fun _ h9 => h9) rfl dX10_reading_91 ?_
              refine lv_iload_n hx hb dX10_reading_94 rfl (lv_at hl 3 rfl) ?_
              obtain ⟨g12, hf⟩ := of_grd hf
              refine va_iald hx hb hK hP 9 0 rfl rfl g12 dX10_reading_95 ?_
              refine lv_aload_n hx hb dX10_reading_96 rfl (lv_at hl 2 rfl) ?_
              refine va_get (ci := 10) (v := .ref h3) (C := RX10) (T := TX10) (N := 13) hx hb ht0 iX10 hown hK hP 0 rfl rfl 6 (by decide) (ht0 _ wd_546) (fun _ h9 => h9) rfl dX10_reading_97 ?_
              refine va_get (ci := 2) (v := .int r_49_6_x7_2) (C := RX2) (T := TX2) (N := 3) hx hb ht0 iX2 hown hK hP 3 rfl rfl 2 (by decide) (ht0 _ wd_377) (fun _ h9 => h9) rfl dX10_reading_100 ?_
              refine lv_ixor hx hb dX10_reading_103 ?_
              refine lv_istore (lv' := [(5, .int ((a9 b1.toNatClampNeg) ^^^ r_49_6_x7_2)), (4, .ref h8), (3, .ref h4), (0, .ref h0), (1, .int b1), (2, .int b2)]) hx hb dX10_reading_104 hl (by decide) rfl (fun ls hl => ?_)
              refine lv_iload_n hx hb dX10_reading_106 rfl (lv_at hl 5 rfl) ?_
              refine lv_iconst (v := (2 : Int32)) hx hb dX10_reading_107 (by decide) ?_
              refine lv_icmp_ne (tgt := 119) hx hb dX10_reading_108 (by decide) (fun c13 => ?_) (fun c13 => ?_)
              · have hf := of_neg hf c13
                refine lv_iload hx hb dX10_reading_119 (lv_at hl 0 rfl) ?_
                refine lv_aload hx hb dX10_reading_121 (lv_at hl 1 rfl) ?_
                refine va_get (ci := 9) (v := .ref h10) (C := RX9) (T := TX9) (N := 5) hx hb ht0 iX9 hown hK hP 8 rfl rfl 1 (by decide) (ht0 _ wd_323) (fun _ h9 => h9) rfl dX10_reading_123 ?_
                refine lv_iload_n hx hb dX10_reading_126 rfl (lv_at hl 4 rfl) ?_
                obtain ⟨g14, hf⟩ := of_grd hf
                refine va_iald hx hb hK hP 10 0 rfl rfl g14 dX10_reading_127 ?_
                refine lv_icmp_ne (tgt := 135) hx hb dX10_reading_128 (by decide) (fun c15 => ?_) (fun c15 => ?_)
                · have hf := of_neg hf c15
                  refine lv_iconst (v := (0 : Int32)) hx hb dX10_reading_135 (by decide) ?_
                  cases hf
                  exact ret_i hx hb hr hlk hK hP hD hS dX10_reading_136
                · have hf := of_pos hf c15
                  refine lv_iconst (v := (1 : Int32)) hx hb dX10_reading_131 (by decide) ?_
                  refine lv_goto (tgt := 136) hx hb dX10_reading_132 (by decide) ?_
                  cases hf
                  exact ret_i hx hb hr hlk hK hP hD hS dX10_reading_136
              · have hf := of_pos hf c13
                refine lv_iload hx hb dX10_reading_111 (lv_at hl 0 rfl) ?_
                refine lv_aload_n hx hb dX10_reading_113 rfl (lv_at hl 2 rfl) ?_
                obtain ⟨r_114_15, hc_r_114_15, hf⟩ := of_bnd hf
                refine cl_Vi (w2 := (wW_X10_reading G h0 h1 h2 h3 h4 h5 h6 h7 h8 h9 h10 h11 h12 y0_0 y0_1 y0_2 y0_4 y0_5 y0_7 y0_8 y0_9 y0_10 y8_4 x0_11 x0_12 x1_1 x1_2 a2 r_49_6_x7_0 r_49_6_x7_1 r_49_6_x7_2 x4_0 x4_1 x4_2 a5 a6 a7 a9 a10 a11 a12)) (As := []) (rest := [.int ((a9 b1.toNatClampNeg) ^^^ r_49_6_x7_2)]) ⟨hx, hb, hml, hown, ht0⟩ (c_X1_dataMask l G h4 h5 h6 h7 _ x4_0 x4_1 x4_2 F _ hc_r_114_15) yk_X1_dataMask wd_1056 ⟨rfl, rfl, by decide, by decide⟩ ⟨Nat.le_refl _, Nat.le_refl _⟩ hX hK hP hD hS hA [4] [0, 1, 2, 3, 5, 6, 7, 8, 9, 10, 11, 12] [0, 1, 2, 3, 12, 4, 5, 6, 7, 8, 9, 10, 11] (va_recv hK hP (ci := 1) (q0 := 4) rfl rfl) rfl rfl (by decide) rfl rfl rfl rfl rfl hl.1 rfl (Nat.le_of_ble_eq_true rfl) dX10_reading_114 (fun H locs hP hD hS => ?_)
                refine lv_iand hx hb dX10_reading_117 ?_
                cases hf
                exact ret_i hx hb hr hlk hK hP hD hS dX10_reading_118
            · have hf := of_neg hf c11
              refine lv_iconst (v := (-1 : Int32)) hx hb dX10_reading_87 (by decide) ?_
              cases hf
              exact ret_i hx hb hr hlk hK hP hD hS dX10_reading_88
          · have hf := of_pos hf c9
            refine lv_aload_n hx hb dX10_reading_69 rfl (lv_at hl 2 rfl) ?_
            refine va_get (ci := 10) (v := .ref h3) (C := RX10) (T := TX10) (N := 13) hx hb ht0 iX10 hown hK hP 0 rfl rfl 6 (by decide) (ht0 _ wd_546) (fun _ h9 => h9) rfl dX10_reading_70 ?_
            refine va_get (ci := 2) (v := .int r_49_6_x7_1) (C := RX2) (T := TX2) (N := 3) hx hb ht0 iX2 hown hK hP 3 rfl rfl 1 (by decide) (ht0 _ wd_374) (fun _ h9 => h9) rfl dX10_reading_73 ?_
            cases hf
            exact ret_i hx hb hr hlk hK hP hD hS dX10_reading_76
        · have hf := of_pos hf c8
          refine lv_aload_n hx hb dX10_reading_56 rfl (lv_at hl 2 rfl) ?_
          refine va_get (ci := 10) (v := .ref h3) (C := RX10) (T := TX10) (N := 13) hx hb ht0 iX10 hown hK hP 0 rfl rfl 6 (by decide) (ht0 _ wd_546) (fun _ h9 => h9) rfl dX10_reading_57 ?_
          refine va_get (ci := 2) (v := .int r_49_6_x7_0) (C := RX2) (T := TX2) (N := 3) hx hb ht0 iX2 hown hK hP 3 rfl rfl 0 (by decide) (ht0 _ wd_371) (fun _ h9 => h9) rfl dX10_reading_60 ?_
          cases hf
          exact ret_i hx hb hr hlk hK hP hD hS dX10_reading_63
      · have hf := of_neg hf c4
        refine lv_iconst (v := (-1 : Int32)) hx hb dX10_reading_16 (by decide) ?_
        cases hf
        exact ret_i hx hb hr hlk hK hP hD hS dX10_reading_17
theorem yk_X10_reading : ykV yX10_reading RX10 cX10_reading 6 (some .int) 2 := ⟨wd_1058, wd_1059, wd_127, wd_1060, rfl, by decide +kernel, by decide +kernel, by decide +kernel⟩
theorem dX10_stuck_0 : decode cX10_stuck 0 = .ok (.iload_n 1, 1) := by decide +kernel
theorem dX10_stuck_1 : decode cX10_stuck 1 = .ok (.invokestatic 140, 3) := by decide +kernel
theorem dX10_stuck_4 : decode cX10_stuck 4 = .ok (.ifCond .eq 12, 3) := by decide +kernel
theorem dX10_stuck_7 : decode cX10_stuck 7 = .ok (.iload_n 2, 1) := by decide +kernel
theorem dX10_stuck_8 : decode cX10_stuck 8 = .ok (.ifCond .lt 8, 3) := by decide +kernel
theorem dX10_stuck_11 : decode cX10_stuck 11 = .ok (.iload_n 2, 1) := by decide +kernel
theorem dX10_stuck_12 : decode cX10_stuck 12 = .ok (.iconst 1, 1) := by decide +kernel
theorem dX10_stuck_13 : decode cX10_stuck 13 = .ok (.if_icmp .le 5, 3) := by decide +kernel
theorem dX10_stuck_16 : decode cX10_stuck 16 = .ok (.iconst (-1), 1) := by decide +kernel
theorem dX10_stuck_17 : decode cX10_stuck 17 = .ok (.ireturn, 1) := by decide +kernel
theorem dX10_stuck_18 : decode cX10_stuck 18 = .ok (.aload_n 0, 1) := by decide +kernel
theorem dX10_stuck_19 : decode cX10_stuck 19 = .ok (.getfield 29, 3) := by decide +kernel
theorem dX10_stuck_22 : decode cX10_stuck 22 = .ok (.invokevirtual 92, 3) := by decide +kernel
theorem dX10_stuck_25 : decode cX10_stuck 25 = .ok (.getfield 125, 3) := by decide +kernel
theorem dX10_stuck_28 : decode cX10_stuck 28 = .ok (.getfield 195, 3) := by decide +kernel
theorem dX10_stuck_31 : decode cX10_stuck 31 = .ok (.iload_n 1, 1) := by decide +kernel
theorem dX10_stuck_32 : decode cX10_stuck 32 = .ok (.iaload, 1) := by decide +kernel
theorem dX10_stuck_33 : decode cX10_stuck 33 = .ok (.istore_n 3, 1) := by decide +kernel
theorem dX10_stuck_34 : decode cX10_stuck 34 = .ok (.iload_n 3, 1) := by decide +kernel
theorem dX10_stuck_35 : decode cX10_stuck 35 = .ok (.invokestatic 292, 3) := by decide +kernel
theorem dX10_stuck_38 : decode cX10_stuck 38 = .ok (.istore 4, 2) := by decide +kernel
theorem dX10_stuck_40 : decode cX10_stuck 40 = .ok (.iload_n 2, 1) := by decide +kernel
theorem dX10_stuck_41 : decode cX10_stuck 41 = .ok (.ifCond .eq 9, 3) := by decide +kernel
theorem dX10_stuck_44 : decode cX10_stuck 44 = .ok (.iload 4, 2) := by decide +kernel
theorem dX10_stuck_46 : decode cX10_stuck 46 = .ok (.iconst (-1), 1) := by decide +kernel
theorem dX10_stuck_47 : decode cX10_stuck 47 = .ok (.if_icmp .ne 6, 3) := by decide +kernel
theorem dX10_stuck_50 : decode cX10_stuck 50 = .ok (.iload 4, 2) := by decide +kernel
theorem dX10_stuck_52 : decode cX10_stuck 52 = .ok (.ireturn, 1) := by decide +kernel
theorem dX10_stuck_53 : decode cX10_stuck 53 = .ok (.iload_n 3, 1) := by decide +kernel
theorem dX10_stuck_54 : decode cX10_stuck 54 = .ok (.iconst 1, 1) := by decide +kernel
theorem dX10_stuck_55 : decode cX10_stuck 55 = .ok (.iload 4, 2) := by decide +kernel
theorem dX10_stuck_57 : decode cX10_stuck 57 = .ok (.ishl, 1) := by decide +kernel
theorem dX10_stuck_58 : decode cX10_stuck 58 = .ok (.iconst (-1), 1) := by decide +kernel
theorem dX10_stuck_59 : decode cX10_stuck 59 = .ok (.ixor, 1) := by decide +kernel
theorem dX10_stuck_60 : decode cX10_stuck 60 = .ok (.iand, 1) := by decide +kernel
theorem dX10_stuck_61 : decode cX10_stuck 61 = .ok (.invokestatic 292, 3) := by decide +kernel
theorem dX10_stuck_64 : decode cX10_stuck 64 = .ok (.ireturn, 1) := by decide +kernel
def wW_X10_stuck (G : GG) (h0 h1 h2 h3 h4 y0_0 y0_1 y0_2 y0_4 y0_5 y0_6 y0_7 y0_8 y0_9 y0_10 y3_0 y3_1 y3_3 y3_4 : Nat) (x0_11 : Int32) (x0_12 : Int32) (x1_1 : Int32) (x1_2 : Int32) (a2 : Nat → Option Nat) (a4 : Nat → Int32) : va_W := [(h0, .inr (10, [.ref y0_0, .ref y0_1, .ref y0_2, .ref h1, .ref y0_4, .ref y0_5, .ref y0_6, .ref y0_7, .ref y0_8, .ref y0_9, .ref y0_10, .int x0_11, .int x0_12])), (h1, .inr (8, [.ref h2, .int x1_1, .int x1_2])), (h2, .inl (G.2.2.2.2.1, 13, .inr (.inr (.inr (.inr a2))))), (h3, .inr (9, [.ref y3_0, .ref y3_1, .ref h4, .ref y3_3, .ref y3_4])), (h4, .inl (G.2.1, 16, .inl a4))]
set_option maxHeartbeats 4000000 in
set_option maxRecDepth 100000 in
theorem c_X10_stuck (l : Launch) (G : GG) (h0 h1 h2 h3 h4 y0_0 y0_1 y0_2 y0_4 y0_5 y0_6 y0_7 y0_8 y0_9 y0_10 y3_0 y3_1 y3_3 y3_4 g_cur y_cur_code : Nat) (sz : Nat) (x0_11 : Int32) (x0_12 : Int32) (x1_1 : Int32) (x1_2 : Int32) (a2 : Nat → Option Nat) (a4 : Nat → Int32) (F : Nat) (b1 : Int32) (b2 : Int32) (hq_cur : (g_cur, y_cur_code, h3) ∈ gS G)  (r0 : Int32) (hf : p_X10_stuck F g_cur x1_1 a2 a4 b1 b2 = some r0) : Met l yX10_stuck (.code yX10_stuck cX10_stuck 5 (some .int) :: gtbl) ({ frames := 1, cells := 0, slots := 0, locals := 21 } : Room) (PcS G [.ref h0, .int b1, .int b2] (wW_X10_stuck G h0 h1 h2 h3 h4 y0_0 y0_1 y0_2 y0_4 y0_5 y0_6 y0_7 y0_8 y0_9 y0_10 y3_0 y3_1 y3_3 y3_4 x0_11 x0_12 x1_1 x1_2 a2 a4) sz) (QiS G r0 (va_A (wW_X10_stuck G h0 h1 h2 h3 h4 y0_0 y0_1 y0_2 y0_4 y0_5 y0_6 y0_7 y0_8 y0_9 y0_10 y3_0 y3_1 y3_3 y3_4 x0_11 x0_12 x1_1 x1_2 a2 a4) sz) (wW_X10_stuck G h0 h1 h2 h3 h4 y0_0 y0_1 y0_2 y0_4 y0_5 y0_6 y0_7 y0_8 y0_9 y0_10 y3_0 y3_1 y3_3 y3_4 x0_11 x0_12 x1_1 x1_2 a2 a4)) 0 0 (va_A (wW_X10_stuck G h0 h1 h2 h3 h4 y0_0 y0_1 y0_2 y0_4 y0_5 y0_6 y0_7 y0_8 y0_9 y0_10 y3_0 y3_1 y3_3 y3_4 x0_11 x0_12 x1_1 x1_2 a2 a4) sz) := by
  refine met_start (by decide) (Nat.le_of_ble_eq_true rfl) ?_
  intro p e s m below meth c hC hr hlk hnm hK hP hD hA hS hX ls hl
  obtain ⟨hx, hb, hml, hown, ht0⟩ := hC
  have hown : s.vm.findClass RX10 = some m.cls := hown
  generalize va_A (wW_X10_stuck G h0 h1 h2 h3 h4 y0_0 y0_1 y0_2 y0_4 y0_5 y0_6 y0_7 y0_8 y0_9 y0_10 y3_0 y3_1 y3_3 y3_4 x0_11 x0_12 x1_1 x1_2 a2 a4) sz = A at hD hA hS hX ⊢
  have hl : lv_has ls 5 [(0, .ref h0), (1, .int b1), (2, .int b2)] := hl
  have hf : p_X10_stuck F g_cur x1_1 a2 a4 b1 b2 = some r0 := hf
  refine lv_iload_n hx hb dX10_stuck_0 rfl (lv_at hl 1 rfl) ?_
  obtain ⟨r_1_0, hc_r_1_0, hf⟩ := of_bnd hf
  refine cl_Si (w2 := (wW_X10_stuck G h0 h1 h2 h3 h4 y0_0 y0_1 y0_2 y0_4 y0_5 y0_6 y0_7 y0_8 y0_9 y0_10 y3_0 y3_1 y3_3 y3_4 x0_11 x0_12 x1_1 x1_2 a2 a4)) (As := [.int b1]) (rest := []) ⟨hx, hb, hml, hown, ht0⟩ (c_X10_isWord l G _ F b1 _ hc_r_1_0) yk_X10_isWord wd_791 ⟨rfl, rfl, by decide, by decide⟩ ⟨Nat.le_refl _, Nat.le_refl _⟩ hX hK hP hD hS hA [] [0, 1, 2, 3, 4] [0, 1, 2, 3, 4] rfl rfl (by decide) rfl rfl rfl rfl rfl hl.1 rfl (Nat.le_of_ble_eq_true rfl) dX10_stuck_1 (fun H locs hP hD hS => ?_)
  refine lv_if_eq (tgt := 16) hx hb dX10_stuck_4 (by decide) (fun c2 => ?_) (fun c2 => ?_)
  · have hf := of_pos hf c2
    refine lv_iconst (v := (-1 : Int32)) hx hb dX10_stuck_16 (by decide) ?_
    cases hf
    exact ret_i hx hb hr hlk hK hP hD hS dX10_stuck_17
  · have hf := of_neg hf c2
    refine lv_iload_n hx hb dX10_stuck_7 rfl (lv_at hl 2 rfl) ?_
    refine lv_if_lt (tgt := 16) hx hb dX10_stuck_8 (by decide) (fun c3 => ?_) (fun c3 => ?_)
    · have hf := of_pos hf c3
      refine lv_iconst (v := (-1 : Int32)) hx hb dX10_stuck_16 (by decide) ?_
      cases hf
      exact ret_i hx hb hr hlk hK hP hD hS dX10_stuck_17
    · have hf := of_neg hf c3
      refine lv_iload_n hx hb dX10_stuck_11 rfl (lv_at hl 2 rfl) ?_
      refine lv_iconst (v := (1 : Int32)) hx hb dX10_stuck_12 (by decide) ?_
      refine lv_icmp_le (tgt := 18) hx hb dX10_stuck_13 (by decide) (fun c4 => ?_) (fun c4 => ?_)
      · have hf := of_pos hf c4
        refine lv_aload_n hx hb dX10_stuck_18 rfl (lv_at hl 0 rfl) ?_
        refine va_get (ci := 10) (v := .ref h1) (C := RX10) (T := TX10) (N := 13) hx hb ht0 iX10 hown hK hP 0 rfl rfl 3 (by decide) (ht0 _ wd_543) (fun _ h9 => h9) rfl dX10_stuck_19 ?_
        obtain ⟨_, hc_r_22_4, hf⟩ := of_bnd hf
        refine cl_Vr (w2 := (wW_X10_stuck G h0 h1 h2 h3 h4 y0_0 y0_1 y0_2 y0_4 y0_5 y0_6 y0_7 y0_8 y0_9 y0_10 y3_0 y3_1 y3_3 y3_4 x0_11 x0_12 x1_1 x1_2 a2 a4)) (As := []) (rest := []) ⟨hx, hb, hml, hown, ht0⟩ (c_X8_now l G h1 h2 g_cur y_cur_code h3 _ x1_1 x1_2 a2 F hq_cur hc_r_22_4) yk_X8_now wd_531 ⟨rfl, rfl, by decide, by decide⟩ ⟨Nat.le_refl _, Nat.le_refl _⟩ hX hK hP hD hS hA [1, 2] [0, 3, 4] [0, 3, 4, 1, 2] (va_recv hK hP (ci := 8) (q0 := 1) rfl rfl) rfl rfl (by decide) rfl rfl rfl rfl rfl hl.1 rfl (Nat.le_of_ble_eq_true rfl) dX10_stuck_22 (fun H locs hP hD hS => ?_)
        refine vk_getf hx hb (hX.2.2 _ hq_cur).2.2 hS hown (ht0 _ wd_344) (fun _ h => h) dX10_stuck_25 ?_
        refine va_get (ci := 9) (v := .ref h4) (C := RX9) (T := TX9) (N := 5) hx hb ht0 iX9 hown hK hP 3 rfl rfl 2 (by decide) (ht0 _ wd_325) (fun _ h9 => h9) rfl dX10_stuck_28 ?_
        refine lv_iload_n hx hb dX10_stuck_31 rfl (lv_at hl 1 rfl) ?_
        obtain ⟨g6, hf⟩ := of_grd hf
        refine va_iald hx hb hK hP 4 0 rfl rfl g6 dX10_stuck_32 ?_
        refine lv_istore_n (lv' := [(3, .int (a4 b1.toNatClampNeg)), (0, .ref h0), (1, .int b1), (2, .int b2)]) hx hb dX10_stuck_33 rfl hl (by decide) rfl (fun ls hl => ?_)
        refine lv_iload_n hx hb dX10_stuck_34 rfl (lv_at hl 0 rfl) ?_
        obtain ⟨r_35_6, hc_r_35_6, hf⟩ := of_bnd hf
        refine cl_Si (w2 := (wW_X10_stuck G h0 h1 h2 h3 h4 y0_0 y0_1 y0_2 y0_4 y0_5 y0_6 y0_7 y0_8 y0_9 y0_10 y3_0 y3_1 y3_3 y3_4 x0_11 x0_12 x1_1 x1_2 a2 a4)) (As := [.int (a4 b1.toNatClampNeg)]) (rest := []) ⟨hx, hb, hml, hown, ht0⟩ (c_X10_lowestPlace l G _ F (a4 b1.toNatClampNeg) _ hc_r_35_6) yk_X10_lowestPlace wd_1065 ⟨rfl, rfl, by decide, by decide⟩ ⟨Nat.le_refl _, Nat.le_refl _⟩ hX hK hP hD hS hA [] [0, 1, 2, 3, 4] [0, 1, 2, 3, 4] rfl rfl (by decide) rfl rfl rfl rfl rfl hl.1 rfl (Nat.le_of_ble_eq_true rfl) dX10_stuck_35 (fun H locs hP hD hS => ?_)
        refine lv_istore (lv' := [(4, .int r_35_6), (3, .int (a4 b1.toNatClampNeg)), (0, .ref h0), (1, .int b1), (2, .int b2)]) hx hb dX10_stuck_38 hl (by decide) rfl (fun ls hl => ?_)
        refine lv_iload_n hx hb dX10_stuck_40 rfl (lv_at hl 4 rfl) ?_
        refine lv_if_eq (tgt := 50) hx hb dX10_stuck_41 (by decide) (fun c8 => ?_) (fun c8 => ?_)
        · have hf := of_pos hf c8
          refine lv_iload hx hb dX10_stuck_50 (lv_at hl 0 rfl) ?_
          cases hf
          exact ret_i hx hb hr hlk hK hP hD hS dX10_stuck_52
        · have hf := of_neg hf c8
          refine lv_iload hx hb dX10_stuck_44 (lv_at hl 0 rfl) ?_
          refine lv_iconst (v := (-1 : Int32)) hx hb dX10_stuck_46 (by decide) ?_
          refine lv_icmp_ne (tgt := 53) hx hb dX10_stuck_47 (by decide) (fun c9 => ?_) (fun c9 => ?_)
          · have hf := of_neg hf c9
            refine lv_iload_n hx hb dX10_stuck_53 rfl (lv_at hl 1 rfl) ?_
            refine lv_iconst (v := (1 : Int32)) hx hb dX10_stuck_54 (by decide) ?_
            refine lv_iload hx hb dX10_stuck_55 (lv_at hl 0 rfl) ?_
            refine lv_ishl hx hb dX10_stuck_57 ?_
            refine lv_iconst (v := (-1 : Int32)) hx hb dX10_stuck_58 (by decide) ?_
            refine lv_ixor hx hb dX10_stuck_59 ?_
            refine lv_iand hx hb dX10_stuck_60 ?_
            obtain ⟨r_61_9, hc_r_61_9, hf⟩ := of_bnd hf
            refine cl_Si (w2 := (wW_X10_stuck G h0 h1 h2 h3 h4 y0_0 y0_1 y0_2 y0_4 y0_5 y0_6 y0_7 y0_8 y0_9 y0_10 y3_0 y3_1 y3_3 y3_4 x0_11 x0_12 x1_1 x1_2 a2 a4)) (As := [.int ((a4 b1.toNatClampNeg) &&& (((1 : Int32) <<< (r_35_6 &&& 31)) ^^^ (-1 : Int32)))]) (rest := []) ⟨hx, hb, hml, hown, ht0⟩ (c_X10_lowestPlace l G _ F ((a4 b1.toNatClampNeg) &&& (((1 : Int32) <<< (r_35_6 &&& 31)) ^^^ (-1 : Int32))) _ hc_r_61_9) yk_X10_lowestPlace wd_1065 ⟨rfl, rfl, by decide, by decide⟩ ⟨Nat.le_refl _, Nat.le_refl _⟩ hX hK hP hD hS hA [] [0, 1, 2, 3, 4] [0, 1, 2, 3, 4] rfl rfl (by decide) rfl rfl rfl rfl rfl hl.1 rfl (Nat.le_of_ble_eq_true rfl) dX10_stuck_61 (fun H locs hP hD hS => ?_)
            cases hf
            exact ret_i hx hb hr hlk hK hP hD hS dX10_stuck_64
          · have hf := of_pos hf c9
            refine lv_iload hx hb dX10_stuck_50 (lv_at hl 0 rfl) ?_
            cases hf
            exact ret_i hx hb hr hlk hK hP hD hS dX10_stuck_52
      · have hf := of_neg hf c4
        refine lv_iconst (v := (-1 : Int32)) hx hb dX10_stuck_16 (by decide) ?_
        cases hf
        exact ret_i hx hb hr hlk hK hP hD hS dX10_stuck_17
theorem yk_X10_stuck : ykV yX10_stuck RX10 cX10_stuck 5 (some .int) 2 := ⟨wd_1062, wd_1063, wd_127, wd_1064, rfl, by decide +kernel, by decide +kernel, by decide +kernel⟩
theorem dX10_stands_0 : decode cX10_stands 0 = .ok (.iload_n 1, 1) := by decide +kernel
theorem dX10_stands_1 : decode cX10_stands 1 = .ok (.invokestatic 140, 3) := by decide +kernel
theorem dX10_stands_4 : decode cX10_stands 4 = .ok (.ifCond .eq 12, 3) := by decide +kernel
theorem dX10_stands_7 : decode cX10_stands 7 = .ok (.iload_n 2, 1) := by decide +kernel
theorem dX10_stands_8 : decode cX10_stands 8 = .ok (.ifCond .lt 8, 3) := by decide +kernel
theorem dX10_stands_11 : decode cX10_stands 11 = .ok (.iload_n 2, 1) := by decide +kernel
theorem dX10_stands_12 : decode cX10_stands 12 = .ok (.iconst 2, 1) := by decide +kernel
theorem dX10_stands_13 : decode cX10_stands 13 = .ok (.if_icmp .le 5, 3) := by decide +kernel
theorem dX10_stands_16 : decode cX10_stands 16 = .ok (.iconst (-1), 1) := by decide +kernel
theorem dX10_stands_17 : decode cX10_stands 17 = .ok (.ireturn, 1) := by decide +kernel
theorem dX10_stands_18 : decode cX10_stands 18 = .ok (.aload_n 0, 1) := by decide +kernel
theorem dX10_stands_19 : decode cX10_stands 19 = .ok (.getfield 29, 3) := by decide +kernel
theorem dX10_stands_22 : decode cX10_stands 22 = .ok (.invokevirtual 92, 3) := by decide +kernel
theorem dX10_stands_25 : decode cX10_stands 25 = .ok (.astore_n 3, 1) := by decide +kernel
theorem dX10_stands_26 : decode cX10_stands 26 = .ok (.aload_n 3, 1) := by decide +kernel
theorem dX10_stands_27 : decode cX10_stands 27 = .ok (.getfield 125, 3) := by decide +kernel
theorem dX10_stands_30 : decode cX10_stands 30 = .ok (.aload_n 3, 1) := by decide +kernel
theorem dX10_stands_31 : decode cX10_stands 31 = .ok (.getfield 96, 3) := by decide +kernel
theorem dX10_stands_34 : decode cX10_stands 34 = .ok (.iload_n 1, 1) := by decide +kernel
theorem dX10_stands_35 : decode cX10_stands 35 = .ok (.iload_n 2, 1) := by decide +kernel
theorem dX10_stands_36 : decode cX10_stands 36 = .ok (.aload_n 0, 1) := by decide +kernel
theorem dX10_stands_37 : decode cX10_stands 37 = .ok (.getfield 47, 3) := by decide +kernel
theorem dX10_stands_40 : decode cX10_stands 40 = .ok (.invokevirtual 295, 3) := by decide +kernel
theorem dX10_stands_43 : decode cX10_stands 43 = .ok (.ireturn, 1) := by decide +kernel
def wW_X10_stands (G : GG) (h0 h1 h2 h3 h4 h5 h6 h7 h8 h9 h10 h11 y0_0 y0_1 y0_2 y0_4 y0_5 y0_7 y0_8 y0_9 y0_10 y8_3 y8_4 : Nat) (x0_11 : Int32) (x0_12 : Int32) (x1_1 : Int32) (x1_2 : Int32) (a2 : Nat → Option Nat) (x3_0 : Int32) (x3_1 : Int32) (x3_2 : Int32) (x4_0 : Int32) (x4_1 : Int32) (x4_2 : Int32) (a5 : Nat → Int32) (a6 : Nat → Int32) (a7 : Nat → Int32) (a9 : Nat → Int32) (a10 : Nat → Int32) (a11 : Nat → Int32) : va_W := [(h0, .inr (10, [.ref y0_0, .ref y0_1, .ref y0_2, .ref h1, .ref y0_4, .ref y0_5, .ref h3, .ref y0_7, .ref y0_8, .ref y0_9, .ref y0_10, .int x0_11, .int x0_12])), (h1, .inr (8, [.ref h2, .int x1_1, .int x1_2])), (h2, .inl (G.2.2.2.2.1, 13, .inr (.inr (.inr (.inr a2))))), (h3, .inr (2, [.int x3_0, .int x3_1, .int x3_2])), (h4, .inr (1, [.int x4_0, .int x4_1, .int x4_2, .ref h5, .ref h6, .ref h7])), (h5, .inl (G.2.1, 32, .inl a5)), (h6, .inl (G.2.1, 256, .inl a6)), (h7, .inl (G.2.1, 256, .inl a7)), (h8, .inr (9, [.ref h9, .ref h10, .ref h11, .ref y8_3, .ref y8_4])), (h9, .inl (G.2.1, 16, .inl a9)), (h10, .inl (G.2.1, 16, .inl a10)), (h11, .inl (G.2.1, 16, .inl a11))]
set_option maxHeartbeats 4000000 in
set_option maxRecDepth 100000 in
theorem c_X10_stands (l : Launch) (G : GG) (h0 h1 h2 h3 h4 h5 h6 h7 h8 h9 h10 h11 y0_0 y0_1 y0_2 y0_4 y0_5 y0_7 y0_8 y0_9 y0_10 y8_3 y8_4 g_cur : Nat) (sz : Nat) (x0_11 : Int32) (x0_12 : Int32) (x1_1 : Int32) (x1_2 : Int32) (a2 : Nat → Option Nat) (x3_0 : Int32) (x3_1 : Int32) (x3_2 : Int32) (x4_0 : Int32) (x4_1 : Int32) (x4_2 : Int32) (a5 : Nat → Int32) (a6 : Nat → Int32) (a7 : Nat → Int32) (a9 : Nat → Int32) (a10 : Nat → Int32) (a11 : Nat → Int32) (F : Nat) (b1 : Int32) (b2 : Int32) (hq_cur : (g_cur, h4, h8) ∈ gS G)  (r0 : Int32) (e_x3_0 : Int32) (e_x3_1 : Int32) (e_x3_2 : Int32) (hf : p_X10_stands F g_cur x1_1 a2 x3_0 x3_1 x3_2 x4_0 x4_1 x4_2 a5 a6 a7 a9 a10 a11 b1 b2 = some (r0, e_x3_0, e_x3_1, e_x3_2)) : Met l yX10_stands (.code yX10_stands cX10_stands 4 (some .int) :: gtbl) ({ frames := 4, cells := 0, slots := 0, locals := 105 } : Room) (PcS G [.ref h0, .int b1, .int b2] (wW_X10_stands G h0 h1 h2 h3 h4 h5 h6 h7 h8 h9 h10 h11 y0_0 y0_1 y0_2 y0_4 y0_5 y0_7 y0_8 y0_9 y0_10 y8_3 y8_4 x0_11 x0_12 x1_1 x1_2 a2 x3_0 x3_1 x3_2 x4_0 x4_1 x4_2 a5 a6 a7 a9 a10 a11) sz) (QiS G r0 (va_A (wW_X10_stands G h0 h1 h2 h3 h4 h5 h6 h7 h8 h9 h10 h11 y0_0 y0_1 y0_2 y0_4 y0_5 y0_7 y0_8 y0_9 y0_10 y8_3 y8_4 x0_11 x0_12 x1_1 x1_2 a2 x3_0 x3_1 x3_2 x4_0 x4_1 x4_2 a5 a6 a7 a9 a10 a11) sz) (wW_X10_stands G h0 h1 h2 h3 h4 h5 h6 h7 h8 h9 h10 h11 y0_0 y0_1 y0_2 y0_4 y0_5 y0_7 y0_8 y0_9 y0_10 y8_3 y8_4 x0_11 x0_12 x1_1 x1_2 a2 e_x3_0 e_x3_1 e_x3_2 x4_0 x4_1 x4_2 a5 a6 a7 a9 a10 a11)) 0 0 (va_A (wW_X10_stands G h0 h1 h2 h3 h4 h5 h6 h7 h8 h9 h10 h11 y0_0 y0_1 y0_2 y0_4 y0_5 y0_7 y0_8 y0_9 y0_10 y8_3 y8_4 x0_11 x0_12 x1_1 x1_2 a2 x3_0 x3_1 x3_2 x4_0 x4_1 x4_2 a5 a6 a7 a9 a10 a11) sz) := by
  refine met_start (by decide) (Nat.le_of_ble_eq_true rfl) ?_
  intro p e s m below meth c hC hr hlk hnm hK hP hD hA hS hX ls hl
  obtain ⟨hx, hb, hml, hown, ht0⟩ := hC
  have hown : s.vm.findClass RX10 = some m.cls := hown
  generalize va_A (wW_X10_stands G h0 h1 h2 h3 h4 h5 h6 h7 h8 h9 h10 h11 y0_0 y0_1 y0_2 y0_4 y0_5 y0_7 y0_8 y0_9 y0_10 y8_3 y8_4 x0_11 x0_12 x1_1 x1_2 a2 x3_0 x3_1 x3_2 x4_0 x4_1 x4_2 a5 a6 a7 a9 a10 a11) sz = A at hD hA hS hX ⊢
  have hl : lv_has ls 4 [(0, .ref h0), (1, .int b1), (2, .int b2)] := hl
  have hf : p_X10_stands F g_cur x1_1 a2 x3_0 x3_1 x3_2 x4_0 x4_1 x4_2 a5 a6 a7 a9 a10 a11 b1 b2 = some (r0, e_x3_0, e_x3_1, e_x3_2) := hf
  refine lv_iload_n hx hb dX10_stands_0 rfl (lv_at hl 1 rfl) ?_
  obtain ⟨r_1_0, hc_r_1_0, hf⟩ := of_bnd hf
  refine cl_Si (w2 := (wW_X10_stands G h0 h1 h2 h3 h4 h5 h6 h7 h8 h9 h10 h11 y0_0 y0_1 y0_2 y0_4 y0_5 y0_7 y0_8 y0_9 y0_10 y8_3 y8_4 x0_11 x0_12 x1_1 x1_2 a2 x3_0 x3_1 x3_2 x4_0 x4_1 x4_2 a5 a6 a7 a9 a10 a11)) (As := [.int b1]) (rest := []) ⟨hx, hb, hml, hown, ht0⟩ (c_X10_isWord l G _ F b1 _ hc_r_1_0) yk_X10_isWord wd_791 ⟨rfl, rfl, by decide, by decide⟩ ⟨Nat.le_refl _, Nat.le_refl _⟩ hX hK hP hD hS hA [] [0, 1, 2, 3, 4, 5, 6, 7, 8, 9, 10, 11] [0, 1, 2, 3, 4, 5, 6, 7, 8, 9, 10, 11] rfl rfl (by decide) rfl rfl rfl rfl rfl hl.1 rfl (Nat.le_of_ble_eq_true rfl) dX10_stands_1 (fun H locs hP hD hS => ?_)
  refine lv_if_eq (tgt := 16) hx hb dX10_stands_4 (by decide) (fun c2 => ?_) (fun c2 => ?_)
  · have hf := of_pos hf c2
    refine lv_iconst (v := (-1 : Int32)) hx hb dX10_stands_16 (by decide) ?_
    cases hf
    exact ret_i hx hb hr hlk hK hP hD hS dX10_stands_17
  · have hf := of_neg hf c2
    refine lv_iload_n hx hb dX10_stands_7 rfl (lv_at hl 2 rfl) ?_
    refine lv_if_lt (tgt := 16) hx hb dX10_stands_8 (by decide) (fun c3 => ?_) (fun c3 => ?_)
    · have hf := of_pos hf c3
      refine lv_iconst (v := (-1 : Int32)) hx hb dX10_stands_16 (by decide) ?_
      cases hf
      exact ret_i hx hb hr hlk hK hP hD hS dX10_stands_17
    · have hf := of_neg hf c3
      refine lv_iload_n hx hb dX10_stands_11 rfl (lv_at hl 2 rfl) ?_
      refine lv_iconst (v := (2 : Int32)) hx hb dX10_stands_12 (by decide) ?_
      refine lv_icmp_le (tgt := 18) hx hb dX10_stands_13 (by decide) (fun c4 => ?_) (fun c4 => ?_)
      · have hf := of_pos hf c4
        refine lv_aload_n hx hb dX10_stands_18 rfl (lv_at hl 0 rfl) ?_
        refine va_get (ci := 10) (v := .ref h1) (C := RX10) (T := TX10) (N := 13) hx hb ht0 iX10 hown hK hP 0 rfl rfl 3 (by decide) (ht0 _ wd_543) (fun _ h9 => h9) rfl dX10_stands_19 ?_
        obtain ⟨_, hc_r_22_4, hf⟩ := of_bnd hf
        refine cl_Vr (w2 := (wW_X10_stands G h0 h1 h2 h3 h4 h5 h6 h7 h8 h9 h10 h11 y0_0 y0_1 y0_2 y0_4 y0_5 y0_7 y0_8 y0_9 y0_10 y8_3 y8_4 x0_11 x0_12 x1_1 x1_2 a2 x3_0 x3_1 x3_2 x4_0 x4_1 x4_2 a5 a6 a7 a9 a10 a11)) (As := []) (rest := []) ⟨hx, hb, hml, hown, ht0⟩ (c_X8_now l G h1 h2 g_cur h4 h8 _ x1_1 x1_2 a2 F hq_cur hc_r_22_4) yk_X8_now wd_531 ⟨rfl, rfl, by decide, by decide⟩ ⟨Nat.le_refl _, Nat.le_refl _⟩ hX hK hP hD hS hA [1, 2] [0, 3, 4, 5, 6, 7, 8, 9, 10, 11] [0, 10, 11, 1, 2, 3, 4, 5, 6, 7, 8, 9] (va_recv hK hP (ci := 8) (q0 := 1) rfl rfl) rfl rfl (by decide) rfl rfl rfl rfl rfl hl.1 rfl (Nat.le_of_ble_eq_true rfl) dX10_stands_22 (fun H locs hP hD hS => ?_)
        refine lv_astore_n (lv' := [(3, .ref g_cur), (0, .ref h0), (1, .int b1), (2, .int b2)]) hx hb dX10_stands_25 rfl hl (by decide) rfl (fun ls hl => ?_)
        refine lv_aload_n hx hb dX10_stands_26 rfl (lv_at hl 0 rfl) ?_
        refine vk_getf hx hb (hX.2.2 _ hq_cur).2.2 hS hown (ht0 _ wd_344) (fun _ h => h) dX10_stands_27 ?_
        refine lv_aload_n hx hb dX10_stands_30 rfl (lv_at hl 0 rfl) ?_
        refine vk_getf hx hb (hX.2.2 _ hq_cur).2.1 hS hown (ht0 _ wd_342) (fun _ h => h) dX10_stands_31 ?_
        refine lv_iload_n hx hb dX10_stands_34 rfl (lv_at hl 2 rfl) ?_
        refine lv_iload_n hx hb dX10_stands_35 rfl (lv_at hl 3 rfl) ?_
        refine lv_aload_n hx hb dX10_stands_36 rfl (lv_at hl 1 rfl) ?_
        refine va_get (ci := 10) (v := .ref h3) (C := RX10) (T := TX10) (N := 13) hx hb ht0 iX10 hown hK hP 0 rfl rfl 6 (by decide) (ht0 _ wd_546) (fun _ h9 => h9) rfl dX10_stands_37 ?_
        obtain ⟨⟨r_40_5, r_40_5_x8_0, r_40_5_x8_1, r_40_5_x8_2⟩, hc_r_40_5, hf⟩ := of_bnd hf
        refine cl_Vi (w2 := (wW_X10_stands G h0 h1 h2 h3 h4 h5 h6 h7 h8 h9 h10 h11 y0_0 y0_1 y0_2 y0_4 y0_5 y0_7 y0_8 y0_9 y0_10 y8_3 y8_4 x0_11 x0_12 x1_1 x1_2 a2 r_40_5_x8_0 r_40_5_x8_1 r_40_5_x8_2 x4_0 x4_1 x4_2 a5 a6 a7 a9 a10 a11)) (As := [.ref h4, .int b1, .int b2, .ref h3]) (rest := []) ⟨hx, hb, hml, hown, ht0⟩ (c_X9_countStands l G h8 h9 h10 h11 h4 h5 h6 h7 h3 y8_3 y8_4 _ a9 a10 a11 x4_0 x4_1 x4_2 a5 a6 a7 x3_0 x3_1 x3_2 F b1 b2 _ _ _ _ hc_r_40_5) yk_X9_countStands wd_1070 ⟨rfl, rfl, by decide, by decide⟩ ⟨Nat.le_refl _, Nat.le_refl _⟩ hX hK hP hD hS hA [8, 9, 10, 11, 4, 5, 6, 7, 3] [0, 1, 2] [0, 1, 2, 11, 7, 8, 9, 10, 3, 4, 5, 6] (va_recv hK hP (ci := 9) (q0 := 8) rfl rfl) rfl rfl (by decide) rfl rfl rfl rfl rfl hl.1 rfl (Nat.le_of_ble_eq_true rfl) dX10_stands_40 (fun H locs hP hD hS => ?_)
        cases hf
        exact ret_i hx hb hr hlk hK hP hD hS dX10_stands_43
      · have hf := of_neg hf c4
        refine lv_iconst (v := (-1 : Int32)) hx hb dX10_stands_16 (by decide) ?_
        cases hf
        exact ret_i hx hb hr hlk hK hP hD hS dX10_stands_17
theorem yk_X10_stands : ykV yX10_stands RX10 cX10_stands 4 (some .int) 2 := ⟨wd_1067, wd_1068, wd_127, wd_1069, rfl, by decide +kernel, by decide +kernel, by decide +kernel⟩
theorem dX10_find_0 : decode cX10_find 0 = .ok (.aload_n 0, 1) := by decide +kernel
theorem dX10_find_1 : decode cX10_find 1 = .ok (.getfield 29, 3) := by decide +kernel
theorem dX10_find_4 : decode cX10_find 4 = .ok (.invokevirtual 92, 3) := by decide +kernel
theorem dX10_find_7 : decode cX10_find 7 = .ok (.getfield 96, 3) := by decide +kernel
theorem dX10_find_10 : decode cX10_find 10 = .ok (.astore_n 3, 1) := by decide +kernel
theorem dX10_find_11 : decode cX10_find 11 = .ok (.iload_n 2, 1) := by decide +kernel
theorem dX10_find_12 : decode cX10_find 12 = .ok (.lookupswitch 40 #[(0, 28), (1, 34)], 28) := by decide +kernel
theorem dX10_find_40 : decode cX10_find 40 = .ok (.aload_n 3, 1) := by decide +kernel
theorem dX10_find_41 : decode cX10_find 41 = .ok (.iload_n 1, 1) := by decide +kernel
theorem dX10_find_42 : decode cX10_find 42 = .ok (.invokevirtual 214, 3) := by decide +kernel
theorem dX10_find_45 : decode cX10_find 45 = .ok (.ireturn, 1) := by decide +kernel
theorem dX10_find_46 : decode cX10_find 46 = .ok (.aload_n 3, 1) := by decide +kernel
theorem dX10_find_47 : decode cX10_find 47 = .ok (.iload_n 1, 1) := by decide +kernel
theorem dX10_find_48 : decode cX10_find 48 = .ok (.invokevirtual 299, 3) := by decide +kernel
theorem dX10_find_51 : decode cX10_find 51 = .ok (.ireturn, 1) := by decide +kernel
theorem dX10_find_52 : decode cX10_find 52 = .ok (.iconst (-1), 1) := by decide +kernel
theorem dX10_find_53 : decode cX10_find 53 = .ok (.ireturn, 1) := by decide +kernel
def wW_X10_find (G : GG) (h0 h1 h2 h3 h4 h5 y0_0 y0_1 y0_2 y0_4 y0_5 y0_6 y0_7 y0_8 y0_9 y0_10 y3_3 : Nat) (x0_11 : Int32) (x0_12 : Int32) (x1_1 : Int32) (x1_2 : Int32) (a2 : Nat → Option Nat) (x3_0 : Int32) (x3_1 : Int32) (x3_2 : Int32) (a4 : Nat → Int32) (a5 : Nat → Int32) : va_W := [(h0, .inr (10, [.ref y0_0, .ref y0_1, .ref y0_2, .ref h1, .ref y0_4, .ref y0_5, .ref y0_6, .ref y0_7, .ref y0_8, .ref y0_9, .ref y0_10, .int x0_11, .int x0_12])), (h1, .inr (8, [.ref h2, .int x1_1, .int x1_2])), (h2, .inl (G.2.2.2.2.1, 13, .inr (.inr (.inr (.inr a2))))), (h3, .inr (1, [.int x3_0, .int x3_1, .int x3_2, .ref y3_3, .ref h4, .ref h5])), (h4, .inl (G.2.1, 256, .inl a4)), (h5, .inl (G.2.1, 256, .inl a5))]
set_option maxHeartbeats 4000000 in
set_option maxRecDepth 100000 in
theorem c_X10_find (l : Launch) (G : GG) (h0 h1 h2 h3 h4 h5 y0_0 y0_1 y0_2 y0_4 y0_5 y0_6 y0_7 y0_8 y0_9 y0_10 y3_3 g_cur y_cur_words : Nat) (sz : Nat) (x0_11 : Int32) (x0_12 : Int32) (x1_1 : Int32) (x1_2 : Int32) (a2 : Nat → Option Nat) (x3_0 : Int32) (x3_1 : Int32) (x3_2 : Int32) (a4 : Nat → Int32) (a5 : Nat → Int32) (F : Nat) (b1 : Int32) (b2 : Int32) (hq_cur : (g_cur, h3, y_cur_words) ∈ gS G)  (r0 : Int32) (hf : p_X10_find F g_cur x1_1 a2 a4 a5 b1 b2 = some r0) : Met l yX10_find (.code yX10_find cX10_find 4 (some .int) :: gtbl) ({ frames := 1, cells := 0, slots := 0, locals := 21 } : Room) (PcS G [.ref h0, .int b1, .int b2] (wW_X10_find G h0 h1 h2 h3 h4 h5 y0_0 y0_1 y0_2 y0_4 y0_5 y0_6 y0_7 y0_8 y0_9 y0_10 y3_3 x0_11 x0_12 x1_1 x1_2 a2 x3_0 x3_1 x3_2 a4 a5) sz) (QiS G r0 (va_A (wW_X10_find G h0 h1 h2 h3 h4 h5 y0_0 y0_1 y0_2 y0_4 y0_5 y0_6 y0_7 y0_8 y0_9 y0_10 y3_3 x0_11 x0_12 x1_1 x1_2 a2 x3_0 x3_1 x3_2 a4 a5) sz) (wW_X10_find G h0 h1 h2 h3 h4 h5 y0_0 y0_1 y0_2 y0_4 y0_5 y0_6 y0_7 y0_8 y0_9 y0_10 y3_3 x0_11 x0_12 x1_1 x1_2 a2 x3_0 x3_1 x3_2 a4 a5)) 0 0 (va_A (wW_X10_find G h0 h1 h2 h3 h4 h5 y0_0 y0_1 y0_2 y0_4 y0_5 y0_6 y0_7 y0_8 y0_9 y0_10 y3_3 x0_11 x0_12 x1_1 x1_2 a2 x3_0 x3_1 x3_2 a4 a5) sz) := by
  refine met_start (by decide) (Nat.le_of_ble_eq_true rfl) ?_
  intro p e s m below meth c hC hr hlk hnm hK hP hD hA hS hX ls hl
  obtain ⟨hx, hb, hml, hown, ht0⟩ := hC
  have hown : s.vm.findClass RX10 = some m.cls := hown
  generalize va_A (wW_X10_find G h0 h1 h2 h3 h4 h5 y0_0 y0_1 y0_2 y0_4 y0_5 y0_6 y0_7 y0_8 y0_9 y0_10 y3_3 x0_11 x0_12 x1_1 x1_2 a2 x3_0 x3_1 x3_2 a4 a5) sz = A at hD hA hS hX ⊢
  have hl : lv_has ls 4 [(0, .ref h0), (1, .int b1), (2, .int b2)] := hl
  have hf : p_X10_find F g_cur x1_1 a2 a4 a5 b1 b2 = some r0 := hf
  refine lv_aload_n hx hb dX10_find_0 rfl (lv_at hl 0 rfl) ?_
  refine va_get (ci := 10) (v := .ref h1) (C := RX10) (T := TX10) (N := 13) hx hb ht0 iX10 hown hK hP 0 rfl rfl 3 (by decide) (ht0 _ wd_543) (fun _ h9 => h9) rfl dX10_find_1 ?_
  obtain ⟨_, hc_r_4_0, hf⟩ := of_bnd hf
  refine cl_Vr (w2 := (wW_X10_find G h0 h1 h2 h3 h4 h5 y0_0 y0_1 y0_2 y0_4 y0_5 y0_6 y0_7 y0_8 y0_9 y0_10 y3_3 x0_11 x0_12 x1_1 x1_2 a2 x3_0 x3_1 x3_2 a4 a5)) (As := []) (rest := []) ⟨hx, hb, hml, hown, ht0⟩ (c_X8_now l G h1 h2 g_cur h3 y_cur_words _ x1_1 x1_2 a2 F hq_cur hc_r_4_0) yk_X8_now wd_531 ⟨rfl, rfl, by decide, by decide⟩ ⟨Nat.le_refl _, Nat.le_refl _⟩ hX hK hP hD hS hA [1, 2] [0, 3, 4, 5] [0, 4, 5, 1, 2, 3] (va_recv hK hP (ci := 8) (q0 := 1) rfl rfl) rfl rfl (by decide) rfl rfl rfl rfl rfl hl.1 rfl (Nat.le_of_ble_eq_true rfl) dX10_find_4 (fun H locs hP hD hS => ?_)
  refine vk_getf hx hb (hX.2.2 _ hq_cur).2.1 hS hown (ht0 _ wd_342) (fun _ h => h) dX10_find_7 ?_
  refine lv_astore_n (lv' := [(3, .ref h3), (0, .ref h0), (1, .int b1), (2, .int b2)]) hx hb dX10_find_10 rfl hl (by decide) rfl (fun ls hl => ?_)
  refine lv_iload_n hx hb dX10_find_11 rfl (lv_at hl 3 rfl) ?_
  by_cases c2 : b2 = (0 : Int32)
  · have hf := of_pos hf c2
    refine lv_lookup (off := 28) (tgt := 40) hx hb dX10_find_12 (by decide) (by rw [c2]; rfl) (by decide) ?_
    refine lv_aload_n hx hb dX10_find_40 rfl (lv_at hl 0 rfl) ?_
    refine lv_iload_n hx hb dX10_find_41 rfl (lv_at hl 2 rfl) ?_
    obtain ⟨r_42_2, hc_r_42_2, hf⟩ := of_bnd hf
    refine cl_Vi (w2 := (wW_X10_find G h0 h1 h2 h3 h4 h5 y0_0 y0_1 y0_2 y0_4 y0_5 y0_6 y0_7 y0_8 y0_9 y0_10 y3_3 x0_11 x0_12 x1_1 x1_2 a2 x3_0 x3_1 x3_2 a4 a5)) (As := [.int b1]) (rest := []) ⟨hx, hb, hml, hown, ht0⟩ (c_X1_placeWith l G h3 h4 y3_3 h5 _ x3_0 x3_1 x3_2 a4 F b1 _ hc_r_42_2) yk_X1_placeWith wd_957 ⟨rfl, rfl, by decide, by decide⟩ ⟨Nat.le_refl _, Nat.le_refl _⟩ hX hK hP hD hS hA [3, 4] [0, 1, 2, 5] [0, 1, 2, 4, 5, 3] (va_recv hK hP (ci := 1) (q0 := 3) rfl rfl) rfl rfl (by decide) rfl rfl rfl rfl rfl hl.1 rfl (Nat.le_of_ble_eq_true rfl) dX10_find_42 (fun H locs hP hD hS => ?_)
    cases hf
    exact ret_i hx hb hr hlk hK hP hD hS dX10_find_45
  have hf := of_neg hf c2
  by_cases c4 : b2 = (1 : Int32)
  · have hf := of_pos hf c4
    refine lv_lookup (off := 34) (tgt := 46) hx hb dX10_find_12 (by decide) (by rw [c4]; rfl) (by decide) ?_
    refine lv_aload_n hx hb dX10_find_46 rfl (lv_at hl 0 rfl) ?_
    refine lv_iload_n hx hb dX10_find_47 rfl (lv_at hl 2 rfl) ?_
    obtain ⟨r_48_4, hc_r_48_4, hf⟩ := of_bnd hf
    refine cl_Vi (w2 := (wW_X10_find G h0 h1 h2 h3 h4 h5 y0_0 y0_1 y0_2 y0_4 y0_5 y0_6 y0_7 y0_8 y0_9 y0_10 y3_3 x0_11 x0_12 x1_1 x1_2 a2 x3_0 x3_1 x3_2 a4 a5)) (As := [.int b1]) (rest := []) ⟨hx, hb, hml, hown, ht0⟩ (c_X1_pairWith l G h3 h5 y3_3 h4 _ x3_0 x3_1 x3_2 a5 F b1 _ hc_r_48_4) yk_X1_pairWith wd_1078 ⟨rfl, rfl, by decide, by decide⟩ ⟨Nat.le_refl _, Nat.le_refl _⟩ hX hK hP hD hS hA [3, 5] [0, 1, 2, 4] [0, 1, 2, 4, 3, 5] (va_recv hK hP (ci := 1) (q0 := 3) rfl rfl) rfl rfl (by decide) rfl rfl rfl rfl rfl hl.1 rfl (Nat.le_of_ble_eq_true rfl) dX10_find_48 (fun H locs hP hD hS => ?_)
    cases hf
    exact ret_i hx hb hr hlk hK hP hD hS dX10_find_51
  have hf := of_neg hf c4
  refine lv_lookup (off := 40) (tgt := 52) hx hb dX10_find_12 (by decide) (by show Op.lookupswitch.offset [(0, 28), (1, 34)] _ _ = _; rw [lv_osw (a := 0) c2 rfl]; rw [lv_osw (a := 1) c4 rfl]; rfl) (by decide) ?_
  refine lv_iconst (v := (-1 : Int32)) hx hb dX10_find_52 (by decide) ?_
  cases hf
  exact ret_i hx hb hr hlk hK hP hD hS dX10_find_53
theorem yk_X10_find : ykV yX10_find RX10 cX10_find 4 (some .int) 2 := ⟨wd_1075, wd_1076, wd_127, wd_1077, rfl, by decide +kernel, by decide +kernel, by decide +kernel⟩
theorem dX10_threes_0 : decode cX10_threes 0 = .ok (.aload_n 0, 1) := by decide +kernel
theorem dX10_threes_1 : decode cX10_threes 1 = .ok (.getfield 29, 3) := by decide +kernel
theorem dX10_threes_4 : decode cX10_threes 4 = .ok (.invokevirtual 92, 3) := by decide +kernel
theorem dX10_threes_7 : decode cX10_threes 7 = .ok (.getfield 96, 3) := by decide +kernel
theorem dX10_threes_10 : decode cX10_threes 10 = .ok (.astore_n 2, 1) := by decide +kernel
theorem dX10_threes_11 : decode cX10_threes 11 = .ok (.iload_n 1, 1) := by decide +kernel
theorem dX10_threes_12 : decode cX10_threes 12 = .ok (.tableswitch 62 0 2 #[28, 41, 54], 28) := by decide +kernel
theorem dX10_threes_40 : decode cX10_threes 40 = .ok (.aload_n 0, 1) := by decide +kernel
theorem dX10_threes_41 : decode cX10_threes 41 = .ok (.getfield 54, 3) := by decide +kernel
theorem dX10_threes_44 : decode cX10_threes 44 = .ok (.aload_n 2, 1) := by decide +kernel
theorem dX10_threes_45 : decode cX10_threes 45 = .ok (.aload_n 2, 1) := by decide +kernel
theorem dX10_threes_46 : decode cX10_threes 46 = .ok (.invokevirtual 136, 3) := by decide +kernel
theorem dX10_threes_49 : decode cX10_threes 49 = .ok (.invokevirtual 302, 3) := by decide +kernel
theorem dX10_threes_52 : decode cX10_threes 52 = .ok (.ireturn, 1) := by decide +kernel
theorem dX10_threes_53 : decode cX10_threes 53 = .ok (.aload_n 0, 1) := by decide +kernel
theorem dX10_threes_54 : decode cX10_threes 54 = .ok (.getfield 54, 3) := by decide +kernel
theorem dX10_threes_57 : decode cX10_threes 57 = .ok (.aload_n 2, 1) := by decide +kernel
theorem dX10_threes_58 : decode cX10_threes 58 = .ok (.aload_n 2, 1) := by decide +kernel
theorem dX10_threes_59 : decode cX10_threes 59 = .ok (.getfield 277, 3) := by decide +kernel
theorem dX10_threes_62 : decode cX10_threes 62 = .ok (.invokevirtual 302, 3) := by decide +kernel
theorem dX10_threes_65 : decode cX10_threes 65 = .ok (.ireturn, 1) := by decide +kernel
theorem dX10_threes_66 : decode cX10_threes 66 = .ok (.aload_n 2, 1) := by decide +kernel
theorem dX10_threes_67 : decode cX10_threes 67 = .ok (.invokevirtual 136, 3) := by decide +kernel
theorem dX10_threes_70 : decode cX10_threes 70 = .ok (.invokestatic 306, 3) := by decide +kernel
theorem dX10_threes_73 : decode cX10_threes 73 = .ok (.ireturn, 1) := by decide +kernel
theorem dX10_threes_74 : decode cX10_threes 74 = .ok (.iconst (-1), 1) := by decide +kernel
theorem dX10_threes_75 : decode cX10_threes 75 = .ok (.ireturn, 1) := by decide +kernel
def wW_X10_threes (G : GG) (h0 h1 h2 h3 h4 h5 h6 y0_0 y0_1 y0_2 y0_4 y0_5 y0_6 y0_8 y0_9 y0_10 y3_0 y3_1 y3_2 y3_3 y4_5 : Nat) (x0_11 : Int32) (x0_12 : Int32) (x1_1 : Int32) (x1_2 : Int32) (a2 : Nat → Option Nat) (x3_4 : Int32) (x3_5 : Int32) (x3_6 : Int32) (x4_0 : Int32) (x4_1 : Int32) (x4_2 : Int32) (a5 : Nat → Int32) (a6 : Nat → Int32) : va_W := [(h0, .inr (10, [.ref y0_0, .ref y0_1, .ref y0_2, .ref h1, .ref y0_4, .ref y0_5, .ref y0_6, .ref h3, .ref y0_8, .ref y0_9, .ref y0_10, .int x0_11, .int x0_12])), (h1, .inr (8, [.ref h2, .int x1_1, .int x1_2])), (h2, .inl (G.2.2.2.2.1, 13, .inr (.inr (.inr (.inr a2))))), (h3, .inr (4, [.ref y3_0, .ref y3_1, .ref y3_2, .ref y3_3, .int x3_4, .int x3_5, .int x3_6])), (h4, .inr (1, [.int x4_0, .int x4_1, .int x4_2, .ref h5, .ref h6, .ref y4_5])), (h5, .inl (G.2.1, 32, .inl a5)), (h6, .inl (G.2.1, 256, .inl a6))]
set_option maxHeartbeats 4000000 in
set_option maxRecDepth 100000 in
theorem c_X10_threes (l : Launch) (G : GG) (h0 h1 h2 h3 h4 h5 h6 y0_0 y0_1 y0_2 y0_4 y0_5 y0_6 y0_8 y0_9 y0_10 y3_0 y3_1 y3_2 y3_3 y4_5 g_cur y_cur_words : Nat) (sz : Nat) (x0_11 : Int32) (x0_12 : Int32) (x1_1 : Int32) (x1_2 : Int32) (a2 : Nat → Option Nat) (x3_4 : Int32) (x3_5 : Int32) (x3_6 : Int32) (x4_0 : Int32) (x4_1 : Int32) (x4_2 : Int32) (a5 : Nat → Int32) (a6 : Nat → Int32) (F : Nat) (b1 : Int32) (hq_cur : (g_cur, h4, y_cur_words) ∈ gS G)  (r0 : Int32) (hf : p_X10_threes F g_cur x1_1 a2 x4_0 x4_1 a5 a6 b1 = some r0) : Met l yX10_threes (.code yX10_threes cX10_threes 3 (some .int) :: gtbl) ({ frames := 2, cells := 0, slots := 0, locals := 48 } : Room) (PcS G [.ref h0, .int b1] (wW_X10_threes G h0 h1 h2 h3 h4 h5 h6 y0_0 y0_1 y0_2 y0_4 y0_5 y0_6 y0_8 y0_9 y0_10 y3_0 y3_1 y3_2 y3_3 y4_5 x0_11 x0_12 x1_1 x1_2 a2 x3_4 x3_5 x3_6 x4_0 x4_1 x4_2 a5 a6) sz) (QiS G r0 (va_A (wW_X10_threes G h0 h1 h2 h3 h4 h5 h6 y0_0 y0_1 y0_2 y0_4 y0_5 y0_6 y0_8 y0_9 y0_10 y3_0 y3_1 y3_2 y3_3 y4_5 x0_11 x0_12 x1_1 x1_2 a2 x3_4 x3_5 x3_6 x4_0 x4_1 x4_2 a5 a6) sz) (wW_X10_threes G h0 h1 h2 h3 h4 h5 h6 y0_0 y0_1 y0_2 y0_4 y0_5 y0_6 y0_8 y0_9 y0_10 y3_0 y3_1 y3_2 y3_3 y4_5 x0_11 x0_12 x1_1 x1_2 a2 x3_4 x3_5 x3_6 x4_0 x4_1 x4_2 a5 a6)) 0 0 (va_A (wW_X10_threes G h0 h1 h2 h3 h4 h5 h6 y0_0 y0_1 y0_2 y0_4 y0_5 y0_6 y0_8 y0_9 y0_10 y3_0 y3_1 y3_2 y3_3 y4_5 x0_11 x0_12 x1_1 x1_2 a2 x3_4 x3_5 x3_6 x4_0 x4_1 x4_2 a5 a6) sz) := by
  refine met_start (by decide) (Nat.le_of_ble_eq_true rfl) ?_
  intro p e s m below meth c hC hr hlk hnm hK hP hD hA hS hX ls hl
  obtain ⟨hx, hb, hml, hown, ht0⟩ := hC
  have hown : s.vm.findClass RX10 = some m.cls := hown
  generalize va_A (wW_X10_threes G h0 h1 h2 h3 h4 h5 h6 y0_0 y0_1 y0_2 y0_4 y0_5 y0_6 y0_8 y0_9 y0_10 y3_0 y3_1 y3_2 y3_3 y4_5 x0_11 x0_12 x1_1 x1_2 a2 x3_4 x3_5 x3_6 x4_0 x4_1 x4_2 a5 a6) sz = A at hD hA hS hX ⊢
  have hl : lv_has ls 3 [(0, .ref h0), (1, .int b1)] := hl
  have hf : p_X10_threes F g_cur x1_1 a2 x4_0 x4_1 a5 a6 b1 = some r0 := hf
  refine lv_aload_n hx hb dX10_threes_0 rfl (lv_at hl 0 rfl) ?_
  refine va_get (ci := 10) (v := .ref h1) (C := RX10) (T := TX10) (N := 13) hx hb ht0 iX10 hown hK hP 0 rfl rfl 3 (by decide) (ht0 _ wd_543) (fun _ h9 => h9) rfl dX10_threes_1 ?_
  obtain ⟨_, hc_r_4_0, hf⟩ := of_bnd hf
  refine cl_Vr (w2 := (wW_X10_threes G h0 h1 h2 h3 h4 h5 h6 y0_0 y0_1 y0_2 y0_4 y0_5 y0_6 y0_8 y0_9 y0_10 y3_0 y3_1 y3_2 y3_3 y4_5 x0_11 x0_12 x1_1 x1_2 a2 x3_4 x3_5 x3_6 x4_0 x4_1 x4_2 a5 a6)) (As := []) (rest := []) ⟨hx, hb, hml, hown, ht0⟩ (c_X8_now l G h1 h2 g_cur h4 y_cur_words _ x1_1 x1_2 a2 F hq_cur hc_r_4_0) yk_X8_now wd_531 ⟨rfl, rfl, by decide, by decide⟩ ⟨Nat.le_refl _, Nat.le_refl _⟩ hX hK hP hD hS hA [1, 2] [0, 3, 4, 5, 6] [0, 5, 6, 1, 2, 3, 4] (va_recv hK hP (ci := 8) (q0 := 1) rfl rfl) rfl rfl (by decide) rfl rfl rfl rfl rfl hl.1 rfl (Nat.le_of_ble_eq_true rfl) dX10_threes_4 (fun H locs hP hD hS => ?_)
  refine vk_getf hx hb (hX.2.2 _ hq_cur).2.1 hS hown (ht0 _ wd_342) (fun _ h => h) dX10_threes_7 ?_
  refine lv_astore_n (lv' := [(2, .ref h4), (0, .ref h0), (1, .int b1)]) hx hb dX10_threes_10 rfl hl (by decide) rfl (fun ls hl => ?_)
  refine lv_iload_n hx hb dX10_threes_11 rfl (lv_at hl 2 rfl) ?_
  by_cases c2 : b1 = (0 : Int32)
  · have hf := of_pos hf c2
    refine lv_tableIn (off := 28) (tgt := 40) hx hb dX10_threes_12 (by rw [c2]; decide) (by rw [c2]; decide) (by rw [c2]; rfl) (by decide) ?_
    refine lv_aload_n hx hb dX10_threes_40 rfl (lv_at hl 1 rfl) ?_
    refine va_get (ci := 10) (v := .ref h3) (C := RX10) (T := TX10) (N := 13) hx hb ht0 iX10 hown hK hP 0 rfl rfl 7 (by decide) (ht0 _ wd_547) (fun _ h9 => h9) rfl dX10_threes_41 ?_
    refine lv_aload_n hx hb dX10_threes_44 rfl (lv_at hl 0 rfl) ?_
    refine lv_aload_n hx hb dX10_threes_45 rfl (lv_at hl 0 rfl) ?_
    obtain ⟨r_46_2, hc_r_46_2, hf⟩ := of_bnd hf
    refine cl_Vi (w2 := (wW_X10_threes G h0 h1 h2 h3 h4 h5 h6 y0_0 y0_1 y0_2 y0_4 y0_5 y0_6 y0_8 y0_9 y0_10 y3_0 y3_1 y3_2 y3_3 y4_5 x0_11 x0_12 x1_1 x1_2 a2 x3_4 x3_5 x3_6 x4_0 x4_1 x4_2 a5 a6)) (As := []) (rest := [.ref h4, .ref h3]) ⟨hx, hb, hml, hown, ht0⟩ (c_X1_places l G h4 h5 h6 y4_5 _ x4_0 x4_1 x4_2 F _ hc_r_46_2) yk_X1_places wd_781 ⟨rfl, rfl, by decide, by decide⟩ ⟨Nat.le_refl _, Nat.le_refl _⟩ hX hK hP hD hS hA [4] [0, 1, 2, 3, 5, 6] [0, 1, 2, 3, 6, 4, 5] (va_recv hK hP (ci := 1) (q0 := 4) rfl rfl) rfl rfl (by decide) rfl rfl rfl rfl rfl hl.1 rfl (Nat.le_of_ble_eq_true rfl) dX10_threes_46 (fun H locs hP hD hS => ?_)
    obtain ⟨r_49_3, hc_r_49_3, hf⟩ := of_bnd hf
    refine cl_Vi (w2 := (wW_X10_threes G h0 h1 h2 h3 h4 h5 h6 y0_0 y0_1 y0_2 y0_4 y0_5 y0_6 y0_8 y0_9 y0_10 y3_0 y3_1 y3_2 y3_3 y4_5 x0_11 x0_12 x1_1 x1_2 a2 x3_4 x3_5 x3_6 x4_0 x4_1 x4_2 a5 a6)) (As := [.ref h4, .int r_46_2]) (rest := []) ⟨hx, hb, hml, hown, ht0⟩ (c_X4_countMissed l G h3 h4 h5 h6 y4_5 _ x4_0 x4_1 x4_2 a5 a6 F r_46_2 _ hc_r_49_3) yk_X4_countMissed wd_1083 ⟨rfl, rfl, by decide, by decide⟩ ⟨Nat.le_refl _, Nat.le_refl _⟩ hX hK hP hD hS hA [4, 5, 6] [0, 1, 2, 3] [0, 1, 2, 3, 4, 5, 6] (va_recv hK hP (ci := 4) (q0 := 3) rfl rfl) rfl rfl (by decide) rfl rfl rfl rfl rfl hl.1 rfl (Nat.le_of_ble_eq_true rfl) dX10_threes_49 (fun H locs hP hD hS => ?_)
    cases hf
    exact ret_i hx hb hr hlk hK hP hD hS dX10_threes_52
  have hf := of_neg hf c2
  by_cases c5 : b1 = (1 : Int32)
  · have hf := of_pos hf c5
    refine lv_tableIn (off := 41) (tgt := 53) hx hb dX10_threes_12 (by rw [c5]; decide) (by rw [c5]; decide) (by rw [c5]; rfl) (by decide) ?_
    refine lv_aload_n hx hb dX10_threes_53 rfl (lv_at hl 1 rfl) ?_
    refine va_get (ci := 10) (v := .ref h3) (C := RX10) (T := TX10) (N := 13) hx hb ht0 iX10 hown hK hP 0 rfl rfl 7 (by decide) (ht0 _ wd_547) (fun _ h9 => h9) rfl dX10_threes_54 ?_
    refine lv_aload_n hx hb dX10_threes_57 rfl (lv_at hl 0 rfl) ?_
    refine lv_aload_n hx hb dX10_threes_58 rfl (lv_at hl 0 rfl) ?_
    refine va_get (ci := 1) (v := .int x4_0) (C := RX1) (T := TX1) (N := 6) hx hb ht0 iX1 hown hK hP 4 rfl rfl 0 (by decide) (ht0 _ wd_214) (fun _ h9 => h9) rfl dX10_threes_59 ?_
    obtain ⟨r_62_5, hc_r_62_5, hf⟩ := of_bnd hf
    refine cl_Vi (w2 := (wW_X10_threes G h0 h1 h2 h3 h4 h5 h6 y0_0 y0_1 y0_2 y0_4 y0_5 y0_6 y0_8 y0_9 y0_10 y3_0 y3_1 y3_2 y3_3 y4_5 x0_11 x0_12 x1_1 x1_2 a2 x3_4 x3_5 x3_6 x4_0 x4_1 x4_2 a5 a6)) (As := [.ref h4, .int x4_0]) (rest := []) ⟨hx, hb, hml, hown, ht0⟩ (c_X4_countMissed l G h3 h4 h5 h6 y4_5 _ x4_0 x4_1 x4_2 a5 a6 F x4_0 _ hc_r_62_5) yk_X4_countMissed wd_1083 ⟨rfl, rfl, by decide, by decide⟩ ⟨Nat.le_refl _, Nat.le_refl _⟩ hX hK hP hD hS hA [4, 5, 6] [0, 1, 2, 3] [0, 1, 2, 3, 4, 5, 6] (va_recv hK hP (ci := 4) (q0 := 3) rfl rfl) rfl rfl (by decide) rfl rfl rfl rfl rfl hl.1 rfl (Nat.le_of_ble_eq_true rfl) dX10_threes_62 (fun H locs hP hD hS => ?_)
    cases hf
    exact ret_i hx hb hr hlk hK hP hD hS dX10_threes_65
  have hf := of_neg hf c5
  by_cases c7 : b1 = (2 : Int32)
  · have hf := of_pos hf c7
    refine lv_tableIn (off := 54) (tgt := 66) hx hb dX10_threes_12 (by rw [c7]; decide) (by rw [c7]; decide) (by rw [c7]; rfl) (by decide) ?_
    refine lv_aload_n hx hb dX10_threes_66 rfl (lv_at hl 0 rfl) ?_
    obtain ⟨r_67_7, hc_r_67_7, hf⟩ := of_bnd hf
    refine cl_Vi (w2 := (wW_X10_threes G h0 h1 h2 h3 h4 h5 h6 y0_0 y0_1 y0_2 y0_4 y0_5 y0_6 y0_8 y0_9 y0_10 y3_0 y3_1 y3_2 y3_3 y4_5 x0_11 x0_12 x1_1 x1_2 a2 x3_4 x3_5 x3_6 x4_0 x4_1 x4_2 a5 a6)) (As := []) (rest := []) ⟨hx, hb, hml, hown, ht0⟩ (c_X1_places l G h4 h5 h6 y4_5 _ x4_0 x4_1 x4_2 F _ hc_r_67_7) yk_X1_places wd_781 ⟨rfl, rfl, by decide, by decide⟩ ⟨Nat.le_refl _, Nat.le_refl _⟩ hX hK hP hD hS hA [4] [0, 1, 2, 3, 5, 6] [0, 1, 2, 3, 6, 4, 5] (va_recv hK hP (ci := 1) (q0 := 4) rfl rfl) rfl rfl (by decide) rfl rfl rfl rfl rfl hl.1 rfl (Nat.le_of_ble_eq_true rfl) dX10_threes_67 (fun H locs hP hD hS => ?_)
    obtain ⟨r_70_8, hc_r_70_8, hf⟩ := of_bnd hf
    refine cl_Si (w2 := (wW_X10_threes G h0 h1 h2 h3 h4 h5 h6 y0_0 y0_1 y0_2 y0_4 y0_5 y0_6 y0_8 y0_9 y0_10 y3_0 y3_1 y3_2 y3_3 y4_5 x0_11 x0_12 x1_1 x1_2 a2 x3_4 x3_5 x3_6 x4_0 x4_1 x4_2 a5 a6)) (As := [.int r_67_7]) (rest := []) ⟨hx, hb, hml, hown, ht0⟩ (c_X10_threesOf l G _ F r_67_7 _ hc_r_70_8) yk_X10_threesOf wd_1084 ⟨rfl, rfl, by decide, by decide⟩ ⟨Nat.le_refl _, Nat.le_refl _⟩ hX hK hP hD hS hA [] [0, 1, 2, 3, 4, 5, 6] [0, 1, 2, 3, 4, 5, 6] rfl rfl (by decide) rfl rfl rfl rfl rfl hl.1 rfl (Nat.le_of_ble_eq_true rfl) dX10_threes_70 (fun H locs hP hD hS => ?_)
    cases hf
    exact ret_i hx hb hr hlk hK hP hD hS dX10_threes_73
  have hf := of_neg hf c7
  refine lv_tableOut (tgt := 74) hx hb dX10_threes_12 (by have n0 := lv_neT (a := 0) c2 rfl; have n1 := lv_neT (a := 1) c5 rfl; have n2 := lv_neT (a := 2) c7 rfl; omega) (by decide) ?_
  refine lv_iconst (v := (-1 : Int32)) hx hb dX10_threes_74 (by decide) ?_
  cases hf
  exact ret_i hx hb hr hlk hK hP hD hS dX10_threes_75
theorem yk_X10_threes : ykV yX10_threes RX10 cX10_threes 3 (some .int) 1 := ⟨wd_1080, wd_1081, wd_127, wd_1082, rfl, by decide +kernel, by decide +kernel, by decide +kernel⟩
theorem dX10_fours_0 : decode cX10_fours 0 = .ok (.aload_n 0, 1) := by decide +kernel
theorem dX10_fours_1 : decode cX10_fours 1 = .ok (.getfield 54, 3) := by decide +kernel
theorem dX10_fours_4 : decode cX10_fours 4 = .ok (.aload_n 0, 1) := by decide +kernel
theorem dX10_fours_5 : decode cX10_fours 5 = .ok (.getfield 29, 3) := by decide +kernel
theorem dX10_fours_8 : decode cX10_fours 8 = .ok (.invokevirtual 92, 3) := by decide +kernel
theorem dX10_fours_11 : decode cX10_fours 11 = .ok (.getfield 96, 3) := by decide +kernel
theorem dX10_fours_14 : decode cX10_fours 14 = .ok (.invokevirtual 309, 3) := by decide +kernel
theorem dX10_fours_17 : decode cX10_fours 17 = .ok (.ireturn, 1) := by decide +kernel
def wW_X10_fours (G : GG) (h0 h1 h2 h3 h4 h5 h6 y0_0 y0_1 y0_2 y0_4 y0_5 y0_6 y0_8 y0_9 y0_10 y3_0 y3_1 y3_2 y3_3 y4_5 : Nat) (x0_11 : Int32) (x0_12 : Int32) (x1_1 : Int32) (x1_2 : Int32) (a2 : Nat → Option Nat) (x3_4 : Int32) (x3_5 : Int32) (x3_6 : Int32) (x4_0 : Int32) (x4_1 : Int32) (x4_2 : Int32) (a5 : Nat → Int32) (a6 : Nat → Int32) : va_W := [(h0, .inr (10, [.ref y0_0, .ref y0_1, .ref y0_2, .ref h1, .ref y0_4, .ref y0_5, .ref y0_6, .ref h3, .ref y0_8, .ref y0_9, .ref y0_10, .int x0_11, .int x0_12])), (h1, .inr (8, [.ref h2, .int x1_1, .int x1_2])), (h2, .inl (G.2.2.2.2.1, 13, .inr (.inr (.inr (.inr a2))))), (h3, .inr (4, [.ref y3_0, .ref y3_1, .ref y3_2, .ref y3_3, .int x3_4, .int x3_5, .int x3_6])), (h4, .inr (1, [.int x4_0, .int x4_1, .int x4_2, .ref h5, .ref h6, .ref y4_5])), (h5, .inl (G.2.1, 32, .inl a5)), (h6, .inl (G.2.1, 256, .inl a6))]
set_option maxHeartbeats 4000000 in
set_option maxRecDepth 100000 in
theorem c_X10_fours (l : Launch) (G : GG) (h0 h1 h2 h3 h4 h5 h6 y0_0 y0_1 y0_2 y0_4 y0_5 y0_6 y0_8 y0_9 y0_10 y3_0 y3_1 y3_2 y3_3 y4_5 g_cur y_cur_words : Nat) (sz : Nat) (x0_11 : Int32) (x0_12 : Int32) (x1_1 : Int32) (x1_2 : Int32) (a2 : Nat → Option Nat) (x3_4 : Int32) (x3_5 : Int32) (x3_6 : Int32) (x4_0 : Int32) (x4_1 : Int32) (x4_2 : Int32) (a5 : Nat → Int32) (a6 : Nat → Int32) (F : Nat)  (hq_cur : (g_cur, h4, y_cur_words) ∈ gS G)  (r0 : Int32) (hf : p_X10_fours F g_cur x1_1 a2 x4_0 x4_1 a5 a6  = some r0) : Met l yX10_fours (.code yX10_fours cX10_fours 1 (some .int) :: gtbl) ({ frames := 3, cells := 0, slots := 0, locals := 69 } : Room) (PcS G [.ref h0] (wW_X10_fours G h0 h1 h2 h3 h4 h5 h6 y0_0 y0_1 y0_2 y0_4 y0_5 y0_6 y0_8 y0_9 y0_10 y3_0 y3_1 y3_2 y3_3 y4_5 x0_11 x0_12 x1_1 x1_2 a2 x3_4 x3_5 x3_6 x4_0 x4_1 x4_2 a5 a6) sz) (QiS G r0 (va_A (wW_X10_fours G h0 h1 h2 h3 h4 h5 h6 y0_0 y0_1 y0_2 y0_4 y0_5 y0_6 y0_8 y0_9 y0_10 y3_0 y3_1 y3_2 y3_3 y4_5 x0_11 x0_12 x1_1 x1_2 a2 x3_4 x3_5 x3_6 x4_0 x4_1 x4_2 a5 a6) sz) (wW_X10_fours G h0 h1 h2 h3 h4 h5 h6 y0_0 y0_1 y0_2 y0_4 y0_5 y0_6 y0_8 y0_9 y0_10 y3_0 y3_1 y3_2 y3_3 y4_5 x0_11 x0_12 x1_1 x1_2 a2 x3_4 x3_5 x3_6 x4_0 x4_1 x4_2 a5 a6)) 0 0 (va_A (wW_X10_fours G h0 h1 h2 h3 h4 h5 h6 y0_0 y0_1 y0_2 y0_4 y0_5 y0_6 y0_8 y0_9 y0_10 y3_0 y3_1 y3_2 y3_3 y4_5 x0_11 x0_12 x1_1 x1_2 a2 x3_4 x3_5 x3_6 x4_0 x4_1 x4_2 a5 a6) sz) := by
  refine met_start (by decide) (Nat.le_of_ble_eq_true rfl) ?_
  intro p e s m below meth c hC hr hlk hnm hK hP hD hA hS hX ls hl
  obtain ⟨hx, hb, hml, hown, ht0⟩ := hC
  have hown : s.vm.findClass RX10 = some m.cls := hown
  generalize va_A (wW_X10_fours G h0 h1 h2 h3 h4 h5 h6 y0_0 y0_1 y0_2 y0_4 y0_5 y0_6 y0_8 y0_9 y0_10 y3_0 y3_1 y3_2 y3_3 y4_5 x0_11 x0_12 x1_1 x1_2 a2 x3_4 x3_5 x3_6 x4_0 x4_1 x4_2 a5 a6) sz = A at hD hA hS hX ⊢
  have hl : lv_has ls 1 [(0, .ref h0)] := hl
  have hf : p_X10_fours F g_cur x1_1 a2 x4_0 x4_1 a5 a6  = some r0 := hf
  refine lv_aload_n hx hb dX10_fours_0 rfl (lv_at hl 0 rfl) ?_
  refine va_get (ci := 10) (v := .ref h3) (C := RX10) (T := TX10) (N := 13) hx hb ht0 iX10 hown hK hP 0 rfl rfl 7 (by decide) (ht0 _ wd_547) (fun _ h9 => h9) rfl dX10_fours_1 ?_
  refine lv_aload_n hx hb dX10_fours_4 rfl (lv_at hl 0 rfl) ?_
  refine va_get (ci := 10) (v := .ref h1) (C := RX10) (T := TX10) (N := 13) hx hb ht0 iX10 hown hK hP 0 rfl rfl 3 (by decide) (ht0 _ wd_543) (fun _ h9 => h9) rfl dX10_fours_5 ?_
  obtain ⟨_, hc_r_8_0, hf⟩ := of_bnd hf
  refine cl_Vr (w2 := (wW_X10_fours G h0 h1 h2 h3 h4 h5 h6 y0_0 y0_1 y0_2 y0_4 y0_5 y0_6 y0_8 y0_9 y0_10 y3_0 y3_1 y3_2 y3_3 y4_5 x0_11 x0_12 x1_1 x1_2 a2 x3_4 x3_5 x3_6 x4_0 x4_1 x4_2 a5 a6)) (As := []) (rest := [.ref h3]) ⟨hx, hb, hml, hown, ht0⟩ (c_X8_now l G h1 h2 g_cur h4 y_cur_words _ x1_1 x1_2 a2 F hq_cur hc_r_8_0) yk_X8_now wd_531 ⟨rfl, rfl, by decide, by decide⟩ ⟨Nat.le_refl _, Nat.le_refl _⟩ hX hK hP hD hS hA [1, 2] [0, 3, 4, 5, 6] [0, 5, 6, 1, 2, 3, 4] (va_recv hK hP (ci := 8) (q0 := 1) rfl rfl) rfl rfl (by decide) rfl rfl rfl rfl rfl hl.1 rfl (Nat.le_of_ble_eq_true rfl) dX10_fours_8 (fun H locs hP hD hS => ?_)
  refine vk_getf hx hb (hX.2.2 _ hq_cur).2.1 hS hown (ht0 _ wd_342) (fun _ h => h) dX10_fours_11 ?_
  obtain ⟨r_14_1, hc_r_14_1, hf⟩ := of_bnd hf
  refine cl_Vi (w2 := (wW_X10_fours G h0 h1 h2 h3 h4 h5 h6 y0_0 y0_1 y0_2 y0_4 y0_5 y0_6 y0_8 y0_9 y0_10 y3_0 y3_1 y3_2 y3_3 y4_5 x0_11 x0_12 x1_1 x1_2 a2 x3_4 x3_5 x3_6 x4_0 x4_1 x4_2 a5 a6)) (As := [.ref h4]) (rest := []) ⟨hx, hb, hml, hown, ht0⟩ (c_X4_countUnseen l G h3 h4 h5 h6 y3_0 y3_1 y3_2 y3_3 y4_5 _ x3_4 x3_5 x3_6 x4_0 x4_1 x4_2 a5 a6 F _ hc_r_14_1) yk_X4_countUnseen wd_1091 ⟨rfl, rfl, by decide, by decide⟩ ⟨Nat.le_refl _, Nat.le_refl _⟩ hX hK hP hD hS hA [3, 4, 5, 6] [0, 1, 2] [0, 1, 2, 3, 4, 5, 6] (va_recv hK hP (ci := 4) (q0 := 3) rfl rfl) rfl rfl (by decide) rfl rfl rfl rfl rfl hl.1 rfl (Nat.le_of_ble_eq_true rfl) dX10_fours_14 (fun H locs hP hD hS => ?_)
  cases hf
  exact ret_i hx hb hr hlk hK hP hD hS dX10_fours_17
theorem yk_X10_fours : ykV yX10_fours RX10 cX10_fours 1 (some .int) 0 := ⟨wd_1088, wd_1089, wd_127, wd_1090, rfl, by decide +kernel, by decide +kernel, by decide +kernel⟩
theorem dX10_twos_0 : decode cX10_twos 0 = .ok (.aload_n 0, 1) := by decide +kernel
theorem dX10_twos_1 : decode cX10_twos 1 = .ok (.getfield 29, 3) := by decide +kernel
theorem dX10_twos_4 : decode cX10_twos 4 = .ok (.invokevirtual 92, 3) := by decide +kernel
theorem dX10_twos_7 : decode cX10_twos 7 = .ok (.getfield 96, 3) := by decide +kernel
theorem dX10_twos_10 : decode cX10_twos 10 = .ok (.astore_n 2, 1) := by decide +kernel
theorem dX10_twos_11 : decode cX10_twos 11 = .ok (.iload_n 1, 1) := by decide +kernel
theorem dX10_twos_12 : decode cX10_twos 12 = .ok (.tableswitch 69 0 2 #[28, 37, 46], 28) := by decide +kernel
theorem dX10_twos_40 : decode cX10_twos 40 = .ok (.aload_n 0, 1) := by decide +kernel
theorem dX10_twos_41 : decode cX10_twos 41 = .ok (.getfield 54, 3) := by decide +kernel
theorem dX10_twos_44 : decode cX10_twos 44 = .ok (.aload_n 2, 1) := by decide +kernel
theorem dX10_twos_45 : decode cX10_twos 45 = .ok (.invokevirtual 313, 3) := by decide +kernel
theorem dX10_twos_48 : decode cX10_twos 48 = .ok (.ireturn, 1) := by decide +kernel
theorem dX10_twos_49 : decode cX10_twos 49 = .ok (.aload_n 0, 1) := by decide +kernel
theorem dX10_twos_50 : decode cX10_twos 50 = .ok (.getfield 54, 3) := by decide +kernel
theorem dX10_twos_53 : decode cX10_twos 53 = .ok (.aload_n 2, 1) := by decide +kernel
theorem dX10_twos_54 : decode cX10_twos 54 = .ok (.invokevirtual 316, 3) := by decide +kernel
theorem dX10_twos_57 : decode cX10_twos 57 = .ok (.ireturn, 1) := by decide +kernel
theorem dX10_twos_58 : decode cX10_twos 58 = .ok (.aload_n 0, 1) := by decide +kernel
theorem dX10_twos_59 : decode cX10_twos 59 = .ok (.getfield 54, 3) := by decide +kernel
theorem dX10_twos_62 : decode cX10_twos 62 = .ok (.aload_n 2, 1) := by decide +kernel
theorem dX10_twos_63 : decode cX10_twos 63 = .ok (.invokevirtual 316, 3) := by decide +kernel
theorem dX10_twos_66 : decode cX10_twos 66 = .ok (.aload_n 2, 1) := by decide +kernel
theorem dX10_twos_67 : decode cX10_twos 67 = .ok (.invokevirtual 136, 3) := by decide +kernel
theorem dX10_twos_70 : decode cX10_twos 70 = .ok (.iconst 1, 1) := by decide +kernel
theorem dX10_twos_71 : decode cX10_twos 71 = .ok (.isub, 1) := by decide +kernel
theorem dX10_twos_72 : decode cX10_twos 72 = .ok (.if_icmp .ne 7, 3) := by decide +kernel
theorem dX10_twos_75 : decode cX10_twos 75 = .ok (.iconst 1, 1) := by decide +kernel
theorem dX10_twos_76 : decode cX10_twos 76 = .ok (.goto 4, 3) := by decide +kernel
theorem dX10_twos_79 : decode cX10_twos 79 = .ok (.iconst 0, 1) := by decide +kernel
theorem dX10_twos_80 : decode cX10_twos 80 = .ok (.ireturn, 1) := by decide +kernel
theorem dX10_twos_81 : decode cX10_twos 81 = .ok (.iconst (-1), 1) := by decide +kernel
theorem dX10_twos_82 : decode cX10_twos 82 = .ok (.ireturn, 1) := by decide +kernel
def wW_X10_twos (G : GG) (h0 h1 h2 h3 h4 h5 h6 h7 y0_0 y0_1 y0_2 y0_4 y0_5 y0_6 y0_8 y0_9 y0_10 y3_0 y3_2 y3_3 y5_4 : Nat) (x0_11 : Int32) (x0_12 : Int32) (x1_1 : Int32) (x1_2 : Int32) (a2 : Nat → Option Nat) (x3_4 : Int32) (x3_5 : Int32) (x3_6 : Int32) (a4 : Nat → Int32) (x5_0 : Int32) (x5_1 : Int32) (x5_2 : Int32) (a6 : Nat → Int32) (a7 : Nat → Int32) : va_W := [(h0, .inr (10, [.ref y0_0, .ref y0_1, .ref y0_2, .ref h1, .ref y0_4, .ref y0_5, .ref y0_6, .ref h3, .ref y0_8, .ref y0_9, .ref y0_10, .int x0_11, .int x0_12])), (h1, .inr (8, [.ref h2, .int x1_1, .int x1_2])), (h2, .inl (G.2.2.2.2.1, 13, .inr (.inr (.inr (.inr a2))))), (h3, .inr (4, [.ref y3_0, .ref h4, .ref y3_2, .ref y3_3, .int x3_4, .int x3_5, .int x3_6])), (h4, .inl (G.2.1, 256, .inl a4)), (h5, .inr (1, [.int x5_0, .int x5_1, .int x5_2, .ref h6, .ref y5_4, .ref h7])), (h6, .inl (G.2.1, 32, .inl a6)), (h7, .inl (G.2.1, 256, .inl a7))]
set_option maxHeartbeats 4000000 in
set_option maxRecDepth 100000 in
theorem c_X10_twos (l : Launch) (G : GG) (h0 h1 h2 h3 h4 h5 h6 h7 y0_0 y0_1 y0_2 y0_4 y0_5 y0_6 y0_8 y0_9 y0_10 y3_0 y3_2 y3_3 y5_4 g_cur y_cur_words : Nat) (sz : Nat) (x0_11 : Int32) (x0_12 : Int32) (x1_1 : Int32) (x1_2 : Int32) (a2 : Nat → Option Nat) (x3_4 : Int32) (x3_5 : Int32) (x3_6 : Int32) (a4 : Nat → Int32) (x5_0 : Int32) (x5_1 : Int32) (x5_2 : Int32) (a6 : Nat → Int32) (a7 : Nat → Int32) (F : Nat) (b1 : Int32) (hq_cur : (g_cur, h5, y_cur_words) ∈ gS G)  (r0 : Int32) (e_a4 : Nat → Int32) (hf : p_X10_twos F g_cur x1_1 a2 a4 x5_0 x5_1 x5_2 a6 a7 b1 = some (r0, e_a4)) : Met l yX10_twos (.code yX10_twos cX10_twos 3 (some .int) :: gtbl) ({ frames := 2, cells := 0, slots := 0, locals := 46 } : Room) (PcS G [.ref h0, .int b1] (wW_X10_twos G h0 h1 h2 h3 h4 h5 h6 h7 y0_0 y0_1 y0_2 y0_4 y0_5 y0_6 y0_8 y0_9 y0_10 y3_0 y3_2 y3_3 y5_4 x0_11 x0_12 x1_1 x1_2 a2 x3_4 x3_5 x3_6 a4 x5_0 x5_1 x5_2 a6 a7) sz) (QiS G r0 (va_A (wW_X10_twos G h0 h1 h2 h3 h4 h5 h6 h7 y0_0 y0_1 y0_2 y0_4 y0_5 y0_6 y0_8 y0_9 y0_10 y3_0 y3_2 y3_3 y5_4 x0_11 x0_12 x1_1 x1_2 a2 x3_4 x3_5 x3_6 a4 x5_0 x5_1 x5_2 a6 a7) sz) (wW_X10_twos G h0 h1 h2 h3 h4 h5 h6 h7 y0_0 y0_1 y0_2 y0_4 y0_5 y0_6 y0_8 y0_9 y0_10 y3_0 y3_2 y3_3 y5_4 x0_11 x0_12 x1_1 x1_2 a2 x3_4 x3_5 x3_6 e_a4 x5_0 x5_1 x5_2 a6 a7)) 0 0 (va_A (wW_X10_twos G h0 h1 h2 h3 h4 h5 h6 h7 y0_0 y0_1 y0_2 y0_4 y0_5 y0_6 y0_8 y0_9 y0_10 y3_0 y3_2 y3_3 y5_4 x0_11 x0_12 x1_1 x1_2 a2 x3_4 x3_5 x3_6 a4 x5_0 x5_1 x5_2 a6 a7) sz) := by
  refine met_start (by decide) (Nat.le_of_ble_eq_true rfl) ?_
  intro p e s m below meth c hC hr hlk hnm hK hP hD hA hS hX ls hl
  obtain ⟨hx, hb, hml, hown, ht0⟩ := hC
  have hown : s.vm.findClass RX10 = some m.cls := hown
  generalize va_A (wW_X10_twos G h0 h1 h2 h3 h4 h5 h6 h7 y0_0 y0_1 y0_2 y0_4 y0_5 y0_6 y0_8 y0_9 y0_10 y3_0 y3_2 y3_3 y5_4 x0_11 x0_12 x1_1 x1_2 a2 x3_4 x3_5 x3_6 a4 x5_0 x5_1 x5_2 a6 a7) sz = A at hD hA hS hX ⊢
  have hl : lv_has ls 3 [(0, .ref h0), (1, .int b1)] := hl
  have hf : p_X10_twos F g_cur x1_1 a2 a4 x5_0 x5_1 x5_2 a6 a7 b1 = some (r0, e_a4) := hf
  refine lv_aload_n hx hb dX10_twos_0 rfl (lv_at hl 0 rfl) ?_
  refine va_get (ci := 10) (v := .ref h1) (C := RX10) (T := TX10) (N := 13) hx hb ht0 iX10 hown hK hP 0 rfl rfl 3 (by decide) (ht0 _ wd_543) (fun _ h9 => h9) rfl dX10_twos_1 ?_
  obtain ⟨_, hc_r_4_0, hf⟩ := of_bnd hf
  refine cl_Vr (w2 := (wW_X10_twos G h0 h1 h2 h3 h4 h5 h6 h7 y0_0 y0_1 y0_2 y0_4 y0_5 y0_6 y0_8 y0_9 y0_10 y3_0 y3_2 y3_3 y5_4 x0_11 x0_12 x1_1 x1_2 a2 x3_4 x3_5 x3_6 a4 x5_0 x5_1 x5_2 a6 a7)) (As := []) (rest := []) ⟨hx, hb, hml, hown, ht0⟩ (c_X8_now l G h1 h2 g_cur h5 y_cur_words _ x1_1 x1_2 a2 F hq_cur hc_r_4_0) yk_X8_now wd_531 ⟨rfl, rfl, by decide, by decide⟩ ⟨Nat.le_refl _, Nat.le_refl _⟩ hX hK hP hD hS hA [1, 2] [0, 3, 4, 5, 6, 7] [0, 6, 7, 1, 2, 3, 4, 5] (va_recv hK hP (ci := 8) (q0 := 1) rfl rfl) rfl rfl (by decide) rfl rfl rfl rfl rfl hl.1 rfl (Nat.le_of_ble_eq_true rfl) dX10_twos_4 (fun H locs hP hD hS => ?_)
  refine vk_getf hx hb (hX.2.2 _ hq_cur).2.1 hS hown (ht0 _ wd_342) (fun _ h => h) dX10_twos_7 ?_
  refine lv_astore_n (lv' := [(2, .ref h5), (0, .ref h0), (1, .int b1)]) hx hb dX10_twos_10 rfl hl (by decide) rfl (fun ls hl => ?_)
  refine lv_iload_n hx hb dX10_twos_11 rfl (lv_at hl 2 rfl) ?_
  by_cases c2 : b1 = (0 : Int32)
  · have hf := of_pos hf c2
    refine lv_tableIn (off := 28) (tgt := 40) hx hb dX10_twos_12 (by rw [c2]; decide) (by rw [c2]; decide) (by rw [c2]; rfl) (by decide) ?_
    refine lv_aload_n hx hb dX10_twos_40 rfl (lv_at hl 1 rfl) ?_
    refine va_get (ci := 10) (v := .ref h3) (C := RX10) (T := TX10) (N := 13) hx hb ht0 iX10 hown hK hP 0 rfl rfl 7 (by decide) (ht0 _ wd_547) (fun _ h9 => h9) rfl dX10_twos_41 ?_
    refine lv_aload_n hx hb dX10_twos_44 rfl (lv_at hl 0 rfl) ?_
    obtain ⟨r_45_2, hc_r_45_2, hf⟩ := of_bnd hf
    refine cl_Vi (w2 := (wW_X10_twos G h0 h1 h2 h3 h4 h5 h6 h7 y0_0 y0_1 y0_2 y0_4 y0_5 y0_6 y0_8 y0_9 y0_10 y3_0 y3_2 y3_3 y5_4 x0_11 x0_12 x1_1 x1_2 a2 x3_4 x3_5 x3_6 a4 x5_0 x5_1 x5_2 a6 a7)) (As := [.ref h5]) (rest := []) ⟨hx, hb, hml, hown, ht0⟩ (c_X4_countMistaken l G h3 h5 h6 h7 y5_4 _ x5_0 x5_1 x5_2 a6 a7 F _ hc_r_45_2) yk_X4_countMistaken wd_1096 ⟨rfl, rfl, by decide, by decide⟩ ⟨Nat.le_refl _, Nat.le_refl _⟩ hX hK hP hD hS hA [5, 6, 7] [0, 1, 2, 3, 4] [0, 1, 2, 3, 4, 5, 6, 7] (va_recv hK hP (ci := 4) (q0 := 3) rfl rfl) rfl rfl (by decide) rfl rfl rfl rfl rfl hl.1 rfl (Nat.le_of_ble_eq_true rfl) dX10_twos_45 (fun H locs hP hD hS => ?_)
    cases hf
    exact ret_i hx hb hr hlk hK hP hD hS dX10_twos_48
  have hf := of_neg hf c2
  by_cases c4 : b1 = (1 : Int32)
  · have hf := of_pos hf c4
    refine lv_tableIn (off := 37) (tgt := 49) hx hb dX10_twos_12 (by rw [c4]; decide) (by rw [c4]; decide) (by rw [c4]; rfl) (by decide) ?_
    refine lv_aload_n hx hb dX10_twos_49 rfl (lv_at hl 1 rfl) ?_
    refine va_get (ci := 10) (v := .ref h3) (C := RX10) (T := TX10) (N := 13) hx hb ht0 iX10 hown hK hP 0 rfl rfl 7 (by decide) (ht0 _ wd_547) (fun _ h9 => h9) rfl dX10_twos_50 ?_
    refine lv_aload_n hx hb dX10_twos_53 rfl (lv_at hl 0 rfl) ?_
    obtain ⟨⟨r_54_4, r_54_4_a1⟩, hc_r_54_4, hf⟩ := of_bnd hf
    refine cl_Vi (w2 := (wW_X10_twos G h0 h1 h2 h3 h4 h5 h6 h7 y0_0 y0_1 y0_2 y0_4 y0_5 y0_6 y0_8 y0_9 y0_10 y3_0 y3_2 y3_3 y5_4 x0_11 x0_12 x1_1 x1_2 a2 x3_4 x3_5 x3_6 r_54_4_a1 x5_0 x5_1 x5_2 a6 a7)) (As := [.ref h5]) (rest := []) ⟨hx, hb, hml, hown, ht0⟩ (c_X4_countLoneXors l G h3 h4 h5 h6 y3_0 y3_2 y3_3 y5_4 h7 _ x3_4 x3_5 x3_6 a4 x5_0 x5_1 x5_2 a6 F _ _ hc_r_54_4) yk_X4_countLoneXors wd_1101 ⟨rfl, rfl, by decide, by decide⟩ ⟨Nat.le_refl _, Nat.le_refl _⟩ hX hK hP hD hS hA [3, 4, 5, 6] [0, 1, 2, 7] [0, 1, 2, 4, 5, 6, 7, 3] (va_recv hK hP (ci := 4) (q0 := 3) rfl rfl) rfl rfl (by decide) rfl rfl rfl rfl rfl hl.1 rfl (Nat.le_of_ble_eq_true rfl) dX10_twos_54 (fun H locs hP hD hS => ?_)
    cases hf
    exact ret_i hx hb hr hlk hK hP hD hS dX10_twos_57
  have hf := of_neg hf c4
  by_cases c6 : b1 = (2 : Int32)
  · have hf := of_pos hf c6
    refine lv_tableIn (off := 46) (tgt := 58) hx hb dX10_twos_12 (by rw [c6]; decide) (by rw [c6]; decide) (by rw [c6]; rfl) (by decide) ?_
    refine lv_aload_n hx hb dX10_twos_58 rfl (lv_at hl 1 rfl) ?_
    refine va_get (ci := 10) (v := .ref h3) (C := RX10) (T := TX10) (N := 13) hx hb ht0 iX10 hown hK hP 0 rfl rfl 7 (by decide) (ht0 _ wd_547) (fun _ h9 => h9) rfl dX10_twos_59 ?_
    refine lv_aload_n hx hb dX10_twos_62 rfl (lv_at hl 0 rfl) ?_
    obtain ⟨⟨r_63_6, r_63_6_a1⟩, hc_r_63_6, hf⟩ := of_bnd hf
    refine cl_Vi (w2 := (wW_X10_twos G h0 h1 h2 h3 h4 h5 h6 h7 y0_0 y0_1 y0_2 y0_4 y0_5 y0_6 y0_8 y0_9 y0_10 y3_0 y3_2 y3_3 y5_4 x0_11 x0_12 x1_1 x1_2 a2 x3_4 x3_5 x3_6 r_63_6_a1 x5_0 x5_1 x5_2 a6 a7)) (As := [.ref h5]) (rest := []) ⟨hx, hb, hml, hown, ht0⟩ (c_X4_countLoneXors l G h3 h4 h5 h6 y3_0 y3_2 y3_3 y5_4 h7 _ x3_4 x3_5 x3_6 a4 x5_0 x5_1 x5_2 a6 F _ _ hc_r_63_6) yk_X4_countLoneXors wd_1101 ⟨rfl, rfl, by decide, by decide⟩ ⟨Nat.le_refl _, Nat.le_refl _⟩ hX hK hP hD hS hA [3, 4, 5, 6] [0, 1, 2, 7] [0, 1, 2, 4, 5, 6, 7, 3] (va_recv hK hP (ci := 4) (q0 := 3) rfl rfl) rfl rfl (by decide) rfl rfl rfl rfl rfl hl.1 rfl (Nat.le_of_ble_eq_true rfl) dX10_twos_63 (fun H locs hP hD hS => ?_)
    refine lv_aload_n hx hb dX10_twos_66 rfl (lv_at hl 0 rfl) ?_
    obtain ⟨r_67_7, hc_r_67_7, hf⟩ := of_bnd hf
    refine cl_Vi (w2 := (wW_X10_twos G h0 h1 h2 h3 h4 h5 h6 h7 y0_0 y0_1 y0_2 y0_4 y0_5 y0_6 y0_8 y0_9 y0_10 y3_0 y3_2 y3_3 y5_4 x0_11 x0_12 x1_1 x1_2 a2 x3_4 x3_5 x3_6 r_63_6_a1 x5_0 x5_1 x5_2 a6 a7)) (As := []) (rest := [.int r_63_6]) ⟨hx, hb, hml, hown, ht0⟩ (c_X1_places l G h5 h6 y5_4 h7 _ x5_0 x5_1 x5_2 F _ hc_r_67_7) yk_X1_places wd_781 ⟨rfl, rfl, by decide, by decide⟩ ⟨Nat.le_refl _, Nat.le_refl _⟩ hX hK hP hD hS hA [5] [0, 1, 2, 3, 4, 6, 7] [0, 1, 2, 3, 4, 7, 5, 6] (va_recv hK hP (ci := 1) (q0 := 5) rfl rfl) rfl rfl (by decide) rfl rfl rfl rfl rfl hl.1 rfl (Nat.le_of_ble_eq_true rfl) dX10_twos_67 (fun H locs hP hD hS => ?_)
    refine lv_iconst (v := (1 : Int32)) hx hb dX10_twos_70 (by decide) ?_
    refine lv_isub hx hb dX10_twos_71 ?_
    refine lv_icmp_ne (tgt := 79) hx hb dX10_twos_72 (by decide) (fun c9 => ?_) (fun c9 => ?_)
    · have hf := of_neg hf c9
      refine lv_iconst (v := (0 : Int32)) hx hb dX10_twos_79 (by decide) ?_
      cases hf
      exact ret_i hx hb hr hlk hK hP hD hS dX10_twos_80
    · have hf := of_pos hf c9
      refine lv_iconst (v := (1 : Int32)) hx hb dX10_twos_75 (by decide) ?_
      refine lv_goto (tgt := 80) hx hb dX10_twos_76 (by decide) ?_
      cases hf
      exact ret_i hx hb hr hlk hK hP hD hS dX10_twos_80
  have hf := of_neg hf c6
  refine lv_tableOut (tgt := 81) hx hb dX10_twos_12 (by have n0 := lv_neT (a := 0) c2 rfl; have n1 := lv_neT (a := 1) c4 rfl; have n2 := lv_neT (a := 2) c6 rfl; omega) (by decide) ?_
  refine lv_iconst (v := (-1 : Int32)) hx hb dX10_twos_81 (by decide) ?_
  cases hf
  exact ret_i hx hb hr hlk hK hP hD hS dX10_twos_82
theorem yk_X10_twos : ykV yX10_twos RX10 cX10_twos 3 (some .int) 1 := ⟨wd_1093, wd_1094, wd_127, wd_1095, rfl, by decide +kernel, by decide +kernel, by decide +kernel⟩
theorem dX10_change_0 : decode cX10_change 0 = .ok (.iload_n 1, 1) := by decide +kernel
theorem dX10_change_1 : decode cX10_change 1 = .ok (.ifCond .lt 8, 3) := by decide +kernel
theorem dX10_change_4 : decode cX10_change 4 = .ok (.iload_n 1, 1) := by decide +kernel
theorem dX10_change_5 : decode cX10_change 5 = .ok (.iconst 2, 1) := by decide +kernel
theorem dX10_change_6 : decode cX10_change 6 = .ok (.if_icmp .le 5, 3) := by decide +kernel
theorem dX10_change_9 : decode cX10_change 9 = .ok (.iconst (-1), 1) := by decide +kernel
theorem dX10_change_10 : decode cX10_change 10 = .ok (.ireturn, 1) := by decide +kernel
theorem dX10_change_11 : decode cX10_change 11 = .ok (.aload_n 0, 1) := by decide +kernel
theorem dX10_change_12 : decode cX10_change 12 = .ok (.getfield 54, 3) := by decide +kernel
theorem dX10_change_15 : decode cX10_change 15 = .ok (.aload_n 0, 1) := by decide +kernel
theorem dX10_change_16 : decode cX10_change 16 = .ok (.getfield 29, 3) := by decide +kernel
theorem dX10_change_19 : decode cX10_change 19 = .ok (.invokevirtual 92, 3) := by decide +kernel
theorem dX10_change_22 : decode cX10_change 22 = .ok (.getfield 96, 3) := by decide +kernel
theorem dX10_change_25 : decode cX10_change 25 = .ok (.invokevirtual 235, 3) := by decide +kernel
theorem dX10_change_28 : decode cX10_change 28 = .ok (.aload_n 0, 1) := by decide +kernel
theorem dX10_change_29 : decode cX10_change 29 = .ok (.getfield 54, 3) := by decide +kernel
theorem dX10_change_32 : decode cX10_change 32 = .ok (.iload_n 1, 1) := by decide +kernel
theorem dX10_change_33 : decode cX10_change 33 = .ok (.invokevirtual 319, 3) := by decide +kernel
theorem dX10_change_36 : decode cX10_change 36 = .ok (.ireturn, 1) := by decide +kernel
def wW_X10_change (G : GG) (h0 h1 h2 h3 h4 h5 h6 h7 h8 y0_0 y0_1 y0_2 y0_4 y0_5 y0_6 y0_8 y0_9 y0_10 y3_2 y3_3 y6_5 : Nat) (x0_11 : Int32) (x0_12 : Int32) (x1_1 : Int32) (x1_2 : Int32) (a2 : Nat → Option Nat) (x3_4 : Int32) (x3_5 : Int32) (x3_6 : Int32) (a4 : Nat → Int32) (a5 : Nat → Int32) (x6_0 : Int32) (x6_1 : Int32) (x6_2 : Int32) (a7 : Nat → Int32) (a8 : Nat → Int32) : va_W := [(h0, .inr (10, [.ref y0_0, .ref y0_1, .ref y0_2, .ref h1, .ref y0_4, .ref y0_5, .ref y0_6, .ref h3, .ref y0_8, .ref y0_9, .ref y0_10, .int x0_11, .int x0_12])), (h1, .inr (8, [.ref h2, .int x1_1, .int x1_2])), (h2, .inl (G.2.2.2.2.1, 13, .inr (.inr (.inr (.inr a2))))), (h3, .inr (4, [.ref h4, .ref h5, .ref y3_2, .ref y3_3, .int x3_4, .int x3_5, .int x3_6])), (h4, .inl (G.2.1, 256, .inl a4)), (h5, .inl (G.2.1, 256, .inl a5)), (h6, .inr (1, [.int x6_0, .int x6_1, .int x6_2, .ref h7, .ref h8, .ref y6_5])), (h7, .inl (G.2.1, 32, .inl a7)), (h8, .inl (G.2.1, 256, .inl a8))]
set_option maxHeartbeats 4000000 in
set_option maxRecDepth 100000 in
theorem c_X10_change (l : Launch) (G : GG) (h0 h1 h2 h3 h4 h5 h6 h7 h8 y0_0 y0_1 y0_2 y0_4 y0_5 y0_6 y0_8 y0_9 y0_10 y3_2 y3_3 y6_5 g_cur y_cur_words : Nat) (sz : Nat) (x0_11 : Int32) (x0_12 : Int32) (x1_1 : Int32) (x1_2 : Int32) (a2 : Nat → Option Nat) (x3_4 : Int32) (x3_5 : Int32) (x3_6 : Int32) (a4 : Nat → Int32) (a5 : Nat → Int32) (x6_0 : Int32) (x6_1 : Int32) (x6_2 : Int32) (a7 : Nat → Int32) (a8 : Nat → Int32) (F : Nat) (b1 : Int32) (hq_cur : (g_cur, h6, y_cur_words) ∈ gS G)  (r0 : Int32) (e_x3_4 : Int32) (e_x3_5 : Int32) (e_x3_6 : Int32) (e_a4 : Nat → Int32) (e_a5 : Nat → Int32) (hf : p_X10_change F g_cur x1_1 a2 x3_4 x3_5 x3_6 a4 a5 x6_0 x6_1 a7 a8 b1 = some (r0, e_x3_4, e_x3_5, e_x3_6, e_a4, e_a5)) : Met l yX10_change (.code yX10_change cX10_change 2 (some .int) :: gtbl) ({ frames := 4, cells := 0, slots := 0, locals := 96 } : Room) (PcS G [.ref h0, .int b1] (wW_X10_change G h0 h1 h2 h3 h4 h5 h6 h7 h8 y0_0 y0_1 y0_2 y0_4 y0_5 y0_6 y0_8 y0_9 y0_10 y3_2 y3_3 y6_5 x0_11 x0_12 x1_1 x1_2 a2 x3_4 x3_5 x3_6 a4 a5 x6_0 x6_1 x6_2 a7 a8) sz) (QiS G r0 (va_A (wW_X10_change G h0 h1 h2 h3 h4 h5 h6 h7 h8 y0_0 y0_1 y0_2 y0_4 y0_5 y0_6 y0_8 y0_9 y0_10 y3_2 y3_3 y6_5 x0_11 x0_12 x1_1 x1_2 a2 x3_4 x3_5 x3_6 a4 a5 x6_0 x6_1 x6_2 a7 a8) sz) (wW_X10_change G h0 h1 h2 h3 h4 h5 h6 h7 h8 y0_0 y0_1 y0_2 y0_4 y0_5 y0_6 y0_8 y0_9 y0_10 y3_2 y3_3 y6_5 x0_11 x0_12 x1_1 x1_2 a2 e_x3_4 e_x3_5 e_x3_6 e_a4 e_a5 x6_0 x6_1 x6_2 a7 a8)) 0 0 (va_A (wW_X10_change G h0 h1 h2 h3 h4 h5 h6 h7 h8 y0_0 y0_1 y0_2 y0_4 y0_5 y0_6 y0_8 y0_9 y0_10 y3_2 y3_3 y6_5 x0_11 x0_12 x1_1 x1_2 a2 x3_4 x3_5 x3_6 a4 a5 x6_0 x6_1 x6_2 a7 a8) sz) := by
  refine met_start (by decide) (Nat.le_of_ble_eq_true rfl) ?_
  intro p e s m below meth c hC hr hlk hnm hK hP hD hA hS hX ls hl
  obtain ⟨hx, hb, hml, hown, ht0⟩ := hC
  have hown : s.vm.findClass RX10 = some m.cls := hown
  generalize va_A (wW_X10_change G h0 h1 h2 h3 h4 h5 h6 h7 h8 y0_0 y0_1 y0_2 y0_4 y0_5 y0_6 y0_8 y0_9 y0_10 y3_2 y3_3 y6_5 x0_11 x0_12 x1_1 x1_2 a2 x3_4 x3_5 x3_6 a4 a5 x6_0 x6_1 x6_2 a7 a8) sz = A at hD hA hS hX ⊢
  have hl : lv_has ls 2 [(0, .ref h0), (1, .int b1)] := hl
  have hf : p_X10_change F g_cur x1_1 a2 x3_4 x3_5 x3_6 a4 a5 x6_0 x6_1 a7 a8 b1 = some (r0, e_x3_4, e_x3_5, e_x3_6, e_a4, e_a5) := hf
  refine lv_iload_n hx hb dX10_change_0 rfl (lv_at hl 1 rfl) ?_
  refine lv_if_lt (tgt := 9) hx hb dX10_change_1 (by decide) (fun c1 => ?_) (fun c1 => ?_)
  · have hf := of_pos hf c1
    refine lv_iconst (v := (-1 : Int32)) hx hb dX10_change_9 (by decide) ?_
    cases hf
    exact ret_i hx hb hr hlk hK hP hD hS dX10_change_10
  · have hf := of_neg hf c1
    refine lv_iload_n hx hb dX10_change_4 rfl (lv_at hl 1 rfl) ?_
    refine lv_iconst (v := (2 : Int32)) hx hb dX10_change_5 (by decide) ?_
    refine lv_icmp_le (tgt := 11) hx hb dX10_change_6 (by decide) (fun c2 => ?_) (fun c2 => ?_)
    · have hf := of_pos hf c2
      refine lv_aload_n hx hb dX10_change_11 rfl (lv_at hl 0 rfl) ?_
      refine va_get (ci := 10) (v := .ref h3) (C := RX10) (T := TX10) (N := 13) hx hb ht0 iX10 hown hK hP 0 rfl rfl 7 (by decide) (ht0 _ wd_547) (fun _ h9 => h9) rfl dX10_change_12 ?_
      refine lv_aload_n hx hb dX10_change_15 rfl (lv_at hl 0 rfl) ?_
      refine va_get (ci := 10) (v := .ref h1) (C := RX10) (T := TX10) (N := 13) hx hb ht0 iX10 hown hK hP 0 rfl rfl 3 (by decide) (ht0 _ wd_543) (fun _ h9 => h9) rfl dX10_change_16 ?_
      obtain ⟨_, hc_r_19_2, hf⟩ := of_bnd hf
      refine cl_Vr (w2 := (wW_X10_change G h0 h1 h2 h3 h4 h5 h6 h7 h8 y0_0 y0_1 y0_2 y0_4 y0_5 y0_6 y0_8 y0_9 y0_10 y3_2 y3_3 y6_5 x0_11 x0_12 x1_1 x1_2 a2 x3_4 x3_5 x3_6 a4 a5 x6_0 x6_1 x6_2 a7 a8)) (As := []) (rest := [.ref h3]) ⟨hx, hb, hml, hown, ht0⟩ (c_X8_now l G h1 h2 g_cur h6 y_cur_words _ x1_1 x1_2 a2 F hq_cur hc_r_19_2) yk_X8_now wd_531 ⟨rfl, rfl, by decide, by decide⟩ ⟨Nat.le_refl _, Nat.le_refl _⟩ hX hK hP hD hS hA [1, 2] [0, 3, 4, 5, 6, 7, 8] [0, 7, 8, 1, 2, 3, 4, 5, 6] (va_recv hK hP (ci := 8) (q0 := 1) rfl rfl) rfl rfl (by decide) rfl rfl rfl rfl rfl hl.1 rfl (Nat.le_of_ble_eq_true rfl) dX10_change_19 (fun H locs hP hD hS => ?_)
      refine vk_getf hx hb (hX.2.2 _ hq_cur).2.1 hS hown (ht0 _ wd_342) (fun _ h => h) dX10_change_22 ?_
      obtain ⟨⟨r_25_3_x0_4, r_25_3_x0_5, r_25_3_x0_6, r_25_3_a1, r_25_3_a2⟩, hc_r_25_3, hf⟩ := of_bnd hf
      refine cl_Vv (w2 := (wW_X10_change G h0 h1 h2 h3 h4 h5 h6 h7 h8 y0_0 y0_1 y0_2 y0_4 y0_5 y0_6 y0_8 y0_9 y0_10 y3_2 y3_3 y6_5 x0_11 x0_12 x1_1 x1_2 a2 r_25_3_x0_4 r_25_3_x0_5 r_25_3_x0_6 r_25_3_a1 r_25_3_a2 x6_0 x6_1 x6_2 a7 a8)) (As := [.ref h6]) (rest := []) ⟨hx, hb, hml, hown, ht0⟩ (c_X4_seekChange l G h3 h4 h5 h6 h7 h8 y3_2 y3_3 y6_5 _ x3_4 x3_5 x3_6 a4 a5 x6_0 x6_1 x6_2 a7 a8 F _ _ _ _ _ hc_r_25_3) yk_X4_seekChange wd_987 ⟨rfl, rfl, by decide, by decide⟩ ⟨Nat.le_refl _, Nat.le_refl _⟩ hX hK hP hD hS hA [3, 4, 5, 6, 7, 8] [0, 1, 2] [0, 1, 2, 3, 4, 5, 6, 7, 8] (va_recv hK hP (ci := 4) (q0 := 3) rfl rfl) rfl rfl (by decide) rfl rfl rfl rfl rfl hl.1 rfl (Nat.le_of_ble_eq_true rfl) dX10_change_25 (fun H locs hP hD hS => ?_)
      refine lv_aload_n hx hb dX10_change_28 rfl (lv_at hl 0 rfl) ?_
      refine va_get (ci := 10) (v := .ref h3) (C := RX10) (T := TX10) (N := 13) hx hb ht0 iX10 hown hK hP 0 rfl rfl 7 (by decide) (ht0 _ wd_547) (fun _ h9 => h9) rfl dX10_change_29 ?_
      refine lv_iload_n hx hb dX10_change_32 rfl (lv_at hl 1 rfl) ?_
      obtain ⟨r_33_4, hc_r_33_4, hf⟩ := of_bnd hf
      refine cl_Vi (w2 := (wW_X10_change G h0 h1 h2 h3 h4 h5 h6 h7 h8 y0_0 y0_1 y0_2 y0_4 y0_5 y0_6 y0_8 y0_9 y0_10 y3_2 y3_3 y6_5 x0_11 x0_12 x1_1 x1_2 a2 r_25_3_x0_4 r_25_3_x0_5 r_25_3_x0_6 r_25_3_a1 r_25_3_a2 x6_0 x6_1 x6_2 a7 a8)) (As := [.int b1]) (rest := []) ⟨hx, hb, hml, hown, ht0⟩ (c_X4_best l G h3 h4 h5 y3_2 y3_3 _ r_25_3_x0_4 r_25_3_x0_5 r_25_3_x0_6 F b1 _ hc_r_33_4) yk_X4_best wd_1109 ⟨rfl, rfl, by decide, by decide⟩ ⟨Nat.le_refl _, Nat.le_refl _⟩ hX hK hP hD hS hA [3] [0, 1, 2, 4, 5, 6, 7, 8] [0, 1, 2, 8, 3, 4, 5, 6, 7] (va_recv hK hP (ci := 4) (q0 := 3) rfl rfl) rfl rfl (by decide) rfl rfl rfl rfl rfl hl.1 rfl (Nat.le_of_ble_eq_true rfl) dX10_change_33 (fun H locs hP hD hS => ?_)
      cases hf
      exact ret_i hx hb hr hlk hK hP hD hS dX10_change_36
    · have hf := of_neg hf c2
      refine lv_iconst (v := (-1 : Int32)) hx hb dX10_change_9 (by decide) ?_
      cases hf
      exact ret_i hx hb hr hlk hK hP hD hS dX10_change_10
theorem yk_X10_change : ykV yX10_change RX10 cX10_change 2 (some .int) 1 := ⟨wd_1106, wd_1107, wd_127, wd_1108, rfl, by decide +kernel, by decide +kernel, by decide +kernel⟩
theorem dX10_gates_0 : decode cX10_gates 0 = .ok (.aload_n 0, 1) := by decide +kernel
theorem dX10_gates_1 : decode cX10_gates 1 = .ok (.getfield 29, 3) := by decide +kernel
theorem dX10_gates_4 : decode cX10_gates 4 = .ok (.invokevirtual 92, 3) := by decide +kernel
theorem dX10_gates_7 : decode cX10_gates 7 = .ok (.getfield 96, 3) := by decide +kernel
theorem dX10_gates_10 : decode cX10_gates 10 = .ok (.astore_n 2, 1) := by decide +kernel
theorem dX10_gates_11 : decode cX10_gates 11 = .ok (.iload_n 1, 1) := by decide +kernel
theorem dX10_gates_12 : decode cX10_gates 12 = .ok (.ifCond .lt 8, 3) := by decide +kernel
theorem dX10_gates_15 : decode cX10_gates 15 = .ok (.iload_n 1, 1) := by decide +kernel
theorem dX10_gates_16 : decode cX10_gates 16 = .ok (.iconst 3, 1) := by decide +kernel
theorem dX10_gates_17 : decode cX10_gates 17 = .ok (.if_icmp .le 5, 3) := by decide +kernel
theorem dX10_gates_20 : decode cX10_gates 20 = .ok (.iconst (-1), 1) := by decide +kernel
theorem dX10_gates_21 : decode cX10_gates 21 = .ok (.ireturn, 1) := by decide +kernel
theorem dX10_gates_22 : decode cX10_gates 22 = .ok (.iload_n 1, 1) := by decide +kernel
theorem dX10_gates_23 : decode cX10_gates 23 = .ok (.ifCond .ne 12, 3) := by decide +kernel
theorem dX10_gates_26 : decode cX10_gates 26 = .ok (.aload_n 0, 1) := by decide +kernel
theorem dX10_gates_27 : decode cX10_gates 27 = .ok (.getfield 61, 3) := by decide +kernel
theorem dX10_gates_30 : decode cX10_gates 30 = .ok (.aload_n 2, 1) := by decide +kernel
theorem dX10_gates_31 : decode cX10_gates 31 = .ok (.invokevirtual 322, 3) := by decide +kernel
theorem dX10_gates_34 : decode cX10_gates 34 = .ok (.ireturn, 1) := by decide +kernel
theorem dX10_gates_35 : decode cX10_gates 35 = .ok (.aload_n 0, 1) := by decide +kernel
theorem dX10_gates_36 : decode cX10_gates 36 = .ok (.getfield 61, 3) := by decide +kernel
theorem dX10_gates_39 : decode cX10_gates 39 = .ok (.aload_n 2, 1) := by decide +kernel
theorem dX10_gates_40 : decode cX10_gates 40 = .ok (.invokevirtual 325, 3) := by decide +kernel
theorem dX10_gates_43 : decode cX10_gates 43 = .ok (.iload_n 1, 1) := by decide +kernel
theorem dX10_gates_44 : decode cX10_gates 44 = .ok (.iconst 1, 1) := by decide +kernel
theorem dX10_gates_45 : decode cX10_gates 45 = .ok (.if_icmp .ne 11, 3) := by decide +kernel
theorem dX10_gates_48 : decode cX10_gates 48 = .ok (.aload_n 0, 1) := by decide +kernel
theorem dX10_gates_49 : decode cX10_gates 49 = .ok (.getfield 61, 3) := by decide +kernel
theorem dX10_gates_52 : decode cX10_gates 52 = .ok (.invokevirtual 328, 3) := by decide +kernel
theorem dX10_gates_55 : decode cX10_gates 55 = .ok (.ireturn, 1) := by decide +kernel
theorem dX10_gates_56 : decode cX10_gates 56 = .ok (.iload_n 1, 1) := by decide +kernel
theorem dX10_gates_57 : decode cX10_gates 57 = .ok (.iconst 2, 1) := by decide +kernel
theorem dX10_gates_58 : decode cX10_gates 58 = .ok (.if_icmp .ne 13, 3) := by decide +kernel
theorem dX10_gates_61 : decode cX10_gates 61 = .ok (.aload_n 0, 1) := by decide +kernel
theorem dX10_gates_62 : decode cX10_gates 62 = .ok (.getfield 61, 3) := by decide +kernel
theorem dX10_gates_65 : decode cX10_gates 65 = .ok (.invokevirtual 331, 3) := by decide +kernel
theorem dX10_gates_68 : decode cX10_gates 68 = .ok (.goto 10, 3) := by decide +kernel
theorem dX10_gates_71 : decode cX10_gates 71 = .ok (.aload_n 0, 1) := by decide +kernel
theorem dX10_gates_72 : decode cX10_gates 72 = .ok (.getfield 61, 3) := by decide +kernel
theorem dX10_gates_75 : decode cX10_gates 75 = .ok (.invokevirtual 334, 3) := by decide +kernel
theorem dX10_gates_78 : decode cX10_gates 78 = .ok (.ireturn, 1) := by decide +kernel
def wW_X10_gates (G : GG) (h0 h1 h2 h3 h4 h5 h6 h7 h8 h9 h10 h11 y0_0 y0_1 y0_2 y0_4 y0_5 y0_6 y0_7 y0_9 y0_10 y10_4 y10_5 : Nat) (x0_11 : Int32) (x0_12 : Int32) (x1_1 : Int32) (x1_2 : Int32) (a2 : Nat → Option Nat) (x3_6 : Int32) (x3_7 : Int32) (x3_8 : Int32) (a4 : Nat → Int32) (a5 : Nat → Int32) (a6 : Nat → Int32) (a7 : Nat → Int32) (a8 : Nat → Int32) (a9 : Nat → Int32) (x10_0 : Int32) (x10_1 : Int32) (x10_2 : Int32) (a11 : Nat → Int32) : va_W := [(h0, .inr (10, [.ref y0_0, .ref y0_1, .ref y0_2, .ref h1, .ref y0_4, .ref y0_5, .ref y0_6, .ref y0_7, .ref h3, .ref y0_9, .ref y0_10, .int x0_11, .int x0_12])), (h1, .inr (8, [.ref h2, .int x1_1, .int x1_2])), (h2, .inl (G.2.2.2.2.1, 13, .inr (.inr (.inr (.inr a2))))), (h3, .inr (5, [.ref h4, .ref h5, .ref h6, .ref h7, .ref h8, .ref h9, .int x3_6, .int x3_7, .int x3_8])), (h4, .inl (G.2.1, 128, .inl a4)), (h5, .inl (G.2.1, 128, .inl a5)), (h6, .inl (G.2.1, 128, .inl a6)), (h7, .inl (G.2.1, 128, .inl a7)), (h8, .inl (G.2.1, 128, .inl a8)), (h9, .inl (G.2.1, 128, .inl a9)), (h10, .inr (1, [.int x10_0, .int x10_1, .int x10_2, .ref h11, .ref y10_4, .ref y10_5])), (h11, .inl (G.2.1, 32, .inl a11))]
set_option maxHeartbeats 4000000 in
set_option maxRecDepth 100000 in
theorem c_X10_gates (l : Launch) (G : GG) (h0 h1 h2 h3 h4 h5 h6 h7 h8 h9 h10 h11 y0_0 y0_1 y0_2 y0_4 y0_5 y0_6 y0_7 y0_9 y0_10 y10_4 y10_5 g_cur y_cur_words : Nat) (sz : Nat) (x0_11 : Int32) (x0_12 : Int32) (x1_1 : Int32) (x1_2 : Int32) (a2 : Nat → Option Nat) (x3_6 : Int32) (x3_7 : Int32) (x3_8 : Int32) (a4 : Nat → Int32) (a5 : Nat → Int32) (a6 : Nat → Int32) (a7 : Nat → Int32) (a8 : Nat → Int32) (a9 : Nat → Int32) (x10_0 : Int32) (x10_1 : Int32) (x10_2 : Int32) (a11 : Nat → Int32) (F : Nat) (b1 : Int32) (hq_cur : (g_cur, h10, y_cur_words) ∈ gS G)  (r0 : Int32) (e_x3_6 : Int32) (e_x3_7 : Int32) (e_x3_8 : Int32) (e_a4 : Nat → Int32) (e_a5 : Nat → Int32) (e_a6 : Nat → Int32) (e_a7 : Nat → Int32) (e_a8 : Nat → Int32) (e_a9 : Nat → Int32) (hf : p_X10_gates F g_cur x1_1 a2 x3_6 x3_7 x3_8 a4 a5 a6 a7 a8 a9 x10_0 x10_1 a11 b1 = some (r0, e_x3_6, e_x3_7, e_x3_8, e_a4, e_a5, e_a6, e_a7, e_a8, e_a9)) : Met l yX10_gates (.code yX10_gates cX10_gates 3 (some .int) :: gtbl) ({ frames := 4, cells := 0, slots := 0, locals := 93 } : Room) (PcS G [.ref h0, .int b1] (wW_X10_gates G h0 h1 h2 h3 h4 h5 h6 h7 h8 h9 h10 h11 y0_0 y0_1 y0_2 y0_4 y0_5 y0_6 y0_7 y0_9 y0_10 y10_4 y10_5 x0_11 x0_12 x1_1 x1_2 a2 x3_6 x3_7 x3_8 a4 a5 a6 a7 a8 a9 x10_0 x10_1 x10_2 a11) sz) (QiS G r0 (va_A (wW_X10_gates G h0 h1 h2 h3 h4 h5 h6 h7 h8 h9 h10 h11 y0_0 y0_1 y0_2 y0_4 y0_5 y0_6 y0_7 y0_9 y0_10 y10_4 y10_5 x0_11 x0_12 x1_1 x1_2 a2 x3_6 x3_7 x3_8 a4 a5 a6 a7 a8 a9 x10_0 x10_1 x10_2 a11) sz) (wW_X10_gates G h0 h1 h2 h3 h4 h5 h6 h7 h8 h9 h10 h11 y0_0 y0_1 y0_2 y0_4 y0_5 y0_6 y0_7 y0_9 y0_10 y10_4 y10_5 x0_11 x0_12 x1_1 x1_2 a2 e_x3_6 e_x3_7 e_x3_8 e_a4 e_a5 e_a6 e_a7 e_a8 e_a9 x10_0 x10_1 x10_2 a11)) 0 0 (va_A (wW_X10_gates G h0 h1 h2 h3 h4 h5 h6 h7 h8 h9 h10 h11 y0_0 y0_1 y0_2 y0_4 y0_5 y0_6 y0_7 y0_9 y0_10 y10_4 y10_5 x0_11 x0_12 x1_1 x1_2 a2 x3_6 x3_7 x3_8 a4 a5 a6 a7 a8 a9 x10_0 x10_1 x10_2 a11) sz) := by
  refine met_start (by decide) (Nat.le_of_ble_eq_true rfl) ?_
  intro p e s m below meth c hC hr hlk hnm hK hP hD hA hS hX ls hl
  obtain ⟨hx, hb, hml, hown, ht0⟩ := hC
  have hown : s.vm.findClass RX10 = some m.cls := hown
  generalize va_A (wW_X10_gates G h0 h1 h2 h3 h4 h5 h6 h7 h8 h9 h10 h11 y0_0 y0_1 y0_2 y0_4 y0_5 y0_6 y0_7 y0_9 y0_10 y10_4 y10_5 x0_11 x0_12 x1_1 x1_2 a2 x3_6 x3_7 x3_8 a4 a5 a6 a7 a8 a9 x10_0 x10_1 x10_2 a11) sz = A at hD hA hS hX ⊢
  have hl : lv_has ls 3 [(0, .ref h0), (1, .int b1)] := hl
  have hf : p_X10_gates F g_cur x1_1 a2 x3_6 x3_7 x3_8 a4 a5 a6 a7 a8 a9 x10_0 x10_1 a11 b1 = some (r0, e_x3_6, e_x3_7, e_x3_8, e_a4, e_a5, e_a6, e_a7, e_a8, e_a9) := hf
  refine lv_aload_n hx hb dX10_gates_0 rfl (lv_at hl 0 rfl) ?_
  refine va_get (ci := 10) (v := .ref h1) (C := RX10) (T := TX10) (N := 13) hx hb ht0 iX10 hown hK hP 0 rfl rfl 3 (by decide) (ht0 _ wd_543) (fun _ h9 => h9) rfl dX10_gates_1 ?_
  obtain ⟨_, hc_r_4_0, hf⟩ := of_bnd hf
  refine cl_Vr (w2 := (wW_X10_gates G h0 h1 h2 h3 h4 h5 h6 h7 h8 h9 h10 h11 y0_0 y0_1 y0_2 y0_4 y0_5 y0_6 y0_7 y0_9 y0_10 y10_4 y10_5 x0_11 x0_12 x1_1 x1_2 a2 x3_6 x3_7 x3_8 a4 a5 a6 a7 a8 a9 x10_0 x10_1 x10_2 a11)) (As := []) (rest := []) ⟨hx, hb, hml, hown, ht0⟩ (c_X8_now l G h1 h2 g_cur h10 y_cur_words _ x1_1 x1_2 a2 F hq_cur hc_r_4_0) yk_X8_now wd_531 ⟨rfl, rfl, by decide, by decide⟩ ⟨Nat.le_refl _, Nat.le_refl _⟩ hX hK hP hD hS hA [1, 2] [0, 3, 4, 5, 6, 7, 8, 9, 10, 11] [0, 10, 11, 1, 2, 3, 4, 5, 6, 7, 8, 9] (va_recv hK hP (ci := 8) (q0 := 1) rfl rfl) rfl rfl (by decide) rfl rfl rfl rfl rfl hl.1 rfl (Nat.le_of_ble_eq_true rfl) dX10_gates_4 (fun H locs hP hD hS => ?_)
  refine vk_getf hx hb (hX.2.2 _ hq_cur).2.1 hS hown (ht0 _ wd_342) (fun _ h => h) dX10_gates_7 ?_
  refine lv_astore_n (lv' := [(2, .ref h10), (0, .ref h0), (1, .int b1)]) hx hb dX10_gates_10 rfl hl (by decide) rfl (fun ls hl => ?_)
  refine lv_iload_n hx hb dX10_gates_11 rfl (lv_at hl 2 rfl) ?_
  refine lv_if_lt (tgt := 20) hx hb dX10_gates_12 (by decide) (fun c2 => ?_) (fun c2 => ?_)
  · have hf := of_pos hf c2
    refine lv_iconst (v := (-1 : Int32)) hx hb dX10_gates_20 (by decide) ?_
    cases hf
    exact ret_i hx hb hr hlk hK hP hD hS dX10_gates_21
  · have hf := of_neg hf c2
    refine lv_iload_n hx hb dX10_gates_15 rfl (lv_at hl 2 rfl) ?_
    refine lv_iconst (v := (3 : Int32)) hx hb dX10_gates_16 (by decide) ?_
    refine lv_icmp_le (tgt := 22) hx hb dX10_gates_17 (by decide) (fun c3 => ?_) (fun c3 => ?_)
    · have hf := of_pos hf c3
      refine lv_iload_n hx hb dX10_gates_22 rfl (lv_at hl 2 rfl) ?_
      refine lv_if_ne (tgt := 35) hx hb dX10_gates_23 (by decide) (fun c4 => ?_) (fun c4 => ?_)
      · have hf := of_neg hf c4
        refine lv_aload_n hx hb dX10_gates_35 rfl (lv_at hl 1 rfl) ?_
        refine va_get (ci := 10) (v := .ref h3) (C := RX10) (T := TX10) (N := 13) hx hb ht0 iX10 hown hK hP 0 rfl rfl 8 (by decide) (ht0 _ wd_548) (fun _ h9 => h9) rfl dX10_gates_36 ?_
        refine lv_aload_n hx hb dX10_gates_39 rfl (lv_at hl 0 rfl) ?_
        obtain ⟨⟨r_40_4_x0_6, r_40_4_x0_7, r_40_4_x0_8, r_40_4_a1, r_40_4_a2, r_40_4_a3, r_40_4_a4, r_40_4_a5⟩, hc_r_40_4, hf⟩ := of_bnd hf
        refine cl_Vv (w2 := (wW_X10_gates G h0 h1 h2 h3 h4 h5 h6 h7 h8 h9 h10 h11 y0_0 y0_1 y0_2 y0_4 y0_5 y0_6 y0_7 y0_9 y0_10 y10_4 y10_5 x0_11 x0_12 x1_1 x1_2 a2 r_40_4_x0_6 r_40_4_x0_7 r_40_4_x0_8 r_40_4_a1 r_40_4_a2 r_40_4_a3 r_40_4_a4 r_40_4_a5 a9 x10_0 x10_1 x10_2 a11)) (As := [.ref h10]) (rest := []) ⟨hx, hb, hml, hown, ht0⟩ (c_X5_share l G h3 h4 h5 h6 h7 h8 h10 h11 h9 y10_4 y10_5 _ x3_6 x3_7 x3_8 a4 a5 a6 a7 a8 x10_0 x10_1 x10_2 a11 F _ _ _ _ _ _ _ _ hc_r_40_4) yk_X5_share wd_1123 ⟨rfl, rfl, by decide, by decide⟩ ⟨Nat.le_refl _, Nat.le_refl _⟩ hX hK hP hD hS hA [3, 4, 5, 6, 7, 8, 10, 11] [0, 1, 2, 9] [0, 1, 2, 4, 5, 6, 7, 8, 9, 3, 10, 11] (va_recv hK hP (ci := 5) (q0 := 3) rfl rfl) rfl rfl (by decide) rfl rfl rfl rfl rfl hl.1 rfl (Nat.le_of_ble_eq_true rfl) dX10_gates_40 (fun H locs hP hD hS => ?_)
        refine lv_iload_n hx hb dX10_gates_43 rfl (lv_at hl 2 rfl) ?_
        refine lv_iconst (v := (1 : Int32)) hx hb dX10_gates_44 (by decide) ?_
        refine lv_icmp_ne (tgt := 56) hx hb dX10_gates_45 (by decide) (fun c6 => ?_) (fun c6 => ?_)
        · have hf := of_neg hf c6
          refine lv_iload_n hx hb dX10_gates_56 rfl (lv_at hl 2 rfl) ?_
          refine lv_iconst (v := (2 : Int32)) hx hb dX10_gates_57 (by decide) ?_
          refine lv_icmp_ne (tgt := 71) hx hb dX10_gates_58 (by decide) (fun c7 => ?_) (fun c7 => ?_)
          · have hf := of_neg hf c7
            refine lv_aload_n hx hb dX10_gates_71 rfl (lv_at hl 1 rfl) ?_
            refine va_get (ci := 10) (v := .ref h3) (C := RX10) (T := TX10) (N := 13) hx hb ht0 iX10 hown hK hP 0 rfl rfl 8 (by decide) (ht0 _ wd_548) (fun _ h9 => h9) rfl dX10_gates_72 ?_
            obtain ⟨⟨r_75_7, r_75_7_a3⟩, hc_r_75_7, hf⟩ := of_bnd hf
            refine cl_Vi (w2 := (wW_X10_gates G h0 h1 h2 h3 h4 h5 h6 h7 h8 h9 h10 h11 y0_0 y0_1 y0_2 y0_4 y0_5 y0_6 y0_7 y0_9 y0_10 y10_4 y10_5 x0_11 x0_12 x1_1 x1_2 a2 r_40_4_x0_6 r_40_4_x0_7 r_40_4_x0_8 r_40_4_a1 r_40_4_a2 r_40_4_a3 r_40_4_a4 r_40_4_a5 r_75_7_a3 x10_0 x10_1 x10_2 a11)) (As := []) (rest := []) ⟨hx, hb, hml, hown, ht0⟩ (c_X5_deepestRow l G h3 h4 h5 h9 h6 h7 h8 _ r_40_4_x0_6 r_40_4_x0_7 r_40_4_x0_8 r_40_4_a1 r_40_4_a2 a9 F _ _ hc_r_75_7) yk_X5_deepestRow wd_1149 ⟨rfl, rfl, by decide, by decide⟩ ⟨Nat.le_refl _, Nat.le_refl _⟩ hX hK hP hD hS hA [3, 4, 5, 9] [0, 1, 2, 6, 7, 8, 10, 11] [0, 1, 2, 8, 9, 10, 3, 4, 5, 11, 6, 7] (va_recv hK hP (ci := 5) (q0 := 3) rfl rfl) rfl rfl (by decide) rfl rfl rfl rfl rfl hl.1 rfl (Nat.le_of_ble_eq_true rfl) dX10_gates_75 (fun H locs hP hD hS => ?_)
            cases hf
            exact ret_i hx hb hr hlk hK hP hD hS dX10_gates_78
          · have hf := of_pos hf c7
            refine lv_aload_n hx hb dX10_gates_61 rfl (lv_at hl 1 rfl) ?_
            refine va_get (ci := 10) (v := .ref h3) (C := RX10) (T := TX10) (N := 13) hx hb ht0 iX10 hown hK hP 0 rfl rfl 8 (by decide) (ht0 _ wd_548) (fun _ h9 => h9) rfl dX10_gates_62 ?_
            obtain ⟨r_65_8, hc_r_65_8, hf⟩ := of_bnd hf
            refine cl_Vi (w2 := (wW_X10_gates G h0 h1 h2 h3 h4 h5 h6 h7 h8 h9 h10 h11 y0_0 y0_1 y0_2 y0_4 y0_5 y0_6 y0_7 y0_9 y0_10 y10_4 y10_5 x0_11 x0_12 x1_1 x1_2 a2 r_40_4_x0_6 r_40_4_x0_7 r_40_4_x0_8 r_40_4_a1 r_40_4_a2 r_40_4_a3 r_40_4_a4 r_40_4_a5 a9 x10_0 x10_1 x10_2 a11)) (As := []) (rest := []) ⟨hx, hb, hml, hown, ht0⟩ (c_X5_countMore l G h3 h4 h5 h6 h7 h8 h9 _ r_40_4_x0_6 r_40_4_x0_7 r_40_4_x0_8 F _ hc_r_65_8) yk_X5_countMore wd_1148 ⟨rfl, rfl, by decide, by decide⟩ ⟨Nat.le_refl _, Nat.le_refl _⟩ hX hK hP hD hS hA [3] [0, 1, 2, 4, 5, 6, 7, 8, 9, 10, 11] [0, 1, 2, 11, 3, 4, 5, 6, 7, 8, 9, 10] (va_recv hK hP (ci := 5) (q0 := 3) rfl rfl) rfl rfl (by decide) rfl rfl rfl rfl rfl hl.1 rfl (Nat.le_of_ble_eq_true rfl) dX10_gates_65 (fun H locs hP hD hS => ?_)
            refine lv_goto (tgt := 78) hx hb dX10_gates_68 (by decide) ?_
            cases hf
            exact ret_i hx hb hr hlk hK hP hD hS dX10_gates_78
        · have hf := of_pos hf c6
          refine lv_aload_n hx hb dX10_gates_48 rfl (lv_at hl 1 rfl) ?_
          refine va_get (ci := 10) (v := .ref h3) (C := RX10) (T := TX10) (N := 13) hx hb ht0 iX10 hown hK hP 0 rfl rfl 8 (by decide) (ht0 _ wd_548) (fun _ h9 => h9) rfl dX10_gates_49 ?_
          obtain ⟨r_52_9, hc_r_52_9, hf⟩ := of_bnd hf
          refine cl_Vi (w2 := (wW_X10_gates G h0 h1 h2 h3 h4 h5 h6 h7 h8 h9 h10 h11 y0_0 y0_1 y0_2 y0_4 y0_5 y0_6 y0_7 y0_9 y0_10 y10_4 y10_5 x0_11 x0_12 x1_1 x1_2 a2 r_40_4_x0_6 r_40_4_x0_7 r_40_4_x0_8 r_40_4_a1 r_40_4_a2 r_40_4_a3 r_40_4_a4 r_40_4_a5 a9 x10_0 x10_1 x10_2 a11)) (As := []) (rest := []) ⟨hx, hb, hml, hown, ht0⟩ (c_X5_countGates l G h3 h4 h5 h6 h7 h8 h9 _ r_40_4_x0_6 r_40_4_x0_7 r_40_4_x0_8 r_40_4_a1 F _ hc_r_52_9) yk_X5_countGates wd_1136 ⟨rfl, rfl, by decide, by decide⟩ ⟨Nat.le_refl _, Nat.le_refl _⟩ hX hK hP hD hS hA [3, 4] [0, 1, 2, 5, 6, 7, 8, 9, 10, 11] [0, 1, 2, 10, 11, 3, 4, 5, 6, 7, 8, 9] (va_recv hK hP (ci := 5) (q0 := 3) rfl rfl) rfl rfl (by decide) rfl rfl rfl rfl rfl hl.1 rfl (Nat.le_of_ble_eq_true rfl) dX10_gates_52 (fun H locs hP hD hS => ?_)
          cases hf
          exact ret_i hx hb hr hlk hK hP hD hS dX10_gates_55
      · have hf := of_pos hf c4
        refine lv_aload_n hx hb dX10_gates_26 rfl (lv_at hl 1 rfl) ?_
        refine va_get (ci := 10) (v := .ref h3) (C := RX10) (T := TX10) (N := 13) hx hb ht0 iX10 hown hK hP 0 rfl rfl 8 (by decide) (ht0 _ wd_548) (fun _ h9 => h9) rfl dX10_gates_27 ?_
        refine lv_aload_n hx hb dX10_gates_30 rfl (lv_at hl 0 rfl) ?_
        obtain ⟨r_31_10, hc_r_31_10, hf⟩ := of_bnd hf
        refine cl_Vi (w2 := (wW_X10_gates G h0 h1 h2 h3 h4 h5 h6 h7 h8 h9 h10 h11 y0_0 y0_1 y0_2 y0_4 y0_5 y0_6 y0_7 y0_9 y0_10 y10_4 y10_5 x0_11 x0_12 x1_1 x1_2 a2 x3_6 x3_7 x3_8 a4 a5 a6 a7 a8 a9 x10_0 x10_1 x10_2 a11)) (As := [.ref h10]) (rest := []) ⟨hx, hb, hml, hown, ht0⟩ (c_X5_countPlainGates l G h3 h10 h11 y10_4 y10_5 _ x10_0 x10_1 x10_2 a11 F _ hc_r_31_10) yk_X5_countPlainGates wd_1117 ⟨rfl, rfl, by decide, by decide⟩ ⟨Nat.le_refl _, Nat.le_refl _⟩ hX hK hP hD hS hA [10, 11] [0, 1, 2, 3, 4, 5, 6, 7, 8, 9] [0, 1, 2, 3, 4, 5, 6, 7, 8, 9, 10, 11] (va_recv hK hP (ci := 5) (q0 := 3) rfl rfl) rfl rfl (by decide) rfl rfl rfl rfl rfl hl.1 rfl (Nat.le_of_ble_eq_true rfl) dX10_gates_31 (fun H locs hP hD hS => ?_)
        cases hf
        exact ret_i hx hb hr hlk hK hP hD hS dX10_gates_34
    · have hf := of_neg hf c3
      refine lv_iconst (v := (-1 : Int32)) hx hb dX10_gates_20 (by decide) ?_
      cases hf
      exact ret_i hx hb hr hlk hK hP hD hS dX10_gates_21
theorem yk_X10_gates : ykV yX10_gates RX10 cX10_gates 3 (some .int) 1 := ⟨wd_1114, wd_1115, wd_127, wd_1116, rfl, by decide +kernel, by decide +kernel, by decide +kernel⟩
theorem dX10_shared_0 : decode cX10_shared 0 = .ok (.iload_n 1, 1) := by decide +kernel
theorem dX10_shared_1 : decode cX10_shared 1 = .ok (.ifCond .lt 12, 3) := by decide +kernel
theorem dX10_shared_4 : decode cX10_shared 4 = .ok (.iload_n 2, 1) := by decide +kernel
theorem dX10_shared_5 : decode cX10_shared 5 = .ok (.ifCond .lt 8, 3) := by decide +kernel
theorem dX10_shared_8 : decode cX10_shared 8 = .ok (.iload_n 2, 1) := by decide +kernel
theorem dX10_shared_9 : decode cX10_shared 9 = .ok (.iconst 3, 1) := by decide +kernel
theorem dX10_shared_10 : decode cX10_shared 10 = .ok (.if_icmp .le 5, 3) := by decide +kernel
theorem dX10_shared_13 : decode cX10_shared 13 = .ok (.iconst (-1), 1) := by decide +kernel
theorem dX10_shared_14 : decode cX10_shared 14 = .ok (.ireturn, 1) := by decide +kernel
theorem dX10_shared_15 : decode cX10_shared 15 = .ok (.aload_n 0, 1) := by decide +kernel
theorem dX10_shared_16 : decode cX10_shared 16 = .ok (.getfield 61, 3) := by decide +kernel
theorem dX10_shared_19 : decode cX10_shared 19 = .ok (.aload_n 0, 1) := by decide +kernel
theorem dX10_shared_20 : decode cX10_shared 20 = .ok (.getfield 29, 3) := by decide +kernel
theorem dX10_shared_23 : decode cX10_shared 23 = .ok (.invokevirtual 92, 3) := by decide +kernel
theorem dX10_shared_26 : decode cX10_shared 26 = .ok (.getfield 96, 3) := by decide +kernel
theorem dX10_shared_29 : decode cX10_shared 29 = .ok (.invokevirtual 325, 3) := by decide +kernel
theorem dX10_shared_32 : decode cX10_shared 32 = .ok (.aload_n 0, 1) := by decide +kernel
theorem dX10_shared_33 : decode cX10_shared 33 = .ok (.getfield 61, 3) := by decide +kernel
theorem dX10_shared_36 : decode cX10_shared 36 = .ok (.iload_n 1, 1) := by decide +kernel
theorem dX10_shared_37 : decode cX10_shared 37 = .ok (.iload_n 2, 1) := by decide +kernel
theorem dX10_shared_38 : decode cX10_shared 38 = .ok (.invokevirtual 337, 3) := by decide +kernel
theorem dX10_shared_41 : decode cX10_shared 41 = .ok (.ireturn, 1) := by decide +kernel
def wW_X10_shared (G : GG) (h0 h1 h2 h3 h4 h5 h6 h7 h8 h9 h10 y0_0 y0_1 y0_2 y0_4 y0_5 y0_6 y0_7 y0_9 y0_10 y3_5 y9_4 y9_5 : Nat) (x0_11 : Int32) (x0_12 : Int32) (x1_1 : Int32) (x1_2 : Int32) (a2 : Nat → Option Nat) (x3_6 : Int32) (x3_7 : Int32) (x3_8 : Int32) (a4 : Nat → Int32) (a5 : Nat → Int32) (a6 : Nat → Int32) (a7 : Nat → Int32) (a8 : Nat → Int32) (x9_0 : Int32) (x9_1 : Int32) (x9_2 : Int32) (a10 : Nat → Int32) : va_W := [(h0, .inr (10, [.ref y0_0, .ref y0_1, .ref y0_2, .ref h1, .ref y0_4, .ref y0_5, .ref y0_6, .ref y0_7, .ref h3, .ref y0_9, .ref y0_10, .int x0_11, .int x0_12])), (h1, .inr (8, [.ref h2, .int x1_1, .int x1_2])), (h2, .inl (G.2.2.2.2.1, 13, .inr (.inr (.inr (.inr a2))))), (h3, .inr (5, [.ref h4, .ref h5, .ref h6, .ref h7, .ref h8, .ref y3_5, .int x3_6, .int x3_7, .int x3_8])), (h4, .inl (G.2.1, 128, .inl a4)), (h5, .inl (G.2.1, 128, .inl a5)), (h6, .inl (G.2.1, 128, .inl a6)), (h7, .inl (G.2.1, 128, .inl a7)), (h8, .inl (G.2.1, 128, .inl a8)), (h9, .inr (1, [.int x9_0, .int x9_1, .int x9_2, .ref h10, .ref y9_4, .ref y9_5])), (h10, .inl (G.2.1, 32, .inl a10))]
set_option maxHeartbeats 4000000 in
set_option maxRecDepth 100000 in
theorem c_X10_shared (l : Launch) (G : GG) (h0 h1 h2 h3 h4 h5 h6 h7 h8 h9 h10 y0_0 y0_1 y0_2 y0_4 y0_5 y0_6 y0_7 y0_9 y0_10 y3_5 y9_4 y9_5 g_cur y_cur_words : Nat) (sz : Nat) (x0_11 : Int32) (x0_12 : Int32) (x1_1 : Int32) (x1_2 : Int32) (a2 : Nat → Option Nat) (x3_6 : Int32) (x3_7 : Int32) (x3_8 : Int32) (a4 : Nat → Int32) (a5 : Nat → Int32) (a6 : Nat → Int32) (a7 : Nat → Int32) (a8 : Nat → Int32) (x9_0 : Int32) (x9_1 : Int32) (x9_2 : Int32) (a10 : Nat → Int32) (F : Nat) (b1 : Int32) (b2 : Int32) (hq_cur : (g_cur, h9, y_cur_words) ∈ gS G)  (r0 : Int32) (e_x3_6 : Int32) (e_x3_7 : Int32) (e_x3_8 : Int32) (e_a4 : Nat → Int32) (e_a5 : Nat → Int32) (e_a6 : Nat → Int32) (e_a7 : Nat → Int32) (e_a8 : Nat → Int32) (hf : p_X10_shared F g_cur x1_1 a2 x3_6 x3_7 x3_8 a4 a5 a6 a7 a8 x9_0 x9_1 a10 b1 b2 = some (r0, e_x3_6, e_x3_7, e_x3_8, e_a4, e_a5, e_a6, e_a7, e_a8)) : Met l yX10_shared (.code yX10_shared cX10_shared 3 (some .int) :: gtbl) ({ frames := 4, cells := 0, slots := 0, locals := 93 } : Room) (PcS G [.ref h0, .int b1, .int b2] (wW_X10_shared G h0 h1 h2 h3 h4 h5 h6 h7 h8 h9 h10 y0_0 y0_1 y0_2 y0_4 y0_5 y0_6 y0_7 y0_9 y0_10 y3_5 y9_4 y9_5 x0_11 x0_12 x1_1 x1_2 a2 x3_6 x3_7 x3_8 a4 a5 a6 a7 a8 x9_0 x9_1 x9_2 a10) sz) (QiS G r0 (va_A (wW_X10_shared G h0 h1 h2 h3 h4 h5 h6 h7 h8 h9 h10 y0_0 y0_1 y0_2 y0_4 y0_5 y0_6 y0_7 y0_9 y0_10 y3_5 y9_4 y9_5 x0_11 x0_12 x1_1 x1_2 a2 x3_6 x3_7 x3_8 a4 a5 a6 a7 a8 x9_0 x9_1 x9_2 a10) sz) (wW_X10_shared G h0 h1 h2 h3 h4 h5 h6 h7 h8 h9 h10 y0_0 y0_1 y0_2 y0_4 y0_5 y0_6 y0_7 y0_9 y0_10 y3_5 y9_4 y9_5 x0_11 x0_12 x1_1 x1_2 a2 e_x3_6 e_x3_7 e_x3_8 e_a4 e_a5 e_a6 e_a7 e_a8 x9_0 x9_1 x9_2 a10)) 0 0 (va_A (wW_X10_shared G h0 h1 h2 h3 h4 h5 h6 h7 h8 h9 h10 y0_0 y0_1 y0_2 y0_4 y0_5 y0_6 y0_7 y0_9 y0_10 y3_5 y9_4 y9_5 x0_11 x0_12 x1_1 x1_2 a2 x3_6 x3_7 x3_8 a4 a5 a6 a7 a8 x9_0 x9_1 x9_2 a10) sz) := by
  refine met_start (by decide) (Nat.le_of_ble_eq_true rfl) ?_
  intro p e s m below meth c hC hr hlk hnm hK hP hD hA hS hX ls hl
  obtain ⟨hx, hb, hml, hown, ht0⟩ := hC
  have hown : s.vm.findClass RX10 = some m.cls := hown
  generalize va_A (wW_X10_shared G h0 h1 h2 h3 h4 h5 h6 h7 h8 h9 h10 y0_0 y0_1 y0_2 y0_4 y0_5 y0_6 y0_7 y0_9 y0_10 y3_5 y9_4 y9_5 x0_11 x0_12 x1_1 x1_2 a2 x3_6 x3_7 x3_8 a4 a5 a6 a7 a8 x9_0 x9_1 x9_2 a10) sz = A at hD hA hS hX ⊢
  have hl : lv_has ls 3 [(0, .ref h0), (1, .int b1), (2, .int b2)] := hl
  have hf : p_X10_shared F g_cur x1_1 a2 x3_6 x3_7 x3_8 a4 a5 a6 a7 a8 x9_0 x9_1 a10 b1 b2 = some (r0, e_x3_6, e_x3_7, e_x3_8, e_a4, e_a5, e_a6, e_a7, e_a8) := hf
  refine lv_iload_n hx hb dX10_shared_0 rfl (lv_at hl 1 rfl) ?_
  refine lv_if_lt (tgt := 13) hx hb dX10_shared_1 (by decide) (fun c1 => ?_) (fun c1 => ?_)
  · have hf := of_pos hf c1
    refine lv_iconst (v := (-1 : Int32)) hx hb dX10_shared_13 (by decide) ?_
    cases hf
    exact ret_i hx hb hr hlk hK hP hD hS dX10_shared_14
  · have hf := of_neg hf c1
    refine lv_iload_n hx hb dX10_shared_4 rfl (lv_at hl 2 rfl) ?_
    refine lv_if_lt (tgt := 13) hx hb dX10_shared_5 (by decide) (fun c2 => ?_) (fun c2 => ?_)
    · have hf := of_pos hf c2
      refine lv_iconst (v := (-1 : Int32)) hx hb dX10_shared_13 (by decide) ?_
      cases hf
      exact ret_i hx hb hr hlk hK hP hD hS dX10_shared_14
    · have hf := of_neg hf c2
      refine lv_iload_n hx hb dX10_shared_8 rfl (lv_at hl 2 rfl) ?_
      refine lv_iconst (v := (3 : Int32)) hx hb dX10_shared_9 (by decide) ?_
      refine lv_icmp_le (tgt := 15) hx hb dX10_shared_10 (by decide) (fun c3 => ?_) (fun c3 => ?_)
      · have hf := of_pos hf c3
        refine lv_aload_n hx hb dX10_shared_15 rfl (lv_at hl 0 rfl) ?_
        refine va_get (ci := 10) (v := .ref h3) (C := RX10) (T := TX10) (N := 13) hx hb ht0 iX10 hown hK hP 0 rfl rfl 8 (by decide) (ht0 _ wd_548) (fun _ h9 => h9) rfl dX10_shared_16 ?_
        refine lv_aload_n hx hb dX10_shared_19 rfl (lv_at hl 0 rfl) ?_
        refine va_get (ci := 10) (v := .ref h1) (C := RX10) (T := TX10) (N := 13) hx hb ht0 iX10 hown hK hP 0 rfl rfl 3 (by decide) (ht0 _ wd_543) (fun _ h9 => h9) rfl dX10_shared_20 ?_
        obtain ⟨_, hc_r_23_3, hf⟩ := of_bnd hf
        refine cl_Vr (w2 := (wW_X10_shared G h0 h1 h2 h3 h4 h5 h6 h7 h8 h9 h10 y0_0 y0_1 y0_2 y0_4 y0_5 y0_6 y0_7 y0_9 y0_10 y3_5 y9_4 y9_5 x0_11 x0_12 x1_1 x1_2 a2 x3_6 x3_7 x3_8 a4 a5 a6 a7 a8 x9_0 x9_1 x9_2 a10)) (As := []) (rest := [.ref h3]) ⟨hx, hb, hml, hown, ht0⟩ (c_X8_now l G h1 h2 g_cur h9 y_cur_words _ x1_1 x1_2 a2 F hq_cur hc_r_23_3) yk_X8_now wd_531 ⟨rfl, rfl, by decide, by decide⟩ ⟨Nat.le_refl _, Nat.le_refl _⟩ hX hK hP hD hS hA [1, 2] [0, 3, 4, 5, 6, 7, 8, 9, 10] [0, 9, 10, 1, 2, 3, 4, 5, 6, 7, 8] (va_recv hK hP (ci := 8) (q0 := 1) rfl rfl) rfl rfl (by decide) rfl rfl rfl rfl rfl hl.1 rfl (Nat.le_of_ble_eq_true rfl) dX10_shared_23 (fun H locs hP hD hS => ?_)
        refine vk_getf hx hb (hX.2.2 _ hq_cur).2.1 hS hown (ht0 _ wd_342) (fun _ h => h) dX10_shared_26 ?_
        obtain ⟨⟨r_29_4_x0_6, r_29_4_x0_7, r_29_4_x0_8, r_29_4_a1, r_29_4_a2, r_29_4_a3, r_29_4_a4, r_29_4_a5⟩, hc_r_29_4, hf⟩ := of_bnd hf
        refine cl_Vv (w2 := (wW_X10_shared G h0 h1 h2 h3 h4 h5 h6 h7 h8 h9 h10 y0_0 y0_1 y0_2 y0_4 y0_5 y0_6 y0_7 y0_9 y0_10 y3_5 y9_4 y9_5 x0_11 x0_12 x1_1 x1_2 a2 r_29_4_x0_6 r_29_4_x0_7 r_29_4_x0_8 r_29_4_a1 r_29_4_a2 r_29_4_a3 r_29_4_a4 r_29_4_a5 x9_0 x9_1 x9_2 a10)) (As := [.ref h9]) (rest := []) ⟨hx, hb, hml, hown, ht0⟩ (c_X5_share l G h3 h4 h5 h6 h7 h8 h9 h10 y3_5 y9_4 y9_5 _ x3_6 x3_7 x3_8 a4 a5 a6 a7 a8 x9_0 x9_1 x9_2 a10 F _ _ _ _ _ _ _ _ hc_r_29_4) yk_X5_share wd_1123 ⟨rfl, rfl, by decide, by decide⟩ ⟨Nat.le_refl _, Nat.le_refl _⟩ hX hK hP hD hS hA [3, 4, 5, 6, 7, 8, 9, 10] [0, 1, 2] [0, 1, 2, 3, 4, 5, 6, 7, 8, 9, 10] (va_recv hK hP (ci := 5) (q0 := 3) rfl rfl) rfl rfl (by decide) rfl rfl rfl rfl rfl hl.1 rfl (Nat.le_of_ble_eq_true rfl) dX10_shared_29 (fun H locs hP hD hS => ?_)
        refine lv_aload_n hx hb dX10_shared_32 rfl (lv_at hl 0 rfl) ?_
        refine va_get (ci := 10) (v := .ref h3) (C := RX10) (T := TX10) (N := 13) hx hb ht0 iX10 hown hK hP 0 rfl rfl 8 (by decide) (ht0 _ wd_548) (fun _ h9 => h9) rfl dX10_shared_33 ?_
        refine lv_iload_n hx hb dX10_shared_36 rfl (lv_at hl 1 rfl) ?_
        refine lv_iload_n hx hb dX10_shared_37 rfl (lv_at hl 2 rfl) ?_
        obtain ⟨r_38_5, hc_r_38_5, hf⟩ := of_bnd hf
        refine cl_Vi (w2 := (wW_X10_shared G h0 h1 h2 h3 h4 h5 h6 h7 h8 h9 h10 y0_0 y0_1 y0_2 y0_4 y0_5 y0_6 y0_7 y0_9 y0_10 y3_5 y9_4 y9_5 x0_11 x0_12 x1_1 x1_2 a2 r_29_4_x0_6 r_29_4_x0_7 r_29_4_x0_8 r_29_4_a1 r_29_4_a2 r_29_4_a3 r_29_4_a4 r_29_4_a5 x9_0 x9_1 x9_2 a10)) (As := [.int b1, .int b2]) (rest := []) ⟨hx, hb, hml, hown, ht0⟩ (c_X5_told l G h3 h5 h6 h7 h8 h4 y3_5 _ r_29_4_x0_6 r_29_4_x0_7 r_29_4_x0_8 r_29_4_a2 r_29_4_a3 r_29_4_a4 r_29_4_a5 F b1 b2 _ hc_r_38_5) yk_X5_told wd_1162 ⟨rfl, rfl, by decide, by decide⟩ ⟨Nat.le_refl _, Nat.le_refl _⟩ hX hK hP hD hS hA [3, 5, 6, 7, 8] [0, 1, 2, 4, 9, 10] [0, 1, 2, 6, 3, 7, 8, 9, 10, 4, 5] (va_recv hK hP (ci := 5) (q0 := 3) rfl rfl) rfl rfl (by decide) rfl rfl rfl rfl rfl hl.1 rfl (Nat.le_of_ble_eq_true rfl) dX10_shared_38 (fun H locs hP hD hS => ?_)
        cases hf
        exact ret_i hx hb hr hlk hK hP hD hS dX10_shared_41
      · have hf := of_neg hf c3
        refine lv_iconst (v := (-1 : Int32)) hx hb dX10_shared_13 (by decide) ?_
        cases hf
        exact ret_i hx hb hr hlk hK hP hD hS dX10_shared_14
theorem yk_X10_shared : ykV yX10_shared RX10 cX10_shared 3 (some .int) 2 := ⟨wd_1159, wd_1160, wd_127, wd_1161, rfl, by decide +kernel, by decide +kernel, by decide +kernel⟩
theorem dX10_chip_0 : decode cX10_chip 0 = .ok (.aload_n 0, 1) := by decide +kernel
theorem dX10_chip_1 : decode cX10_chip 1 = .ok (.getfield 29, 3) := by decide +kernel
theorem dX10_chip_4 : decode cX10_chip 4 = .ok (.invokevirtual 92, 3) := by decide +kernel
theorem dX10_chip_7 : decode cX10_chip 7 = .ok (.getfield 96, 3) := by decide +kernel
theorem dX10_chip_10 : decode cX10_chip 10 = .ok (.astore_n 3, 1) := by decide +kernel
theorem dX10_chip_11 : decode cX10_chip 11 = .ok (.iload_n 2, 1) := by decide +kernel
theorem dX10_chip_12 : decode cX10_chip 12 = .ok (.ifCond .lt 21, 3) := by decide +kernel
theorem dX10_chip_15 : decode cX10_chip 15 = .ok (.iload_n 2, 1) := by decide +kernel
theorem dX10_chip_16 : decode cX10_chip 16 = .ok (.iconst 2, 1) := by decide +kernel
theorem dX10_chip_17 : decode cX10_chip 17 = .ok (.if_icmp .gt 16, 3) := by decide +kernel
theorem dX10_chip_20 : decode cX10_chip 20 = .ok (.iload_n 1, 1) := by decide +kernel
theorem dX10_chip_21 : decode cX10_chip 21 = .ok (.iconst (-1), 1) := by decide +kernel
theorem dX10_chip_22 : decode cX10_chip 22 = .ok (.if_icmp .lt 11, 3) := by decide +kernel
theorem dX10_chip_25 : decode cX10_chip 25 = .ok (.iload_n 1, 1) := by decide +kernel
theorem dX10_chip_26 : decode cX10_chip 26 = .ok (.aload_n 3, 1) := by decide +kernel
theorem dX10_chip_27 : decode cX10_chip 27 = .ok (.invokevirtual 340, 3) := by decide +kernel
theorem dX10_chip_30 : decode cX10_chip 30 = .ok (.if_icmp .lt 5, 3) := by decide +kernel
theorem dX10_chip_33 : decode cX10_chip 33 = .ok (.iconst (-1), 1) := by decide +kernel
theorem dX10_chip_34 : decode cX10_chip 34 = .ok (.ireturn, 1) := by decide +kernel
theorem dX10_chip_35 : decode cX10_chip 35 = .ok (.iload_n 1, 1) := by decide +kernel
theorem dX10_chip_36 : decode cX10_chip 36 = .ok (.iconst (-1), 1) := by decide +kernel
theorem dX10_chip_37 : decode cX10_chip 37 = .ok (.if_icmp .ne 15, 3) := by decide +kernel
theorem dX10_chip_40 : decode cX10_chip 40 = .ok (.aload_n 0, 1) := by decide +kernel
theorem dX10_chip_41 : decode cX10_chip 41 = .ok (.getfield 54, 3) := by decide +kernel
theorem dX10_chip_44 : decode cX10_chip 44 = .ok (.aload_n 3, 1) := by decide +kernel
theorem dX10_chip_45 : decode cX10_chip 45 = .ok (.iload_n 2, 1) := by decide +kernel
theorem dX10_chip_46 : decode cX10_chip 46 = .ok (.invokevirtual 343, 3) := by decide +kernel
theorem dX10_chip_49 : decode cX10_chip 49 = .ok (.goto 13, 3) := by decide +kernel
theorem dX10_chip_52 : decode cX10_chip 52 = .ok (.aload_n 0, 1) := by decide +kernel
theorem dX10_chip_53 : decode cX10_chip 53 = .ok (.getfield 54, 3) := by decide +kernel
theorem dX10_chip_56 : decode cX10_chip 56 = .ok (.aload_n 3, 1) := by decide +kernel
theorem dX10_chip_57 : decode cX10_chip 57 = .ok (.iload_n 1, 1) := by decide +kernel
theorem dX10_chip_58 : decode cX10_chip 58 = .ok (.iload_n 2, 1) := by decide +kernel
theorem dX10_chip_59 : decode cX10_chip 59 = .ok (.invokevirtual 346, 3) := by decide +kernel
theorem dX10_chip_62 : decode cX10_chip 62 = .ok (.ireturn, 1) := by decide +kernel
def wW_X10_chip (G : GG) (h0 h1 h2 h3 h4 h5 h6 h7 h8 y0_0 y0_1 y0_2 y0_4 y0_5 y0_6 y0_8 y0_9 y0_10 y3_0 y3_1 y3_2 : Nat) (x0_11 : Int32) (x0_12 : Int32) (x1_1 : Int32) (x1_2 : Int32) (a2 : Nat → Option Nat) (x3_4 : Int32) (x3_5 : Int32) (x3_6 : Int32) (x4_0 : Int32) (x4_1 : Int32) (x4_2 : Int32) (x5_0 : Int32) (x5_1 : Int32) (x5_2 : Int32) (a6 : Nat → Int32) (a7 : Nat → Int32) (a8 : Nat → Int32) : va_W := [(h0, .inr (10, [.ref y0_0, .ref y0_1, .ref y0_2, .ref h1, .ref y0_4, .ref y0_5, .ref y0_6, .ref h3, .ref y0_8, .ref y0_9, .ref y0_10, .int x0_11, .int x0_12])), (h1, .inr (8, [.ref h2, .int x1_1, .int x1_2])), (h2, .inl (G.2.2.2.2.1, 13, .inr (.inr (.inr (.inr a2))))), (h3, .inr (4, [.ref y3_0, .ref y3_1, .ref y3_2, .ref h4, .int x3_4, .int x3_5, .int x3_6])), (h4, .inr (2, [.int x4_0, .int x4_1, .int x4_2])), (h5, .inr (1, [.int x5_0, .int x5_1, .int x5_2, .ref h6, .ref h7, .ref h8])), (h6, .inl (G.2.1, 32, .inl a6)), (h7, .inl (G.2.1, 256, .inl a7)), (h8, .inl (G.2.1, 256, .inl a8))]
set_option maxHeartbeats 4000000 in
set_option maxRecDepth 100000 in
theorem c_X10_chip (l : Launch) (G : GG) (h0 h1 h2 h3 h4 h5 h6 h7 h8 y0_0 y0_1 y0_2 y0_4 y0_5 y0_6 y0_8 y0_9 y0_10 y3_0 y3_1 y3_2 g_cur y_cur_words : Nat) (sz : Nat) (x0_11 : Int32) (x0_12 : Int32) (x1_1 : Int32) (x1_2 : Int32) (a2 : Nat → Option Nat) (x3_4 : Int32) (x3_5 : Int32) (x3_6 : Int32) (x4_0 : Int32) (x4_1 : Int32) (x4_2 : Int32) (x5_0 : Int32) (x5_1 : Int32) (x5_2 : Int32) (a6 : Nat → Int32) (a7 : Nat → Int32) (a8 : Nat → Int32) (F : Nat) (b1 : Int32) (b2 : Int32) (hq_cur : (g_cur, h5, y_cur_words) ∈ gS G)  (r0 : Int32) (e_x4_0 : Int32) (e_x4_1 : Int32) (e_x4_2 : Int32) (hf : p_X10_chip F g_cur x1_1 a2 x4_0 x4_1 x4_2 x5_0 x5_1 x5_2 a6 a7 a8 b1 b2 = some (r0, e_x4_0, e_x4_1, e_x4_2)) : Met l yX10_chip (.code yX10_chip cX10_chip 4 (some .int) :: gtbl) ({ frames := 5, cells := 0, slots := 0, locals := 128 } : Room) (PcS G [.ref h0, .int b1, .int b2] (wW_X10_chip G h0 h1 h2 h3 h4 h5 h6 h7 h8 y0_0 y0_1 y0_2 y0_4 y0_5 y0_6 y0_8 y0_9 y0_10 y3_0 y3_1 y3_2 x0_11 x0_12 x1_1 x1_2 a2 x3_4 x3_5 x3_6 x4_0 x4_1 x4_2 x5_0 x5_1 x5_2 a6 a7 a8) sz) (QiS G r0 (va_A (wW_X10_chip G h0 h1 h2 h3 h4 h5 h6 h7 h8 y0_0 y0_1 y0_2 y0_4 y0_5 y0_6 y0_8 y0_9 y0_10 y3_0 y3_1 y3_2 x0_11 x0_12 x1_1 x1_2 a2 x3_4 x3_5 x3_6 x4_0 x4_1 x4_2 x5_0 x5_1 x5_2 a6 a7 a8) sz) (wW_X10_chip G h0 h1 h2 h3 h4 h5 h6 h7 h8 y0_0 y0_1 y0_2 y0_4 y0_5 y0_6 y0_8 y0_9 y0_10 y3_0 y3_1 y3_2 x0_11 x0_12 x1_1 x1_2 a2 x3_4 x3_5 x3_6 e_x4_0 e_x4_1 e_x4_2 x5_0 x5_1 x5_2 a6 a7 a8)) 0 0 (va_A (wW_X10_chip G h0 h1 h2 h3 h4 h5 h6 h7 h8 y0_0 y0_1 y0_2 y0_4 y0_5 y0_6 y0_8 y0_9 y0_10 y3_0 y3_1 y3_2 x0_11 x0_12 x1_1 x1_2 a2 x3_4 x3_5 x3_6 x4_0 x4_1 x4_2 x5_0 x5_1 x5_2 a6 a7 a8) sz) := by
  refine met_start (by decide) (Nat.le_of_ble_eq_true rfl) ?_
  intro p e s m below meth c hC hr hlk hnm hK hP hD hA hS hX ls hl
  obtain ⟨hx, hb, hml, hown, ht0⟩ := hC
  have hown : s.vm.findClass RX10 = some m.cls := hown
  generalize va_A (wW_X10_chip G h0 h1 h2 h3 h4 h5 h6 h7 h8 y0_0 y0_1 y0_2 y0_4 y0_5 y0_6 y0_8 y0_9 y0_10 y3_0 y3_1 y3_2 x0_11 x0_12 x1_1 x1_2 a2 x3_4 x3_5 x3_6 x4_0 x4_1 x4_2 x5_0 x5_1 x5_2 a6 a7 a8) sz = A at hD hA hS hX ⊢
  have hl : lv_has ls 4 [(0, .ref h0), (1, .int b1), (2, .int b2)] := hl
  have hf : p_X10_chip F g_cur x1_1 a2 x4_0 x4_1 x4_2 x5_0 x5_1 x5_2 a6 a7 a8 b1 b2 = some (r0, e_x4_0, e_x4_1, e_x4_2) := hf
  refine lv_aload_n hx hb dX10_chip_0 rfl (lv_at hl 0 rfl) ?_
  refine va_get (ci := 10) (v := .ref h1) (C := RX10) (T := TX10) (N := 13) hx hb ht0 iX10 hown hK hP 0 rfl rfl 3 (by decide) (ht0 _ wd_543) (fun _ h9 => h9) rfl dX10_chip_1 ?_
  obtain ⟨_, hc_r_4_0, hf⟩ := of_bnd hf
  refine cl_Vr (w2 := (wW_X10_chip G h0 h1 h2 h3 h4 h5 h6 h7 h8 y0_0 y0_1 y0_2 y0_4 y0_5 y0_6 y0_8 y0_9 y0_10 y3_0 y3_1 y3_2 x0_11 x0_12 x1_1 x1_2 a2 x3_4 x3_5 x3_6 x4_0 x4_1 x4_2 x5_0 x5_1 x5_2 a6 a7 a8)) (As := []) (rest := []) ⟨hx, hb, hml, hown, ht0⟩ (c_X8_now l G h1 h2 g_cur h5 y_cur_words _ x1_1 x1_2 a2 F hq_cur hc_r_4_0) yk_X8_now wd_531 ⟨rfl, rfl, by decide, by decide⟩ ⟨Nat.le_refl _, Nat.le_refl _⟩ hX hK hP hD hS hA [1, 2] [0, 3, 4, 5, 6, 7, 8] [0, 7, 8, 1, 2, 3, 4, 5, 6] (va_recv hK hP (ci := 8) (q0 := 1) rfl rfl) rfl rfl (by decide) rfl rfl rfl rfl rfl hl.1 rfl (Nat.le_of_ble_eq_true rfl) dX10_chip_4 (fun H locs hP hD hS => ?_)
  refine vk_getf hx hb (hX.2.2 _ hq_cur).2.1 hS hown (ht0 _ wd_342) (fun _ h => h) dX10_chip_7 ?_
  refine lv_astore_n (lv' := [(3, .ref h5), (0, .ref h0), (1, .int b1), (2, .int b2)]) hx hb dX10_chip_10 rfl hl (by decide) rfl (fun ls hl => ?_)
  refine lv_iload_n hx hb dX10_chip_11 rfl (lv_at hl 3 rfl) ?_
  refine lv_if_lt (tgt := 33) hx hb dX10_chip_12 (by decide) (fun c2 => ?_) (fun c2 => ?_)
  · have hf := of_pos hf c2
    refine lv_iconst (v := (-1 : Int32)) hx hb dX10_chip_33 (by decide) ?_
    cases hf
    exact ret_i hx hb hr hlk hK hP hD hS dX10_chip_34
  · have hf := of_neg hf c2
    refine lv_iload_n hx hb dX10_chip_15 rfl (lv_at hl 3 rfl) ?_
    refine lv_iconst (v := (2 : Int32)) hx hb dX10_chip_16 (by decide) ?_
    refine lv_icmp_gt (tgt := 33) hx hb dX10_chip_17 (by decide) (fun c3 => ?_) (fun c3 => ?_)
    · have hf := of_pos hf c3
      refine lv_iconst (v := (-1 : Int32)) hx hb dX10_chip_33 (by decide) ?_
      cases hf
      exact ret_i hx hb hr hlk hK hP hD hS dX10_chip_34
    · have hf := of_neg hf c3
      refine lv_iload_n hx hb dX10_chip_20 rfl (lv_at hl 2 rfl) ?_
      refine lv_iconst (v := (-1 : Int32)) hx hb dX10_chip_21 (by decide) ?_
      refine lv_icmp_lt (tgt := 33) hx hb dX10_chip_22 (by decide) (fun c4 => ?_) (fun c4 => ?_)
      · have hf := of_pos hf c4
        refine lv_iconst (v := (-1 : Int32)) hx hb dX10_chip_33 (by decide) ?_
        cases hf
        exact ret_i hx hb hr hlk hK hP hD hS dX10_chip_34
      · have hf := of_neg hf c4
        refine lv_iload_n hx hb dX10_chip_25 rfl (lv_at hl 2 rfl) ?_
        refine lv_aload_n hx hb dX10_chip_26 rfl (lv_at hl 0 rfl) ?_
        obtain ⟨r_27_4, hc_r_27_4, hf⟩ := of_bnd hf
        refine cl_Vi (w2 := (wW_X10_chip G h0 h1 h2 h3 h4 h5 h6 h7 h8 y0_0 y0_1 y0_2 y0_4 y0_5 y0_6 y0_8 y0_9 y0_10 y3_0 y3_1 y3_2 x0_11 x0_12 x1_1 x1_2 a2 x3_4 x3_5 x3_6 x4_0 x4_1 x4_2 x5_0 x5_1 x5_2 a6 a7 a8)) (As := []) (rest := [.int b1]) ⟨hx, hb, hml, hown, ht0⟩ (c_X1_chips l G h5 h6 h7 h8 _ x5_0 x5_1 x5_2 F _ hc_r_27_4) yk_X1_chips wd_1170 ⟨rfl, rfl, by decide, by decide⟩ ⟨Nat.le_refl _, Nat.le_refl _⟩ hX hK hP hD hS hA [5] [0, 1, 2, 3, 4, 6, 7, 8] [0, 1, 2, 3, 4, 8, 5, 6, 7] (va_recv hK hP (ci := 1) (q0 := 5) rfl rfl) rfl rfl (by decide) rfl rfl rfl rfl rfl hl.1 rfl (Nat.le_of_ble_eq_true rfl) dX10_chip_27 (fun H locs hP hD hS => ?_)
        refine lv_icmp_lt (tgt := 35) hx hb dX10_chip_30 (by decide) (fun c6 => ?_) (fun c6 => ?_)
        · have hf := of_pos hf c6
          refine lv_iload_n hx hb dX10_chip_35 rfl (lv_at hl 2 rfl) ?_
          refine lv_iconst (v := (-1 : Int32)) hx hb dX10_chip_36 (by decide) ?_
          refine lv_icmp_ne (tgt := 52) hx hb dX10_chip_37 (by decide) (fun c7 => ?_) (fun c7 => ?_)
          · have hf := of_neg hf c7
            refine lv_aload_n hx hb dX10_chip_52 rfl (lv_at hl 1 rfl) ?_
            refine va_get (ci := 10) (v := .ref h3) (C := RX10) (T := TX10) (N := 13) hx hb ht0 iX10 hown hK hP 0 rfl rfl 7 (by decide) (ht0 _ wd_547) (fun _ h9 => h9) rfl dX10_chip_53 ?_
            refine lv_aload_n hx hb dX10_chip_56 rfl (lv_at hl 0 rfl) ?_
            refine lv_iload_n hx hb dX10_chip_57 rfl (lv_at hl 2 rfl) ?_
            refine lv_iload_n hx hb dX10_chip_58 rfl (lv_at hl 3 rfl) ?_
            obtain ⟨⟨r_59_7, r_59_7_x1_0, r_59_7_x1_1, r_59_7_x1_2⟩, hc_r_59_7, hf⟩ := of_bnd hf
            refine cl_Vi (w2 := (wW_X10_chip G h0 h1 h2 h3 h4 h5 h6 h7 h8 y0_0 y0_1 y0_2 y0_4 y0_5 y0_6 y0_8 y0_9 y0_10 y3_0 y3_1 y3_2 x0_11 x0_12 x1_1 x1_2 a2 x3_4 x3_5 x3_6 r_59_7_x1_0 r_59_7_x1_1 r_59_7_x1_2 x5_0 x5_1 x5_2 a6 a7 a8)) (As := [.ref h5, .int b1, .int b2]) (rest := []) ⟨hx, hb, hml, hown, ht0⟩ (c_X4_countSets l G h3 h4 h5 h6 h7 h8 y3_0 y3_1 y3_2 _ x3_4 x3_5 x3_6 x4_0 x4_1 x4_2 x5_0 x5_1 x5_2 a6 a7 a8 F b1 b2 _ _ _ _ hc_r_59_7) yk_X4_countSets wd_1189 ⟨rfl, rfl, by decide, by decide⟩ ⟨Nat.le_refl _, Nat.le_refl _⟩ hX hK hP hD hS hA [3, 4, 5, 6, 7, 8] [0, 1, 2] [0, 1, 2, 3, 4, 5, 6, 7, 8] (va_recv hK hP (ci := 4) (q0 := 3) rfl rfl) rfl rfl (by decide) rfl rfl rfl rfl rfl hl.1 rfl (Nat.le_of_ble_eq_true rfl) dX10_chip_59 (fun H locs hP hD hS => ?_)
            cases hf
            exact ret_i hx hb hr hlk hK hP hD hS dX10_chip_62
          · have hf := of_pos hf c7
            refine lv_aload_n hx hb dX10_chip_40 rfl (lv_at hl 1 rfl) ?_
            refine va_get (ci := 10) (v := .ref h3) (C := RX10) (T := TX10) (N := 13) hx hb ht0 iX10 hown hK hP 0 rfl rfl 7 (by decide) (ht0 _ wd_547) (fun _ h9 => h9) rfl dX10_chip_41 ?_
            refine lv_aload_n hx hb dX10_chip_44 rfl (lv_at hl 0 rfl) ?_
            refine lv_iload_n hx hb dX10_chip_45 rfl (lv_at hl 3 rfl) ?_
            obtain ⟨⟨r_46_8, r_46_8_x1_0, r_46_8_x1_1, r_46_8_x1_2⟩, hc_r_46_8, hf⟩ := of_bnd hf
            refine cl_Vi (w2 := (wW_X10_chip G h0 h1 h2 h3 h4 h5 h6 h7 h8 y0_0 y0_1 y0_2 y0_4 y0_5 y0_6 y0_8 y0_9 y0_10 y3_0 y3_1 y3_2 x0_11 x0_12 x1_1 x1_2 a2 x3_4 x3_5 x3_6 r_46_8_x1_0 r_46_8_x1_1 r_46_8_x1_2 x5_0 x5_1 x5_2 a6 a7 a8)) (As := [.ref h5, .int b2]) (rest := []) ⟨hx, hb, hml, hown, ht0⟩ (c_X4_countAllSets l G h3 h4 h5 h6 h7 h8 y3_0 y3_1 y3_2 _ x3_4 x3_5 x3_6 x4_0 x4_1 x4_2 x5_0 x5_1 x5_2 a6 a7 a8 F b2 _ _ _ _ hc_r_46_8) yk_X4_countAllSets wd_1174 ⟨rfl, rfl, by decide, by decide⟩ ⟨Nat.le_refl _, Nat.le_refl _⟩ hX hK hP hD hS hA [3, 4, 5, 6, 7, 8] [0, 1, 2] [0, 1, 2, 3, 4, 5, 6, 7, 8] (va_recv hK hP (ci := 4) (q0 := 3) rfl rfl) rfl rfl (by decide) rfl rfl rfl rfl rfl hl.1 rfl (Nat.le_of_ble_eq_true rfl) dX10_chip_46 (fun H locs hP hD hS => ?_)
            refine lv_goto (tgt := 62) hx hb dX10_chip_49 (by decide) ?_
            cases hf
            exact ret_i hx hb hr hlk hK hP hD hS dX10_chip_62
        · have hf := of_neg hf c6
          refine lv_iconst (v := (-1 : Int32)) hx hb dX10_chip_33 (by decide) ?_
          cases hf
          exact ret_i hx hb hr hlk hK hP hD hS dX10_chip_34
theorem yk_X10_chip : ykV yX10_chip RX10 cX10_chip 4 (some .int) 2 := ⟨wd_1167, wd_1168, wd_127, wd_1169, rfl, by decide +kernel, by decide +kernel, by decide +kernel⟩
theorem dX10_exchange_0 : decode cX10_exchange 0 = .ok (.iload_n 1, 1) := by decide +kernel
theorem dX10_exchange_1 : decode cX10_exchange 1 = .ok (.ifCond .lt 8, 3) := by decide +kernel
theorem dX10_exchange_4 : decode cX10_exchange 4 = .ok (.iload_n 1, 1) := by decide +kernel
theorem dX10_exchange_5 : decode cX10_exchange 5 = .ok (.iconst 2, 1) := by decide +kernel
theorem dX10_exchange_6 : decode cX10_exchange 6 = .ok (.if_icmp .le 5, 3) := by decide +kernel
theorem dX10_exchange_9 : decode cX10_exchange 9 = .ok (.iconst (-1), 1) := by decide +kernel
theorem dX10_exchange_10 : decode cX10_exchange 10 = .ok (.ireturn, 1) := by decide +kernel
theorem dX10_exchange_11 : decode cX10_exchange 11 = .ok (.aload_n 0, 1) := by decide +kernel
theorem dX10_exchange_12 : decode cX10_exchange 12 = .ok (.getfield 54, 3) := by decide +kernel
theorem dX10_exchange_15 : decode cX10_exchange 15 = .ok (.aload_n 0, 1) := by decide +kernel
theorem dX10_exchange_16 : decode cX10_exchange 16 = .ok (.getfield 29, 3) := by decide +kernel
theorem dX10_exchange_19 : decode cX10_exchange 19 = .ok (.invokevirtual 92, 3) := by decide +kernel
theorem dX10_exchange_22 : decode cX10_exchange 22 = .ok (.getfield 96, 3) := by decide +kernel
theorem dX10_exchange_25 : decode cX10_exchange 25 = .ok (.invokevirtual 350, 3) := by decide +kernel
theorem dX10_exchange_28 : decode cX10_exchange 28 = .ok (.aload_n 0, 1) := by decide +kernel
theorem dX10_exchange_29 : decode cX10_exchange 29 = .ok (.getfield 54, 3) := by decide +kernel
theorem dX10_exchange_32 : decode cX10_exchange 32 = .ok (.iload_n 1, 1) := by decide +kernel
theorem dX10_exchange_33 : decode cX10_exchange 33 = .ok (.invokevirtual 319, 3) := by decide +kernel
theorem dX10_exchange_36 : decode cX10_exchange 36 = .ok (.ireturn, 1) := by decide +kernel
def wW_X10_exchange (G : GG) (h0 h1 h2 h3 h4 h5 h6 h7 h8 h9 h10 h11 h12 y0_0 y0_1 y0_2 y0_4 y0_5 y0_6 y0_8 y0_9 y0_10 y3_0 y3_1 : Nat) (x0_11 : Int32) (x0_12 : Int32) (x1_1 : Int32) (x1_2 : Int32) (a2 : Nat → Option Nat) (x3_4 : Int32) (x3_5 : Int32) (x3_6 : Int32) (x4_0 : Int32) (x4_1 : Int32) (x4_2 : Int32) (a5 : Nat → Int32) (a6 : Nat → Int32) (a7 : Nat → Int32) (x8_0 : Int32) (x8_1 : Int32) (x8_2 : Int32) (x9_0 : Int32) (x9_1 : Int32) (x9_2 : Int32) (a10 : Nat → Int32) (a11 : Nat → Int32) (a12 : Nat → Int32) : va_W := [(h0, .inr (10, [.ref y0_0, .ref y0_1, .ref y0_2, .ref h1, .ref y0_4, .ref y0_5, .ref y0_6, .ref h3, .ref y0_8, .ref y0_9, .ref y0_10, .int x0_11, .int x0_12])), (h1, .inr (8, [.ref h2, .int x1_1, .int x1_2])), (h2, .inl (G.2.2.2.2.1, 13, .inr (.inr (.inr (.inr a2))))), (h3, .inr (4, [.ref y3_0, .ref y3_1, .ref h4, .ref h8, .int x3_4, .int x3_5, .int x3_6])), (h4, .inr (1, [.int x4_0, .int x4_1, .int x4_2, .ref h5, .ref h6, .ref h7])), (h5, .inl (G.2.1, 32, .inl a5)), (h6, .inl (G.2.1, 256, .inl a6)), (h7, .inl (G.2.1, 256, .inl a7)), (h8, .inr (2, [.int x8_0, .int x8_1, .int x8_2])), (h9, .inr (1, [.int x9_0, .int x9_1, .int x9_2, .ref h10, .ref h11, .ref h12])), (h10, .inl (G.2.1, 32, .inl a10)), (h11, .inl (G.2.1, 256, .inl a11)), (h12, .inl (G.2.1, 256, .inl a12))]
set_option maxHeartbeats 4000000 in
set_option maxRecDepth 100000 in
theorem c_X10_exchange (l : Launch) (G : GG) (h0 h1 h2 h3 h4 h5 h6 h7 h8 h9 h10 h11 h12 y0_0 y0_1 y0_2 y0_4 y0_5 y0_6 y0_8 y0_9 y0_10 y3_0 y3_1 g_cur y_cur_words : Nat) (sz : Nat) (x0_11 : Int32) (x0_12 : Int32) (x1_1 : Int32) (x1_2 : Int32) (a2 : Nat → Option Nat) (x3_4 : Int32) (x3_5 : Int32) (x3_6 : Int32) (x4_0 : Int32) (x4_1 : Int32) (x4_2 : Int32) (a5 : Nat → Int32) (a6 : Nat → Int32) (a7 : Nat → Int32) (x8_0 : Int32) (x8_1 : Int32) (x8_2 : Int32) (x9_0 : Int32) (x9_1 : Int32) (x9_2 : Int32) (a10 : Nat → Int32) (a11 : Nat → Int32) (a12 : Nat → Int32) (F : Nat) (b1 : Int32) (hq_cur : (g_cur, h9, y_cur_words) ∈ gS G)  (r0 : Int32) (e_x3_4 : Int32) (e_x3_5 : Int32) (e_x3_6 : Int32) (e_x4_0 : Int32) (e_x4_1 : Int32) (e_x4_2 : Int32) (e_a5 : Nat → Int32) (e_a6 : Nat → Int32) (e_a7 : Nat → Int32) (e_x8_0 : Int32) (e_x8_1 : Int32) (e_x8_2 : Int32) (hf : p_X10_exchange F g_cur x1_1 a2 x3_4 x3_5 x3_6 x4_0 x4_1 x4_2 a5 a6 a7 x8_0 x8_1 x8_2 x9_0 x9_1 x9_2 a10 a11 a12 b1 = some (r0, e_x3_4, e_x3_5, e_x3_6, e_x4_0, e_x4_1, e_x4_2, e_a5, e_a6, e_a7, e_x8_0, e_x8_1, e_x8_2)) : Met l yX10_exchange (.code yX10_exchange cX10_exchange 2 (some .int) :: gtbl) ({ frames := 6, cells := 0, slots := 0, locals := 153 } : Room) (PcS G [.ref h0, .int b1] (wW_X10_exchange G h0 h1 h2 h3 h4 h5 h6 h7 h8 h9 h10 h11 h12 y0_0 y0_1 y0_2 y0_4 y0_5 y0_6 y0_8 y0_9 y0_10 y3_0 y3_1 x0_11 x0_12 x1_1 x1_2 a2 x3_4 x3_5 x3_6 x4_0 x4_1 x4_2 a5 a6 a7 x8_0 x8_1 x8_2 x9_0 x9_1 x9_2 a10 a11 a12) sz) (QiS G r0 (va_A (wW_X10_exchange G h0 h1 h2 h3 h4 h5 h6 h7 h8 h9 h10 h11 h12 y0_0 y0_1 y0_2 y0_4 y0_5 y0_6 y0_8 y0_9 y0_10 y3_0 y3_1 x0_11 x0_12 x1_1 x1_2 a2 x3_4 x3_5 x3_6 x4_0 x4_1 x4_2 a5 a6 a7 x8_0 x8_1 x8_2 x9_0 x9_1 x9_2 a10 a11 a12) sz) (wW_X10_exchange G h0 h1 h2 h3 h4 h5 h6 h7 h8 h9 h10 h11 h12 y0_0 y0_1 y0_2 y0_4 y0_5 y0_6 y0_8 y0_9 y0_10 y3_0 y3_1 x0_11 x0_12 x1_1 x1_2 a2 e_x3_4 e_x3_5 e_x3_6 e_x4_0 e_x4_1 e_x4_2 e_a5 e_a6 e_a7 e_x8_0 e_x8_1 e_x8_2 x9_0 x9_1 x9_2 a10 a11 a12)) 0 0 (va_A (wW_X10_exchange G h0 h1 h2 h3 h4 h5 h6 h7 h8 h9 h10 h11 h12 y0_0 y0_1 y0_2 y0_4 y0_5 y0_6 y0_8 y0_9 y0_10 y3_0 y3_1 x0_11 x0_12 x1_1 x1_2 a2 x3_4 x3_5 x3_6 x4_0 x4_1 x4_2 a5 a6 a7 x8_0 x8_1 x8_2 x9_0 x9_1 x9_2 a10 a11 a12) sz) := by
  refine met_start (by decide) (Nat.le_of_ble_eq_true rfl) ?_
  intro p e s m below meth c hC hr hlk hnm hK hP hD hA hS hX ls hl
  obtain ⟨hx, hb, hml, hown, ht0⟩ := hC
  have hown : s.vm.findClass RX10 = some m.cls := hown
  generalize va_A (wW_X10_exchange G h0 h1 h2 h3 h4 h5 h6 h7 h8 h9 h10 h11 h12 y0_0 y0_1 y0_2 y0_4 y0_5 y0_6 y0_8 y0_9 y0_10 y3_0 y3_1 x0_11 x0_12 x1_1 x1_2 a2 x3_4 x3_5 x3_6 x4_0 x4_1 x4_2 a5 a6 a7 x8_0 x8_1 x8_2 x9_0 x9_1 x9_2 a10 a11 a12) sz = A at hD hA hS hX ⊢
  have hl : lv_has ls 2 [(0, .ref h0), (1, .int b1)] := hl
  have hf : p_X10_exchange F g_cur x1_1 a2 x3_4 x3_5 x3_6 x4_0 x4_1 x4_2 a5 a6 a7 x8_0 x8_1 x8_2 x9_0 x9_1 x9_2 a10 a11 a12 b1 = some (r0, e_x3_4, e_x3_5, e_x3_6, e_x4_0, e_x4_1, e_x4_2, e_a5, e_a6, e_a7, e_x8_0, e_x8_1, e_x8_2) := hf
  refine lv_iload_n hx hb dX10_exchange_0 rfl (lv_at hl 1 rfl) ?_
  refine lv_if_lt (tgt := 9) hx hb dX10_exchange_1 (by decide) (fun c1 => ?_) (fun c1 => ?_)
  · have hf := of_pos hf c1
    refine lv_iconst (v := (-1 : Int32)) hx hb dX10_exchange_9 (by decide) ?_
    cases hf
    exact ret_i hx hb hr hlk hK hP hD hS dX10_exchange_10
  · have hf := of_neg hf c1
    refine lv_iload_n hx hb dX10_exchange_4 rfl (lv_at hl 1 rfl) ?_
    refine lv_iconst (v := (2 : Int32)) hx hb dX10_exchange_5 (by decide) ?_
    refine lv_icmp_le (tgt := 11) hx hb dX10_exchange_6 (by decide) (fun c2 => ?_) (fun c2 => ?_)
    · have hf := of_pos hf c2
      refine lv_aload_n hx hb dX10_exchange_11 rfl (lv_at hl 0 rfl) ?_
      refine va_get (ci := 10) (v := .ref h3) (C := RX10) (T := TX10) (N := 13) hx hb ht0 iX10 hown hK hP 0 rfl rfl 7 (by decide) (ht0 _ wd_547) (fun _ h9 => h9) rfl dX10_exchange_12 ?_
      refine lv_aload_n hx hb dX10_exchange_15 rfl (lv_at hl 0 rfl) ?_
      refine va_get (ci := 10) (v := .ref h1) (C := RX10) (T := TX10) (N := 13) hx hb ht0 iX10 hown hK hP 0 rfl rfl 3 (by decide) (ht0 _ wd_543) (fun _ h9 => h9) rfl dX10_exchange_16 ?_
      obtain ⟨_, hc_r_19_2, hf⟩ := of_bnd hf
      refine cl_Vr (w2 := (wW_X10_exchange G h0 h1 h2 h3 h4 h5 h6 h7 h8 h9 h10 h11 h12 y0_0 y0_1 y0_2 y0_4 y0_5 y0_6 y0_8 y0_9 y0_10 y3_0 y3_1 x0_11 x0_12 x1_1 x1_2 a2 x3_4 x3_5 x3_6 x4_0 x4_1 x4_2 a5 a6 a7 x8_0 x8_1 x8_2 x9_0 x9_1 x9_2 a10 a11 a12)) (As := []) (rest := [.ref h3]) ⟨hx, hb, hml, hown, ht0⟩ (c_X8_now l G h1 h2 g_cur h9 y_cur_words _ x1_1 x1_2 a2 F hq_cur hc_r_19_2) yk_X8_now wd_531 ⟨rfl, rfl, by decide, by decide⟩ ⟨Nat.le_refl _, Nat.le_refl _⟩ hX hK hP hD hS hA [1, 2] [0, 3, 4, 5, 6, 7, 8, 9, 10, 11, 12] [0, 11, 12, 1, 2, 3, 4, 5, 6, 7, 8, 9, 10] (va_recv hK hP (ci := 8) (q0 := 1) rfl rfl) rfl rfl (by decide) rfl rfl rfl rfl rfl hl.1 rfl (Nat.le_of_ble_eq_true rfl) dX10_exchange_19 (fun H locs hP hD hS => ?_)
      refine vk_getf hx hb (hX.2.2 _ hq_cur).2.1 hS hown (ht0 _ wd_342) (fun _ h => h) dX10_exchange_22 ?_
      obtain ⟨⟨r_25_3_x0_4, r_25_3_x0_5, r_25_3_x0_6, r_25_3_x1_0, r_25_3_x1_1, r_25_3_x1_2, r_25_3_a2, r_25_3_a3, r_25_3_a4, r_25_3_x5_0, r_25_3_x5_1, r_25_3_x5_2⟩, hc_r_25_3, hf⟩ := of_bnd hf
      refine cl_Vv (w2 := (wW_X10_exchange G h0 h1 h2 h3 h4 h5 h6 h7 h8 h9 h10 h11 h12 y0_0 y0_1 y0_2 y0_4 y0_5 y0_6 y0_8 y0_9 y0_10 y3_0 y3_1 x0_11 x0_12 x1_1 x1_2 a2 r_25_3_x0_4 r_25_3_x0_5 r_25_3_x0_6 r_25_3_x1_0 r_25_3_x1_1 r_25_3_x1_2 r_25_3_a2 r_25_3_a3 r_25_3_a4 r_25_3_x5_0 r_25_3_x5_1 r_25_3_x5_2 x9_0 x9_1 x9_2 a10 a11 a12)) (As := [.ref h9]) (rest := []) ⟨hx, hb, hml, hown, ht0⟩ (c_X4_seekExchange l G h3 h4 h5 h6 h7 h8 h9 h10 h11 h12 y3_0 y3_1 _ x3_4 x3_5 x3_6 x4_0 x4_1 x4_2 a5 a6 a7 x8_0 x8_1 x8_2 x9_0 x9_1 x9_2 a10 a11 a12 F _ _ _ _ _ _ _ _ _ _ _ _ hc_r_25_3) yk_X4_seekExchange wd_1194 ⟨rfl, rfl, by decide, by decide⟩ ⟨Nat.le_refl _, Nat.le_refl _⟩ hX hK hP hD hS hA [3, 4, 5, 6, 7, 8, 9, 10, 11, 12] [0, 1, 2] [0, 1, 2, 3, 4, 5, 6, 7, 8, 9, 10, 11, 12] (va_recv hK hP (ci := 4) (q0 := 3) rfl rfl) rfl rfl (by decide) rfl rfl rfl rfl rfl hl.1 rfl (Nat.le_of_ble_eq_true rfl) dX10_exchange_25 (fun H locs hP hD hS => ?_)
      refine lv_aload_n hx hb dX10_exchange_28 rfl (lv_at hl 0 rfl) ?_
      refine va_get (ci := 10) (v := .ref h3) (C := RX10) (T := TX10) (N := 13) hx hb ht0 iX10 hown hK hP 0 rfl rfl 7 (by decide) (ht0 _ wd_547) (fun _ h9 => h9) rfl dX10_exchange_29 ?_
      refine lv_iload_n hx hb dX10_exchange_32 rfl (lv_at hl 1 rfl) ?_
      obtain ⟨r_33_4, hc_r_33_4, hf⟩ := of_bnd hf
      refine cl_Vi (w2 := (wW_X10_exchange G h0 h1 h2 h3 h4 h5 h6 h7 h8 h9 h10 h11 h12 y0_0 y0_1 y0_2 y0_4 y0_5 y0_6 y0_8 y0_9 y0_10 y3_0 y3_1 x0_11 x0_12 x1_1 x1_2 a2 r_25_3_x0_4 r_25_3_x0_5 r_25_3_x0_6 r_25_3_x1_0 r_25_3_x1_1 r_25_3_x1_2 r_25_3_a2 r_25_3_a3 r_25_3_a4 r_25_3_x5_0 r_25_3_x5_1 r_25_3_x5_2 x9_0 x9_1 x9_2 a10 a11 a12)) (As := [.int b1]) (rest := []) ⟨hx, hb, hml, hown, ht0⟩ (c_X4_best l G h3 y3_0 y3_1 h4 h8 _ r_25_3_x0_4 r_25_3_x0_5 r_25_3_x0_6 F b1 _ hc_r_33_4) yk_X4_best wd_1109 ⟨rfl, rfl, by decide, by decide⟩ ⟨Nat.le_refl _, Nat.le_refl _⟩ hX hK hP hD hS hA [3] [0, 1, 2, 4, 5, 6, 7, 8, 9, 10, 11, 12] [0, 1, 2, 12, 3, 4, 5, 6, 7, 8, 9, 10, 11] (va_recv hK hP (ci := 4) (q0 := 3) rfl rfl) rfl rfl (by decide) rfl rfl rfl rfl rfl hl.1 rfl (Nat.le_of_ble_eq_true rfl) dX10_exchange_33 (fun H locs hP hD hS => ?_)
      cases hf
      exact ret_i hx hb hr hlk hK hP hD hS dX10_exchange_36
    · have hf := of_neg hf c2
      refine lv_iconst (v := (-1 : Int32)) hx hb dX10_exchange_9 (by decide) ?_
      cases hf
      exact ret_i hx hb hr hlk hK hP hD hS dX10_exchange_10
theorem yk_X10_exchange : ykV yX10_exchange RX10 cX10_exchange 2 (some .int) 1 := ⟨wd_1191, wd_1192, wd_127, wd_1193, rfl, by decide +kernel, by decide +kernel, by decide +kernel⟩
theorem dX10_columns_0 : decode cX10_columns 0 = .ok (.iload_n 1, 1) := by decide +kernel
theorem dX10_columns_1 : decode cX10_columns 1 = .ok (.iconst 3, 1) := by decide +kernel
theorem dX10_columns_2 : decode cX10_columns 2 = .ok (.if_icmp .eq 14, 3) := by decide +kernel
theorem dX10_columns_5 : decode cX10_columns 5 = .ok (.iload_n 1, 1) := by decide +kernel
theorem dX10_columns_6 : decode cX10_columns 6 = .ok (.iconst 5, 1) := by decide +kernel
theorem dX10_columns_7 : decode cX10_columns 7 = .ok (.if_icmp .eq 9, 3) := by decide +kernel
theorem dX10_columns_10 : decode cX10_columns 10 = .ok (.iload_n 1, 1) := by decide +kernel
theorem dX10_columns_11 : decode cX10_columns 11 = .ok (.bipush 7, 2) := by decide +kernel
theorem dX10_columns_13 : decode cX10_columns 13 = .ok (.if_icmp .ne 12, 3) := by decide +kernel
theorem dX10_columns_16 : decode cX10_columns 16 = .ok (.iload_n 2, 1) := by decide +kernel
theorem dX10_columns_17 : decode cX10_columns 17 = .ok (.ifCond .lt 8, 3) := by decide +kernel
theorem dX10_columns_20 : decode cX10_columns 20 = .ok (.iload_n 2, 1) := by decide +kernel
theorem dX10_columns_21 : decode cX10_columns 21 = .ok (.iconst 1, 1) := by decide +kernel
theorem dX10_columns_22 : decode cX10_columns 22 = .ok (.if_icmp .le 5, 3) := by decide +kernel
theorem dX10_columns_25 : decode cX10_columns 25 = .ok (.iconst (-1), 1) := by decide +kernel
theorem dX10_columns_26 : decode cX10_columns 26 = .ok (.ireturn, 1) := by decide +kernel
theorem dX10_columns_27 : decode cX10_columns 27 = .ok (.aload_n 0, 1) := by decide +kernel
theorem dX10_columns_28 : decode cX10_columns 28 = .ok (.getfield 29, 3) := by decide +kernel
theorem dX10_columns_31 : decode cX10_columns 31 = .ok (.invokevirtual 92, 3) := by decide +kernel
theorem dX10_columns_34 : decode cX10_columns 34 = .ok (.getfield 96, 3) := by decide +kernel
theorem dX10_columns_37 : decode cX10_columns 37 = .ok (.iload_n 1, 1) := by decide +kernel
theorem dX10_columns_38 : decode cX10_columns 38 = .ok (.iload_n 2, 1) := by decide +kernel
theorem dX10_columns_39 : decode cX10_columns 39 = .ok (.iconst 1, 1) := by decide +kernel
theorem dX10_columns_40 : decode cX10_columns 40 = .ok (.if_icmp .ne 7, 3) := by decide +kernel
theorem dX10_columns_43 : decode cX10_columns 43 = .ok (.iconst 1, 1) := by decide +kernel
theorem dX10_columns_44 : decode cX10_columns 44 = .ok (.goto 4, 3) := by decide +kernel
theorem dX10_columns_47 : decode cX10_columns 47 = .ok (.iconst 0, 1) := by decide +kernel
theorem dX10_columns_48 : decode cX10_columns 48 = .ok (.invokevirtual 356, 3) := by decide +kernel
theorem dX10_columns_51 : decode cX10_columns 51 = .ok (.ireturn, 1) := by decide +kernel
def wW_X10_columns (G : GG) (h0 h1 h2 h3 h4 y0_0 y0_1 y0_2 y0_4 y0_5 y0_6 y0_7 y0_8 y0_9 y0_10 y3_3 y3_5 : Nat) (x0_11 : Int32) (x0_12 : Int32) (x1_1 : Int32) (x1_2 : Int32) (a2 : Nat → Option Nat) (x3_0 : Int32) (x3_1 : Int32) (x3_2 : Int32) (a4 : Nat → Int32) : va_W := [(h0, .inr (10, [.ref y0_0, .ref y0_1, .ref y0_2, .ref h1, .ref y0_4, .ref y0_5, .ref y0_6, .ref y0_7, .ref y0_8, .ref y0_9, .ref y0_10, .int x0_11, .int x0_12])), (h1, .inr (8, [.ref h2, .int x1_1, .int x1_2])), (h2, .inl (G.2.2.2.2.1, 13, .inr (.inr (.inr (.inr a2))))), (h3, .inr (1, [.int x3_0, .int x3_1, .int x3_2, .ref y3_3, .ref h4, .ref y3_5])), (h4, .inl (G.2.1, 256, .inl a4))]
set_option maxHeartbeats 4000000 in
set_option maxRecDepth 100000 in
theorem c_X10_columns (l : Launch) (G : GG) (h0 h1 h2 h3 h4 y0_0 y0_1 y0_2 y0_4 y0_5 y0_6 y0_7 y0_8 y0_9 y0_10 y3_3 y3_5 g_cur y_cur_words : Nat) (sz : Nat) (x0_11 : Int32) (x0_12 : Int32) (x1_1 : Int32) (x1_2 : Int32) (a2 : Nat → Option Nat) (x3_0 : Int32) (x3_1 : Int32) (x3_2 : Int32) (a4 : Nat → Int32) (F : Nat) (b1 : Int32) (b2 : Int32) (hq_cur : (g_cur, h3, y_cur_words) ∈ gS G)  (r0 : Int32) (hf : p_X10_columns F g_cur x1_1 a2 x3_1 a4 b1 b2 = some r0) : Met l yX10_columns (.code yX10_columns cX10_columns 3 (some .int) :: gtbl) ({ frames := 2, cells := 0, slots := 0, locals := 45 } : Room) (PcS G [.ref h0, .int b1, .int b2] (wW_X10_columns G h0 h1 h2 h3 h4 y0_0 y0_1 y0_2 y0_4 y0_5 y0_6 y0_7 y0_8 y0_9 y0_10 y3_3 y3_5 x0_11 x0_12 x1_1 x1_2 a2 x3_0 x3_1 x3_2 a4) sz) (QiS G r0 (va_A (wW_X10_columns G h0 h1 h2 h3 h4 y0_0 y0_1 y0_2 y0_4 y0_5 y0_6 y0_7 y0_8 y0_9 y0_10 y3_3 y3_5 x0_11 x0_12 x1_1 x1_2 a2 x3_0 x3_1 x3_2 a4) sz) (wW_X10_columns G h0 h1 h2 h3 h4 y0_0 y0_1 y0_2 y0_4 y0_5 y0_6 y0_7 y0_8 y0_9 y0_10 y3_3 y3_5 x0_11 x0_12 x1_1 x1_2 a2 x3_0 x3_1 x3_2 a4)) 0 0 (va_A (wW_X10_columns G h0 h1 h2 h3 h4 y0_0 y0_1 y0_2 y0_4 y0_5 y0_6 y0_7 y0_8 y0_9 y0_10 y3_3 y3_5 x0_11 x0_12 x1_1 x1_2 a2 x3_0 x3_1 x3_2 a4) sz) := by
  refine met_start (by decide) (Nat.le_of_ble_eq_true rfl) ?_
  intro p e s m below meth c hC hr hlk hnm hK hP hD hA hS hX ls hl
  obtain ⟨hx, hb, hml, hown, ht0⟩ := hC
  have hown : s.vm.findClass RX10 = some m.cls := hown
  generalize va_A (wW_X10_columns G h0 h1 h2 h3 h4 y0_0 y0_1 y0_2 y0_4 y0_5 y0_6 y0_7 y0_8 y0_9 y0_10 y3_3 y3_5 x0_11 x0_12 x1_1 x1_2 a2 x3_0 x3_1 x3_2 a4) sz = A at hD hA hS hX ⊢
  have hl : lv_has ls 3 [(0, .ref h0), (1, .int b1), (2, .int b2)] := hl
  have hf : p_X10_columns F g_cur x1_1 a2 x3_1 a4 b1 b2 = some r0 := hf
  have kJ48 : ∀ (s48_1 : Int32) (s48_2 : Int32), p_X10_columns_J48 F g_cur x1_1 a2 x3_1 a4 s48_1 s48_2 = some r0 → ∀ (H : Heap) (locs : List Loc), va_P G.1 vwCl (wW_X10_columns G h0 h1 h2 h3 h4 y0_0 y0_1 y0_2 y0_4 y0_5 y0_6 y0_7 y0_8 y0_9 y0_10 y3_3 y3_5 x0_11 x0_12 x1_1 x1_2 a2 x3_0 x3_1 x3_2 a4) H → va_D A (wW_X10_columns G h0 h1 h2 h3 h4 y0_0 y0_1 y0_2 y0_4 y0_5 y0_6 y0_7 y0_8 y0_9 y0_10 y3_3 y3_5 x0_11 x0_12 x1_1 x1_2 a2 x3_0 x3_1 x3_2 a4) → va_S A s.heap H locs → ∀ ls : Array Slot, lv_has ls 3 [] → W p l e ({ frames := 2, cells := 0, slots := 0, locals := 45 } : Room) s m (List.toArray [.ref h0, .int b1, .int b2]) below meth c H locs 0 0 (MQ below (QiS G r0 A (wW_X10_columns G h0 h1 h2 h3 h4 y0_0 y0_1 y0_2 y0_4 y0_5 y0_6 y0_7 y0_8 y0_9 y0_10 y3_3 y3_5 x0_11 x0_12 x1_1 x1_2 a2 x3_0 x3_1 x3_2 a4)) (List.toArray [.ref h0, .int b1, .int b2]) s 0 0 A) (F0 m 48 ls [.int s48_2, .int s48_1, .ref h3]) := by
    intro s48_1 s48_2 hf H locs hP hD hS ls hl
    obtain ⟨r_48_0, hc_r_48_0, hf⟩ := of_bnd hf
    refine cl_Vi (w2 := (wW_X10_columns G h0 h1 h2 h3 h4 y0_0 y0_1 y0_2 y0_4 y0_5 y0_6 y0_7 y0_8 y0_9 y0_10 y3_3 y3_5 x0_11 x0_12 x1_1 x1_2 a2 x3_0 x3_1 x3_2 a4)) (As := [.int s48_1, .int s48_2]) (rest := []) ⟨hx, hb, hml, hown, ht0⟩ (c_X1_countColumns l G h3 h4 y3_3 y3_5 _ x3_0 x3_1 x3_2 a4 F s48_1 s48_2 _ hc_r_48_0) yk_X1_countColumns wd_1212 ⟨rfl, rfl, by decide, by decide⟩ ⟨Nat.le_refl _, Nat.le_refl _⟩ hX hK hP hD hS hA [3, 4] [0, 1, 2] [0, 1, 2, 3, 4] (va_recv hK hP (ci := 1) (q0 := 3) rfl rfl) rfl rfl (by decide) rfl rfl rfl rfl rfl hl.1 rfl (Nat.le_of_ble_eq_true rfl) dX10_columns_48 (fun H locs hP hD hS => ?_)
    cases hf
    exact ret_i hx hb hr hlk hK hP hD hS dX10_columns_51
  have kJ16 : ∀ (u16_1 : Int32) (u16_2 : Int32), p_X10_columns_J16 F g_cur x1_1 a2 x3_1 a4 u16_1 u16_2 = some r0 → ∀ (H : Heap) (locs : List Loc), va_P G.1 vwCl (wW_X10_columns G h0 h1 h2 h3 h4 y0_0 y0_1 y0_2 y0_4 y0_5 y0_6 y0_7 y0_8 y0_9 y0_10 y3_3 y3_5 x0_11 x0_12 x1_1 x1_2 a2 x3_0 x3_1 x3_2 a4) H → va_D A (wW_X10_columns G h0 h1 h2 h3 h4 y0_0 y0_1 y0_2 y0_4 y0_5 y0_6 y0_7 y0_8 y0_9 y0_10 y3_3 y3_5 x0_11 x0_12 x1_1 x1_2 a2 x3_0 x3_1 x3_2 a4) → va_S A s.heap H locs → ∀ ls : Array Slot, lv_has ls 3 [(0, .ref h0), (1, .int u16_1), (2, .int u16_2)] → W p l e ({ frames := 2, cells := 0, slots := 0, locals := 45 } : Room) s m (List.toArray [.ref h0, .int b1, .int b2]) below meth c H locs 0 0 (MQ below (QiS G r0 A (wW_X10_columns G h0 h1 h2 h3 h4 y0_0 y0_1 y0_2 y0_4 y0_5 y0_6 y0_7 y0_8 y0_9 y0_10 y3_3 y3_5 x0_11 x0_12 x1_1 x1_2 a2 x3_0 x3_1 x3_2 a4)) (List.toArray [.ref h0, .int b1, .int b2]) s 0 0 A) (F0 m 16 ls []) := by
    intro u16_1 u16_2 hf H locs hP hD hS ls hl
    refine lv_iload_n hx hb dX10_columns_16 rfl (lv_at hl 2 rfl) ?_
    refine lv_if_lt (tgt := 25) hx hb dX10_columns_17 (by decide) (fun c2 => ?_) (fun c2 => ?_)
    · have hf := of_pos hf c2
      refine lv_iconst (v := (-1 : Int32)) hx hb dX10_columns_25 (by decide) ?_
      cases hf
      exact ret_i hx hb hr hlk hK hP hD hS dX10_columns_26
    · have hf := of_neg hf c2
      refine lv_iload_n hx hb dX10_columns_20 rfl (lv_at hl 2 rfl) ?_
      refine lv_iconst (v := (1 : Int32)) hx hb dX10_columns_21 (by decide) ?_
      refine lv_icmp_le (tgt := 27) hx hb dX10_columns_22 (by decide) (fun c3 => ?_) (fun c3 => ?_)
      · have hf := of_pos hf c3
        refine lv_aload_n hx hb dX10_columns_27 rfl (lv_at hl 0 rfl) ?_
        refine va_get (ci := 10) (v := .ref h1) (C := RX10) (T := TX10) (N := 13) hx hb ht0 iX10 hown hK hP 0 rfl rfl 3 (by decide) (ht0 _ wd_543) (fun _ h9 => h9) rfl dX10_columns_28 ?_
        obtain ⟨_, hc_r_31_3, hf⟩ := of_bnd hf
        refine cl_Vr (w2 := (wW_X10_columns G h0 h1 h2 h3 h4 y0_0 y0_1 y0_2 y0_4 y0_5 y0_6 y0_7 y0_8 y0_9 y0_10 y3_3 y3_5 x0_11 x0_12 x1_1 x1_2 a2 x3_0 x3_1 x3_2 a4)) (As := []) (rest := []) ⟨hx, hb, hml, hown, ht0⟩ (c_X8_now l G h1 h2 g_cur h3 y_cur_words _ x1_1 x1_2 a2 F hq_cur hc_r_31_3) yk_X8_now wd_531 ⟨rfl, rfl, by decide, by decide⟩ ⟨Nat.le_refl _, Nat.le_refl _⟩ hX hK hP hD hS hA [1, 2] [0, 3, 4] [0, 3, 4, 1, 2] (va_recv hK hP (ci := 8) (q0 := 1) rfl rfl) rfl rfl (by decide) rfl rfl rfl rfl rfl hl.1 rfl (Nat.le_of_ble_eq_true rfl) dX10_columns_31 (fun H locs hP hD hS => ?_)
        refine vk_getf hx hb (hX.2.2 _ hq_cur).2.1 hS hown (ht0 _ wd_342) (fun _ h => h) dX10_columns_34 ?_
        refine lv_iload_n hx hb dX10_columns_37 rfl (lv_at hl 1 rfl) ?_
        refine lv_iload_n hx hb dX10_columns_38 rfl (lv_at hl 2 rfl) ?_
        refine lv_iconst (v := (1 : Int32)) hx hb dX10_columns_39 (by decide) ?_
        refine lv_icmp_ne (tgt := 47) hx hb dX10_columns_40 (by decide) (fun c5 => ?_) (fun c5 => ?_)
        · have hf := of_neg hf c5
          refine lv_iconst (v := (0 : Int32)) hx hb dX10_columns_47 (by decide) ?_
          exact kJ48 _ _ hf _ _ hP hD hS _ (lv_sub hl [] rfl)
        · have hf := of_pos hf c5
          refine lv_iconst (v := (1 : Int32)) hx hb dX10_columns_43 (by decide) ?_
          refine lv_goto (tgt := 48) hx hb dX10_columns_44 (by decide) ?_
          exact kJ48 _ _ hf _ _ hP hD hS _ (lv_sub hl [] rfl)
      · have hf := of_neg hf c3
        refine lv_iconst (v := (-1 : Int32)) hx hb dX10_columns_25 (by decide) ?_
        cases hf
        exact ret_i hx hb hr hlk hK hP hD hS dX10_columns_26
  refine lv_iload_n hx hb dX10_columns_0 rfl (lv_at hl 1 rfl) ?_
  refine lv_iconst (v := (3 : Int32)) hx hb dX10_columns_1 (by decide) ?_
  refine lv_icmp_eq (tgt := 16) hx hb dX10_columns_2 (by decide) (fun c6 => ?_) (fun c6 => ?_)
  · have hf := of_pos hf c6
    exact kJ16 _ _ hf _ _ hP hD hS _ (lv_sub hl [0, 1, 2] rfl)
  · have hf := of_neg hf c6
    refine lv_iload_n hx hb dX10_columns_5 rfl (lv_at hl 1 rfl) ?_
    refine lv_iconst (v := (5 : Int32)) hx hb dX10_columns_6 (by decide) ?_
    refine lv_icmp_eq (tgt := 16) hx hb dX10_columns_7 (by decide) (fun c7 => ?_) (fun c7 => ?_)
    · have hf := of_pos hf c7
      exact kJ16 _ _ hf _ _ hP hD hS _ (lv_sub hl [0, 1, 2] rfl)
    · have hf := of_neg hf c7
      refine lv_iload_n hx hb dX10_columns_10 rfl (lv_at hl 1 rfl) ?_
      refine lv_bipush (v := (7 : Int32)) hx hb dX10_columns_11 (by decide) ?_
      refine lv_icmp_ne (tgt := 25) hx hb dX10_columns_13 (by decide) (fun c8 => ?_) (fun c8 => ?_)
      · have hf := of_neg hf c8
        refine lv_iconst (v := (-1 : Int32)) hx hb dX10_columns_25 (by decide) ?_
        cases hf
        exact ret_i hx hb hr hlk hK hP hD hS dX10_columns_26
      · have hf := of_pos hf c8
        exact kJ16 _ _ hf _ _ hP hD hS _ (lv_sub hl [0, 1, 2] rfl)
theorem yk_X10_columns : ykV yX10_columns RX10 cX10_columns 3 (some .int) 2 := ⟨wd_1209, wd_1210, wd_127, wd_1211, rfl, by decide +kernel, by decide +kernel, by decide +kernel⟩
theorem dX10_notMeantBehind_0 : decode cX10_notMeantBehind 0 = .ok (.aload_n 0, 1) := by decide +kernel
theorem dX10_notMeantBehind_1 : decode cX10_notMeantBehind 1 = .ok (.getfield 29, 3) := by decide +kernel
theorem dX10_notMeantBehind_4 : decode cX10_notMeantBehind 4 = .ok (.invokevirtual 92, 3) := by decide +kernel
theorem dX10_notMeantBehind_7 : decode cX10_notMeantBehind 7 = .ok (.astore 4, 2) := by decide +kernel
theorem dX10_notMeantBehind_9 : decode cX10_notMeantBehind 9 = .ok (.aload_n 0, 1) := by decide +kernel
theorem dX10_notMeantBehind_10 : decode cX10_notMeantBehind 10 = .ok (.getfield 75, 3) := by decide +kernel
theorem dX10_notMeantBehind_13 : decode cX10_notMeantBehind 13 = .ok (.aload 4, 2) := by decide +kernel
theorem dX10_notMeantBehind_15 : decode cX10_notMeantBehind 15 = .ok (.getfield 125, 3) := by decide +kernel
theorem dX10_notMeantBehind_18 : decode cX10_notMeantBehind 18 = .ok (.invokevirtual 382, 3) := by decide +kernel
theorem dX10_notMeantBehind_21 : decode cX10_notMeantBehind 21 = .ok (.aload_n 0, 1) := by decide +kernel
theorem dX10_notMeantBehind_22 : decode cX10_notMeantBehind 22 = .ok (.getfield 75, 3) := by decide +kernel
theorem dX10_notMeantBehind_25 : decode cX10_notMeantBehind 25 = .ok (.aload 4, 2) := by decide +kernel
theorem dX10_notMeantBehind_27 : decode cX10_notMeantBehind 27 = .ok (.getfield 96, 3) := by decide +kernel
theorem dX10_notMeantBehind_30 : decode cX10_notMeantBehind 30 = .ok (.iload_n 1, 1) := by decide +kernel
theorem dX10_notMeantBehind_31 : decode cX10_notMeantBehind 31 = .ok (.iload_n 2, 1) := by decide +kernel
theorem dX10_notMeantBehind_32 : decode cX10_notMeantBehind 32 = .ok (.iload_n 3, 1) := by decide +kernel
theorem dX10_notMeantBehind_33 : decode cX10_notMeantBehind 33 = .ok (.aload_n 0, 1) := by decide +kernel
theorem dX10_notMeantBehind_34 : decode cX10_notMeantBehind 34 = .ok (.getfield 47, 3) := by decide +kernel
theorem dX10_notMeantBehind_37 : decode cX10_notMeantBehind 37 = .ok (.invokevirtual 189, 3) := by decide +kernel
theorem dX10_notMeantBehind_40 : decode cX10_notMeantBehind 40 = .ok (.bipush 16, 2) := by decide +kernel
theorem dX10_notMeantBehind_42 : decode cX10_notMeantBehind 42 = .ok (.aload_n 0, 1) := by decide +kernel
theorem dX10_notMeantBehind_43 : decode cX10_notMeantBehind 43 = .ok (.getfield 75, 3) := by decide +kernel
theorem dX10_notMeantBehind_46 : decode cX10_notMeantBehind 46 = .ok (.invokevirtual 192, 3) := by decide +kernel
theorem dX10_notMeantBehind_49 : decode cX10_notMeantBehind 49 = .ok (.isub, 1) := by decide +kernel
theorem dX10_notMeantBehind_50 : decode cX10_notMeantBehind 50 = .ok (.ireturn, 1) := by decide +kernel
def wW_X10_notMeantBehind (G : GG) (h0 h1 h2 h3 h4 h5 h6 h7 h8 h9 h10 h11 h12 h13 h14 h15 h16 h17 h18 h19 y0_0 y0_1 y0_2 y0_4 y0_5 y0_7 y0_8 y0_9 : Nat) (x0_11 : Int32) (x0_12 : Int32) (x1_1 : Int32) (x1_2 : Int32) (a2 : Nat → Option Nat) (x3_0 : Int32) (x3_1 : Int32) (x3_2 : Int32) (a5 : Nat → Int32) (a6 : Nat → Int32) (a7 : Nat → Int32) (a8 : Nat → Int32) (a9 : Nat → Int32) (x10_0 : Int32) (x10_1 : Int32) (x10_2 : Int32) (a11 : Nat → Int32) (a12 : Nat → Int32) (a13 : Nat → Int32) (a15 : Nat → Int32) (a16 : Nat → Int32) (a17 : Nat → Int32) (a18 : Nat → Int32) (a19 : Nat → Int32) : va_W := [(h0, .inr (10, [.ref y0_0, .ref y0_1, .ref y0_2, .ref h1, .ref y0_4, .ref y0_5, .ref h3, .ref y0_7, .ref y0_8, .ref y0_9, .ref h4, .int x0_11, .int x0_12])), (h1, .inr (8, [.ref h2, .int x1_1, .int x1_2])), (h2, .inl (G.2.2.2.2.1, 13, .inr (.inr (.inr (.inr a2))))), (h3, .inr (2, [.int x3_0, .int x3_1, .int x3_2])), (h4, .inr (9, [.ref h5, .ref h6, .ref h7, .ref h8, .ref h9])), (h5, .inl (G.2.1, 16, .inl a5)), (h6, .inl (G.2.1, 16, .inl a6)), (h7, .inl (G.2.1, 16, .inl a7)), (h8, .inl (G.2.1, 16, .inl a8)), (h9, .inl (G.2.1, 8, .inl a9)), (h10, .inr (1, [.int x10_0, .int x10_1, .int x10_2, .ref h11, .ref h12, .ref h13])), (h11, .inl (G.2.1, 32, .inl a11)), (h12, .inl (G.2.1, 256, .inl a12)), (h13, .inl (G.2.1, 256, .inl a13)), (h14, .inr (9, [.ref h15, .ref h16, .ref h17, .ref h18, .ref h19])), (h15, .inl (G.2.1, 16, .inl a15)), (h16, .inl (G.2.1, 16, .inl a16)), (h17, .inl (G.2.1, 16, .inl a17)), (h18, .inl (G.2.1, 16, .inl a18)), (h19, .inl (G.2.1, 8, .inl a19))]
set_option maxHeartbeats 4000000 in
set_option maxRecDepth 100000 in
theorem c_X10_notMeantBehind (l : Launch) (G : GG) (h0 h1 h2 h3 h4 h5 h6 h7 h8 h9 h10 h11 h12 h13 h14 h15 h16 h17 h18 h19 y0_0 y0_1 y0_2 y0_4 y0_5 y0_7 y0_8 y0_9 g_cur : Nat) (sz : Nat) (x0_11 : Int32) (x0_12 : Int32) (x1_1 : Int32) (x1_2 : Int32) (a2 : Nat → Option Nat) (x3_0 : Int32) (x3_1 : Int32) (x3_2 : Int32) (a5 : Nat → Int32) (a6 : Nat → Int32) (a7 : Nat → Int32) (a8 : Nat → Int32) (a9 : Nat → Int32) (x10_0 : Int32) (x10_1 : Int32) (x10_2 : Int32) (a11 : Nat → Int32) (a12 : Nat → Int32) (a13 : Nat → Int32) (a15 : Nat → Int32) (a16 : Nat → Int32) (a17 : Nat → Int32) (a18 : Nat → Int32) (a19 : Nat → Int32) (F : Nat) (b1 : Int32) (b2 : Int32) (b3 : Int32) (hq_cur : (g_cur, h10, h14) ∈ gS G)  (r0 : Int32) (e_x3_0 : Int32) (e_x3_1 : Int32) (e_x3_2 : Int32) (e_a5 : Nat → Int32) (e_a6 : Nat → Int32) (e_a7 : Nat → Int32) (e_a8 : Nat → Int32) (e_a9 : Nat → Int32) (hf : p_X10_notMeantBehind F g_cur x1_1 a2 x3_0 x3_1 x3_2 a5 a6 a7 a8 a9 x10_0 x10_1 x10_2 a11 a12 a13 a15 a16 a17 a18 a19 b1 b2 b3 = some (r0, e_x3_0, e_x3_1, e_x3_2, e_a5, e_a6, e_a7, e_a8, e_a9)) : Met l yX10_notMeantBehind (.code yX10_notMeantBehind cX10_notMeantBehind 5 (some .int) :: gtbl) ({ frames := 6, cells := 0, slots := 0, locals := 152 } : Room) (PcS G [.ref h0, .int b1, .int b2, .int b3] (wW_X10_notMeantBehind G h0 h1 h2 h3 h4 h5 h6 h7 h8 h9 h10 h11 h12 h13 h14 h15 h16 h17 h18 h19 y0_0 y0_1 y0_2 y0_4 y0_5 y0_7 y0_8 y0_9 x0_11 x0_12 x1_1 x1_2 a2 x3_0 x3_1 x3_2 a5 a6 a7 a8 a9 x10_0 x10_1 x10_2 a11 a12 a13 a15 a16 a17 a18 a19) sz) (QiS G r0 (va_A (wW_X10_notMeantBehind G h0 h1 h2 h3 h4 h5 h6 h7 h8 h9 h10 h11 h12 h13 h14 h15 h16 h17 h18 h19 y0_0 y0_1 y0_2 y0_4 y0_5 y0_7 y0_8 y0_9 x0_11 x0_12 x1_1 x1_2 a2 x3_0 x3_1 x3_2 a5 a6 a7 a8 a9 x10_0 x10_1 x10_2 a11 a12 a13 a15 a16 a17 a18 a19) sz) (wW_X10_notMeantBehind G h0 h1 h2 h3 h4 h5 h6 h7 h8 h9 h10 h11 h12 h13 h14 h15 h16 h17 h18 h19 y0_0 y0_1 y0_2 y0_4 y0_5 y0_7 y0_8 y0_9 x0_11 x0_12 x1_1 x1_2 a2 e_x3_0 e_x3_1 e_x3_2 e_a5 e_a6 e_a7 e_a8 e_a9 x10_0 x10_1 x10_2 a11 a12 a13 a15 a16 a17 a18 a19)) 0 0 (va_A (wW_X10_notMeantBehind G h0 h1 h2 h3 h4 h5 h6 h7 h8 h9 h10 h11 h12 h13 h14 h15 h16 h17 h18 h19 y0_0 y0_1 y0_2 y0_4 y0_5 y0_7 y0_8 y0_9 x0_11 x0_12 x1_1 x1_2 a2 x3_0 x3_1 x3_2 a5 a6 a7 a8 a9 x10_0 x10_1 x10_2 a11 a12 a13 a15 a16 a17 a18 a19) sz) := by
  refine met_start (by decide) (Nat.le_of_ble_eq_true rfl) ?_
  intro p e s m below meth c hC hr hlk hnm hK hP hD hA hS hX ls hl
  obtain ⟨hx, hb, hml, hown, ht0⟩ := hC
  have hown : s.vm.findClass RX10 = some m.cls := hown
  generalize va_A (wW_X10_notMeantBehind G h0 h1 h2 h3 h4 h5 h6 h7 h8 h9 h10 h11 h12 h13 h14 h15 h16 h17 h18 h19 y0_0 y0_1 y0_2 y0_4 y0_5 y0_7 y0_8 y0_9 x0_11 x0_12 x1_1 x1_2 a2 x3_0 x3_1 x3_2 a5 a6 a7 a8 a9 x10_0 x10_1 x10_2 a11 a12 a13 a15 a16 a17 a18 a19) sz = A at hD hA hS hX ⊢
  have hl : lv_has ls 5 [(0, .ref h0), (1, .int b1), (2, .int b2), (3, .int b3)] := hl
  have hf : p_X10_notMeantBehind F g_cur x1_1 a2 x3_0 x3_1 x3_2 a5 a6 a7 a8 a9 x10_0 x10_1 x10_2 a11 a12 a13 a15 a16 a17 a18 a19 b1 b2 b3 = some (r0, e_x3_0, e_x3_1, e_x3_2, e_a5, e_a6, e_a7, e_a8, e_a9) := hf
  refine lv_aload_n hx hb dX10_notMeantBehind_0 rfl (lv_at hl 0 rfl) ?_
  refine va_get (ci := 10) (v := .ref h1) (C := RX10) (T := TX10) (N := 13) hx hb ht0 iX10 hown hK hP 0 rfl rfl 3 (by decide) (ht0 _ wd_543) (fun _ h9 => h9) rfl dX10_notMeantBehind_1 ?_
  obtain ⟨_, hc_r_4_0, hf⟩ := of_bnd hf
  refine cl_Vr (w2 := (wW_X10_notMeantBehind G h0 h1 h2 h3 h4 h5 h6 h7 h8 h9 h10 h11 h12 h13 h14 h15 h16 h17 h18 h19 y0_0 y0_1 y0_2 y0_4 y0_5 y0_7 y0_8 y0_9 x0_11 x0_12 x1_1 x1_2 a2 x3_0 x3_1 x3_2 a5 a6 a7 a8 a9 x10_0 x10_1 x10_2 a11 a12 a13 a15 a16 a17 a18 a19)) (As := []) (rest := []) ⟨hx, hb, hml, hown, ht0⟩ (c_X8_now l G h1 h2 g_cur h10 h14 _ x1_1 x1_2 a2 F hq_cur hc_r_4_0) yk_X8_now wd_531 ⟨rfl, rfl, by decide, by decide⟩ ⟨Nat.le_refl _, Nat.le_refl _⟩ hX hK hP hD hS hA [1, 2] [0, 3, 4, 5, 6, 7, 8, 9, 10, 11, 12, 13, 14, 15, 16, 17, 18, 19] [0, 18, 19, 1, 2, 3, 4, 5, 6, 7, 8, 9, 10, 11, 12, 13, 14, 15, 16, 17] (va_recv hK hP (ci := 8) (q0 := 1) rfl rfl) rfl rfl (by decide) rfl rfl rfl rfl rfl hl.1 rfl (Nat.le_of_ble_eq_true rfl) dX10_notMeantBehind_4 (fun H locs hP hD hS => ?_)
  refine lv_astore (lv' := [(4, .ref g_cur), (0, .ref h0), (1, .int b1), (2, .int b2), (3, .int b3)]) hx hb dX10_notMeantBehind_7 hl (by decide) rfl (fun ls hl => ?_)
  refine lv_aload_n hx hb dX10_notMeantBehind_9 rfl (lv_at hl 1 rfl) ?_
  refine va_get (ci := 10) (v := .ref h4) (C := RX10) (T := TX10) (N := 13) hx hb ht0 iX10 hown hK hP 0 rfl rfl 10 (by decide) (ht0 _ wd_550) (fun _ h9 => h9) rfl dX10_notMeantBehind_10 ?_
  refine lv_aload hx hb dX10_notMeantBehind_13 (lv_at hl 0 rfl) ?_
  refine vk_getf hx hb (hX.2.2 _ hq_cur).2.2 hS hown (ht0 _ wd_344) (fun _ h => h) dX10_notMeantBehind_15 ?_
  obtain ⟨⟨r_18_1_a1, r_18_1_a2, r_18_1_a3, r_18_1_a4, r_18_1_a5⟩, hc_r_18_1, hf⟩ := of_bnd hf
  refine cl_Vv (w2 := (wW_X10_notMeantBehind G h0 h1 h2 h3 h4 h5 h6 h7 h8 h9 h10 h11 h12 h13 h14 h15 h16 h17 h18 h19 y0_0 y0_1 y0_2 y0_4 y0_5 y0_7 y0_8 y0_9 x0_11 x0_12 x1_1 x1_2 a2 x3_0 x3_1 x3_2 r_18_1_a1 r_18_1_a2 r_18_1_a3 r_18_1_a4 r_18_1_a5 x10_0 x10_1 x10_2 a11 a12 a13 a15 a16 a17 a18 a19)) (As := [.ref h14]) (rest := []) ⟨hx, hb, hml, hown, ht0⟩ (c_X9_copyFrom l G h4 h5 h6 h7 h8 h9 h14 h15 h16 h17 h18 h19 _ a5 a6 a7 a8 a9 a15 a16 a17 a18 a19 F _ _ _ _ _ hc_r_18_1) yk_X9_copyFrom wd_1225 ⟨rfl, rfl, by decide, by decide⟩ ⟨Nat.le_refl _, Nat.le_refl _⟩ hX hK hP hD hS hA [4, 5, 6, 7, 8, 9, 14, 15, 16, 17, 18, 19] [0, 1, 2, 3, 10, 11, 12, 13] [0, 1, 2, 3, 8, 9, 10, 11, 12, 13, 4, 5, 6, 7, 14, 15, 16, 17, 18, 19] (va_recv hK hP (ci := 9) (q0 := 4) rfl rfl) rfl rfl (by decide) rfl rfl rfl rfl rfl hl.1 rfl (Nat.le_of_ble_eq_true rfl) dX10_notMeantBehind_18 (fun H locs hP hD hS => ?_)
  refine lv_aload_n hx hb dX10_notMeantBehind_21 rfl (lv_at hl 1 rfl) ?_
  refine va_get (ci := 10) (v := .ref h4) (C := RX10) (T := TX10) (N := 13) hx hb ht0 iX10 hown hK hP 0 rfl rfl 10 (by decide) (ht0 _ wd_550) (fun _ h9 => h9) rfl dX10_notMeantBehind_22 ?_
  refine lv_aload hx hb dX10_notMeantBehind_25 (lv_at hl 0 rfl) ?_
  refine vk_getf hx hb (hX.2.2 _ hq_cur).2.1 hS hown (ht0 _ wd_342) (fun _ h => h) dX10_notMeantBehind_27 ?_
  refine lv_iload_n hx hb dX10_notMeantBehind_30 rfl (lv_at hl 2 rfl) ?_
  refine lv_iload_n hx hb dX10_notMeantBehind_31 rfl (lv_at hl 3 rfl) ?_
  refine lv_iload_n hx hb dX10_notMeantBehind_32 rfl (lv_at hl 4 rfl) ?_
  refine lv_aload_n hx hb dX10_notMeantBehind_33 rfl (lv_at hl 1 rfl) ?_
  refine va_get (ci := 10) (v := .ref h3) (C := RX10) (T := TX10) (N := 13) hx hb ht0 iX10 hown hK hP 0 rfl rfl 6 (by decide) (ht0 _ wd_546) (fun _ h9 => h9) rfl dX10_notMeantBehind_34 ?_
  obtain ⟨⟨r_37_2_a1, r_37_2_a4, r_37_2_a5, r_37_2_x10_0, r_37_2_x10_1, r_37_2_x10_2⟩, hc_r_37_2, hf⟩ := of_bnd hf
  refine cl_Vv (w2 := (wW_X10_notMeantBehind G h0 h1 h2 h3 h4 h5 h6 h7 h8 h9 h10 h11 h12 h13 h14 h15 h16 h17 h18 h19 y0_0 y0_1 y0_2 y0_4 y0_5 y0_7 y0_8 y0_9 x0_11 x0_12 x1_1 x1_2 a2 r_37_2_x10_0 r_37_2_x10_1 r_37_2_x10_2 r_37_2_a1 r_18_1_a2 r_18_1_a3 r_37_2_a4 r_37_2_a5 x10_0 x10_1 x10_2 a11 a12 a13 a15 a16 a17 a18 a19)) (As := [.ref h10, .int b1, .int b2, .int b3, .ref h3]) (rest := []) ⟨hx, hb, hml, hown, ht0⟩ (c_X9_runStorm l G h4 h5 h6 h7 h8 h9 h10 h11 h12 h13 h3 _ r_18_1_a1 r_18_1_a2 r_18_1_a3 r_18_1_a4 r_18_1_a5 x10_0 x10_1 x10_2 a11 a12 a13 x3_0 x3_1 x3_2 F b1 b2 b3 _ _ _ _ _ _ hc_r_37_2) yk_X9_runStorm wd_917 ⟨rfl, rfl, by decide, by decide⟩ ⟨Nat.le_refl _, Nat.le_refl _⟩ hX hK hP hD hS hA [4, 5, 6, 7, 8, 9, 10, 11, 12, 13, 3] [0, 1, 2, 14, 15, 16, 17, 18, 19] [0, 1, 2, 19, 9, 10, 11, 12, 13, 14, 15, 16, 17, 18, 3, 4, 5, 6, 7, 8] (va_recv hK hP (ci := 9) (q0 := 4) rfl rfl) rfl rfl (by decide) rfl rfl rfl rfl rfl hl.1 rfl (Nat.le_of_ble_eq_true rfl) dX10_notMeantBehind_37 (fun H locs hP hD hS => ?_)
  refine lv_bipush (v := (16 : Int32)) hx hb dX10_notMeantBehind_40 (by decide) ?_
  refine lv_aload_n hx hb dX10_notMeantBehind_42 rfl (lv_at hl 1 rfl) ?_
  refine va_get (ci := 10) (v := .ref h4) (C := RX10) (T := TX10) (N := 13) hx hb ht0 iX10 hown hK hP 0 rfl rfl 10 (by decide) (ht0 _ wd_550) (fun _ h9 => h9) rfl dX10_notMeantBehind_43 ?_
  obtain ⟨r_46_3, hc_r_46_3, hf⟩ := of_bnd hf
  refine cl_Vi (w2 := (wW_X10_notMeantBehind G h0 h1 h2 h3 h4 h5 h6 h7 h8 h9 h10 h11 h12 h13 h14 h15 h16 h17 h18 h19 y0_0 y0_1 y0_2 y0_4 y0_5 y0_7 y0_8 y0_9 x0_11 x0_12 x1_1 x1_2 a2 r_37_2_x10_0 r_37_2_x10_1 r_37_2_x10_2 r_37_2_a1 r_18_1_a2 r_18_1_a3 r_37_2_a4 r_37_2_a5 x10_0 x10_1 x10_2 a11 a12 a13 a15 a16 a17 a18 a19)) (As := []) (rest := [.int (16 : Int32)]) ⟨hx, hb, hml, hown, ht0⟩ (c_X9_countAsMeant l G h4 h5 h6 h7 h8 h9 _ r_37_2_a1 r_18_1_a2 F _ hc_r_46_3) yk_X9_countAsMeant wd_927 ⟨rfl, rfl, by decide, by decide⟩ ⟨Nat.le_refl _, Nat.le_refl _⟩ hX hK hP hD hS hA [4, 5, 6] [0, 1, 2, 3, 7, 8, 9, 10, 11, 12, 13, 14, 15, 16, 17, 18, 19] [0, 1, 2, 3, 17, 18, 19, 4, 5, 6, 7, 8, 9, 10, 11, 12, 13, 14, 15, 16] (va_recv hK hP (ci := 9) (q0 := 4) rfl rfl) rfl rfl (by decide) rfl rfl rfl rfl rfl hl.1 rfl (Nat.le_of_ble_eq_true rfl) dX10_notMeantBehind_46 (fun H locs hP hD hS => ?_)
  refine lv_isub hx hb dX10_notMeantBehind_49 ?_
  cases hf
  exact ret_i hx hb hr hlk hK hP hD hS dX10_notMeantBehind_50
theorem yk_X10_notMeantBehind : ykV yX10_notMeantBehind RX10 cX10_notMeantBehind 5 (some .int) 3 := ⟨wd_1223, wd_38, wd_127, wd_1224, rfl, by decide +kernel, by decide +kernel, by decide +kernel⟩
theorem dX10_would_0 : decode cX10_would 0 = .ok (.iload_n 1, 1) := by decide +kernel
theorem dX10_would_1 : decode cX10_would 1 = .ok (.iload_n 2, 1) := by decide +kernel
theorem dX10_would_2 : decode cX10_would 2 = .ok (.iload_n 3, 1) := by decide +kernel
theorem dX10_would_3 : decode cX10_would 3 = .ok (.invokestatic 185, 3) := by decide +kernel
theorem dX10_would_6 : decode cX10_would 6 = .ok (.ifCond .eq 13, 3) := by decide +kernel
theorem dX10_would_9 : decode cX10_would 9 = .ok (.aload_n 0, 1) := by decide +kernel
theorem dX10_would_10 : decode cX10_would 10 = .ok (.iload_n 1, 1) := by decide +kernel
theorem dX10_would_11 : decode cX10_would 11 = .ok (.iload_n 2, 1) := by decide +kernel
theorem dX10_would_12 : decode cX10_would 12 = .ok (.iload_n 3, 1) := by decide +kernel
theorem dX10_would_13 : decode cX10_would 13 = .ok (.invokevirtual 360, 3) := by decide +kernel
theorem dX10_would_16 : decode cX10_would 16 = .ok (.goto 4, 3) := by decide +kernel
theorem dX10_would_19 : decode cX10_would 19 = .ok (.iconst (-1), 1) := by decide +kernel
theorem dX10_would_20 : decode cX10_would 20 = .ok (.ireturn, 1) := by decide +kernel
def wW_X10_would (G : GG) (h0 h1 h2 h3 h4 h5 h6 h7 h8 h9 h10 h11 h12 h13 h14 h15 h16 h17 h18 h19 y0_0 y0_1 y0_2 y0_4 y0_5 y0_7 y0_8 y0_9 : Nat) (x0_11 : Int32) (x0_12 : Int32) (x1_1 : Int32) (x1_2 : Int32) (a2 : Nat → Option Nat) (x3_0 : Int32) (x3_1 : Int32) (x3_2 : Int32) (a5 : Nat → Int32) (a6 : Nat → Int32) (a7 : Nat → Int32) (a8 : Nat → Int32) (a9 : Nat → Int32) (x10_0 : Int32) (x10_1 : Int32) (x10_2 : Int32) (a11 : Nat → Int32) (a12 : Nat → Int32) (a13 : Nat → Int32) (a15 : Nat → Int32) (a16 : Nat → Int32) (a17 : Nat → Int32) (a18 : Nat → Int32) (a19 : Nat → Int32) : va_W := [(h0, .inr (10, [.ref y0_0, .ref y0_1, .ref y0_2, .ref h1, .ref y0_4, .ref y0_5, .ref h3, .ref y0_7, .ref y0_8, .ref y0_9, .ref h4, .int x0_11, .int x0_12])), (h1, .inr (8, [.ref h2, .int x1_1, .int x1_2])), (h2, .inl (G.2.2.2.2.1, 13, .inr (.inr (.inr (.inr a2))))), (h3, .inr (2, [.int x3_0, .int x3_1, .int x3_2])), (h4, .inr (9, [.ref h5, .ref h6, .ref h7, .ref h8, .ref h9])), (h5, .inl (G.2.1, 16, .inl a5)), (h6, .inl (G.2.1, 16, .inl a6)), (h7, .inl (G.2.1, 16, .inl a7)), (h8, .inl (G.2.1, 16, .inl a8)), (h9, .inl (G.2.1, 8, .inl a9)), (h10, .inr (1, [.int x10_0, .int x10_1, .int x10_2, .ref h11, .ref h12, .ref h13])), (h11, .inl (G.2.1, 32, .inl a11)), (h12, .inl (G.2.1, 256, .inl a12)), (h13, .inl (G.2.1, 256, .inl a13)), (h14, .inr (9, [.ref h15, .ref h16, .ref h17, .ref h18, .ref h19])), (h15, .inl (G.2.1, 16, .inl a15)), (h16, .inl (G.2.1, 16, .inl a16)), (h17, .inl (G.2.1, 16, .inl a17)), (h18, .inl (G.2.1, 16, .inl a18)), (h19, .inl (G.2.1, 8, .inl a19))]
set_option maxHeartbeats 4000000 in
set_option maxRecDepth 100000 in
theorem c_X10_would (l : Launch) (G : GG) (h0 h1 h2 h3 h4 h5 h6 h7 h8 h9 h10 h11 h12 h13 h14 h15 h16 h17 h18 h19 y0_0 y0_1 y0_2 y0_4 y0_5 y0_7 y0_8 y0_9 g_cur : Nat) (sz : Nat) (x0_11 : Int32) (x0_12 : Int32) (x1_1 : Int32) (x1_2 : Int32) (a2 : Nat → Option Nat) (x3_0 : Int32) (x3_1 : Int32) (x3_2 : Int32) (a5 : Nat → Int32) (a6 : Nat → Int32) (a7 : Nat → Int32) (a8 : Nat → Int32) (a9 : Nat → Int32) (x10_0 : Int32) (x10_1 : Int32) (x10_2 : Int32) (a11 : Nat → Int32) (a12 : Nat → Int32) (a13 : Nat → Int32) (a15 : Nat → Int32) (a16 : Nat → Int32) (a17 : Nat → Int32) (a18 : Nat → Int32) (a19 : Nat → Int32) (F : Nat) (b1 : Int32) (b2 : Int32) (b3 : Int32) (hq_cur : (g_cur, h10, h14) ∈ gS G)  (r0 : Int32) (e_x3_0 : Int32) (e_x3_1 : Int32) (e_x3_2 : Int32) (e_a5 : Nat → Int32) (e_a6 : Nat → Int32) (e_a7 : Nat → Int32) (e_a8 : Nat → Int32) (e_a9 : Nat → Int32) (hf : p_X10_would F g_cur x1_1 a2 x3_0 x3_1 x3_2 a5 a6 a7 a8 a9 x10_0 x10_1 x10_2 a11 a12 a13 a15 a16 a17 a18 a19 b1 b2 b3 = some (r0, e_x3_0, e_x3_1, e_x3_2, e_a5, e_a6, e_a7, e_a8, e_a9)) : Met l yX10_would (.code yX10_would cX10_would 4 (some .int) :: gtbl) ({ frames := 7, cells := 0, slots := 0, locals := 176 } : Room) (PcS G [.ref h0, .int b1, .int b2, .int b3] (wW_X10_would G h0 h1 h2 h3 h4 h5 h6 h7 h8 h9 h10 h11 h12 h13 h14 h15 h16 h17 h18 h19 y0_0 y0_1 y0_2 y0_4 y0_5 y0_7 y0_8 y0_9 x0_11 x0_12 x1_1 x1_2 a2 x3_0 x3_1 x3_2 a5 a6 a7 a8 a9 x10_0 x10_1 x10_2 a11 a12 a13 a15 a16 a17 a18 a19) sz) (QiS G r0 (va_A (wW_X10_would G h0 h1 h2 h3 h4 h5 h6 h7 h8 h9 h10 h11 h12 h13 h14 h15 h16 h17 h18 h19 y0_0 y0_1 y0_2 y0_4 y0_5 y0_7 y0_8 y0_9 x0_11 x0_12 x1_1 x1_2 a2 x3_0 x3_1 x3_2 a5 a6 a7 a8 a9 x10_0 x10_1 x10_2 a11 a12 a13 a15 a16 a17 a18 a19) sz) (wW_X10_would G h0 h1 h2 h3 h4 h5 h6 h7 h8 h9 h10 h11 h12 h13 h14 h15 h16 h17 h18 h19 y0_0 y0_1 y0_2 y0_4 y0_5 y0_7 y0_8 y0_9 x0_11 x0_12 x1_1 x1_2 a2 e_x3_0 e_x3_1 e_x3_2 e_a5 e_a6 e_a7 e_a8 e_a9 x10_0 x10_1 x10_2 a11 a12 a13 a15 a16 a17 a18 a19)) 0 0 (va_A (wW_X10_would G h0 h1 h2 h3 h4 h5 h6 h7 h8 h9 h10 h11 h12 h13 h14 h15 h16 h17 h18 h19 y0_0 y0_1 y0_2 y0_4 y0_5 y0_7 y0_8 y0_9 x0_11 x0_12 x1_1 x1_2 a2 x3_0 x3_1 x3_2 a5 a6 a7 a8 a9 x10_0 x10_1 x10_2 a11 a12 a13 a15 a16 a17 a18 a19) sz) := by
  refine met_start (by decide) (Nat.le_of_ble_eq_true rfl) ?_
  intro p e s m below meth c hC hr hlk hnm hK hP hD hA hS hX ls hl
  obtain ⟨hx, hb, hml, hown, ht0⟩ := hC
  have hown : s.vm.findClass RX10 = some m.cls := hown
  generalize va_A (wW_X10_would G h0 h1 h2 h3 h4 h5 h6 h7 h8 h9 h10 h11 h12 h13 h14 h15 h16 h17 h18 h19 y0_0 y0_1 y0_2 y0_4 y0_5 y0_7 y0_8 y0_9 x0_11 x0_12 x1_1 x1_2 a2 x3_0 x3_1 x3_2 a5 a6 a7 a8 a9 x10_0 x10_1 x10_2 a11 a12 a13 a15 a16 a17 a18 a19) sz = A at hD hA hS hX ⊢
  have hl : lv_has ls 4 [(0, .ref h0), (1, .int b1), (2, .int b2), (3, .int b3)] := hl
  have hf : p_X10_would F g_cur x1_1 a2 x3_0 x3_1 x3_2 a5 a6 a7 a8 a9 x10_0 x10_1 x10_2 a11 a12 a13 a15 a16 a17 a18 a19 b1 b2 b3 = some (r0, e_x3_0, e_x3_1, e_x3_2, e_a5, e_a6, e_a7, e_a8, e_a9) := hf
  refine lv_iload_n hx hb dX10_would_0 rfl (lv_at hl 1 rfl) ?_
  refine lv_iload_n hx hb dX10_would_1 rfl (lv_at hl 2 rfl) ?_
  refine lv_iload_n hx hb dX10_would_2 rfl (lv_at hl 3 rfl) ?_
  obtain ⟨r_3_0, hc_r_3_0, hf⟩ := of_bnd hf
  refine cl_Si (w2 := (wW_X10_would G h0 h1 h2 h3 h4 h5 h6 h7 h8 h9 h10 h11 h12 h13 h14 h15 h16 h17 h18 h19 y0_0 y0_1 y0_2 y0_4 y0_5 y0_7 y0_8 y0_9 x0_11 x0_12 x1_1 x1_2 a2 x3_0 x3_1 x3_2 a5 a6 a7 a8 a9 x10_0 x10_1 x10_2 a11 a12 a13 a15 a16 a17 a18 a19)) (As := [.int b1, .int b2, .int b3]) (rest := []) ⟨hx, hb, hml, hown, ht0⟩ (c_X10_isStorm l G _ F b1 b2 b3 _ hc_r_3_0) yk_X10_isStorm wd_914 ⟨rfl, rfl, by decide, by decide⟩ ⟨Nat.le_refl _, Nat.le_refl _⟩ hX hK hP hD hS hA [] [0, 1, 2, 3, 4, 5, 6, 7, 8, 9, 10, 11, 12, 13, 14, 15, 16, 17, 18, 19] [0, 1, 2, 3, 4, 5, 6, 7, 8, 9, 10, 11, 12, 13, 14, 15, 16, 17, 18, 19] rfl rfl (by decide) rfl rfl rfl rfl rfl hl.1 rfl (Nat.le_of_ble_eq_true rfl) dX10_would_3 (fun H locs hP hD hS => ?_)
  refine lv_if_eq (tgt := 19) hx hb dX10_would_6 (by decide) (fun c2 => ?_) (fun c2 => ?_)
  · have hf := of_pos hf c2
    refine lv_iconst (v := (-1 : Int32)) hx hb dX10_would_19 (by decide) ?_
    cases hf
    exact ret_i hx hb hr hlk hK hP hD hS dX10_would_20
  · have hf := of_neg hf c2
    refine lv_aload_n hx hb dX10_would_9 rfl (lv_at hl 0 rfl) ?_
    refine lv_iload_n hx hb dX10_would_10 rfl (lv_at hl 1 rfl) ?_
    refine lv_iload_n hx hb dX10_would_11 rfl (lv_at hl 2 rfl) ?_
    refine lv_iload_n hx hb dX10_would_12 rfl (lv_at hl 3 rfl) ?_
    obtain ⟨⟨r_13_2, r_13_2_x3_0, r_13_2_x3_1, r_13_2_x3_2, r_13_2_a5, r_13_2_a6, r_13_2_a7, r_13_2_a8, r_13_2_a9⟩, hc_r_13_2, hf⟩ := of_bnd hf
    refine cl_Vi (w2 := (wW_X10_would G h0 h1 h2 h3 h4 h5 h6 h7 h8 h9 h10 h11 h12 h13 h14 h15 h16 h17 h18 h19 y0_0 y0_1 y0_2 y0_4 y0_5 y0_7 y0_8 y0_9 x0_11 x0_12 x1_1 x1_2 a2 r_13_2_x3_0 r_13_2_x3_1 r_13_2_x3_2 r_13_2_a5 r_13_2_a6 r_13_2_a7 r_13_2_a8 r_13_2_a9 x10_0 x10_1 x10_2 a11 a12 a13 a15 a16 a17 a18 a19)) (As := [.int b1, .int b2, .int b3]) (rest := []) ⟨hx, hb, hml, hown, ht0⟩ (c_X10_notMeantBehind l G h0 h1 h2 h3 h4 h5 h6 h7 h8 h9 h10 h11 h12 h13 h14 h15 h16 h17 h18 h19 y0_0 y0_1 y0_2 y0_4 y0_5 y0_7 y0_8 y0_9 g_cur _ x0_11 x0_12 x1_1 x1_2 a2 x3_0 x3_1 x3_2 a5 a6 a7 a8 a9 x10_0 x10_1 x10_2 a11 a12 a13 a15 a16 a17 a18 a19 F b1 b2 b3 hq_cur _ _ _ _ _ _ _ _ _ hc_r_13_2) yk_X10_notMeantBehind wd_1221 ⟨rfl, rfl, by decide, by decide⟩ ⟨Nat.le_refl _, Nat.le_refl _⟩ hX hK hP hD hS hA [0, 1, 2, 3, 4, 5, 6, 7, 8, 9, 10, 11, 12, 13, 14, 15, 16, 17, 18, 19] [] [0, 1, 2, 3, 4, 5, 6, 7, 8, 9, 10, 11, 12, 13, 14, 15, 16, 17, 18, 19] (va_recv hK hP (ci := 10) (q0 := 0) rfl rfl) rfl rfl (by decide) rfl rfl rfl rfl rfl hl.1 rfl (Nat.le_of_ble_eq_true rfl) dX10_would_13 (fun H locs hP hD hS => ?_)
    refine lv_goto (tgt := 20) hx hb dX10_would_16 (by decide) ?_
    cases hf
    exact ret_i hx hb hr hlk hK hP hD hS dX10_would_20
theorem yk_X10_would : ykV yX10_would RX10 cX10_would 4 (some .int) 3 := ⟨wd_1218, wd_1219, wd_127, wd_1220, rfl, by decide +kernel, by decide +kernel, by decide +kernel⟩
theorem dX10_worst_0 : decode cX10_worst 0 = .ok (.iload_n 1, 1) := by decide +kernel
theorem dX10_worst_1 : decode cX10_worst 1 = .ok (.bipush 100, 2) := by decide +kernel
theorem dX10_worst_3 : decode cX10_worst 3 = .ok (.if_icmp .gt 21, 3) := by decide +kernel
theorem dX10_worst_6 : decode cX10_worst 6 = .ok (.iconst 0, 1) := by decide +kernel
theorem dX10_worst_7 : decode cX10_worst 7 = .ok (.iload_n 1, 1) := by decide +kernel
theorem dX10_worst_8 : decode cX10_worst 8 = .ok (.iload_n 2, 1) := by decide +kernel
theorem dX10_worst_9 : decode cX10_worst 9 = .ok (.invokestatic 185, 3) := by decide +kernel
theorem dX10_worst_12 : decode cX10_worst 12 = .ok (.ifCond .eq 12, 3) := by decide +kernel
theorem dX10_worst_15 : decode cX10_worst 15 = .ok (.iload_n 3, 1) := by decide +kernel
theorem dX10_worst_16 : decode cX10_worst 16 = .ok (.ifCond .lt 8, 3) := by decide +kernel
theorem dX10_worst_19 : decode cX10_worst 19 = .ok (.iload_n 3, 1) := by decide +kernel
theorem dX10_worst_20 : decode cX10_worst 20 = .ok (.iconst 1, 1) := by decide +kernel
theorem dX10_worst_21 : decode cX10_worst 21 = .ok (.if_icmp .le 5, 3) := by decide +kernel
theorem dX10_worst_24 : decode cX10_worst 24 = .ok (.iconst (-1), 1) := by decide +kernel
theorem dX10_worst_25 : decode cX10_worst 25 = .ok (.ireturn, 1) := by decide +kernel
theorem dX10_worst_26 : decode cX10_worst 26 = .ok (.iconst (-1), 1) := by decide +kernel
theorem dX10_worst_27 : decode cX10_worst 27 = .ok (.istore 4, 2) := by decide +kernel
theorem dX10_worst_29 : decode cX10_worst 29 = .ok (.iconst (-1), 1) := by decide +kernel
theorem dX10_worst_30 : decode cX10_worst 30 = .ok (.istore 5, 2) := by decide +kernel
theorem dX10_worst_32 : decode cX10_worst 32 = .ok (.iconst 0, 1) := by decide +kernel
theorem dX10_worst_33 : decode cX10_worst 33 = .ok (.istore 6, 2) := by decide +kernel
theorem dX10_worst_35 : decode cX10_worst 35 = .ok (.iload 6, 2) := by decide +kernel
theorem dX10_worst_37 : decode cX10_worst 37 = .ok (.bipush 50, 2) := by decide +kernel
theorem dX10_worst_39 : decode cX10_worst 39 = .ok (.if_icmp .ge 34, 3) := by decide +kernel
theorem dX10_worst_42 : decode cX10_worst 42 = .ok (.aload_n 0, 1) := by decide +kernel
theorem dX10_worst_43 : decode cX10_worst 43 = .ok (.iload 6, 2) := by decide +kernel
theorem dX10_worst_45 : decode cX10_worst 45 = .ok (.iload_n 1, 1) := by decide +kernel
theorem dX10_worst_46 : decode cX10_worst 46 = .ok (.iload_n 2, 1) := by decide +kernel
theorem dX10_worst_47 : decode cX10_worst 47 = .ok (.invokevirtual 360, 3) := by decide +kernel
theorem dX10_worst_50 : decode cX10_worst 50 = .ok (.istore 7, 2) := by decide +kernel
theorem dX10_worst_52 : decode cX10_worst 52 = .ok (.iload 7, 2) := by decide +kernel
theorem dX10_worst_54 : decode cX10_worst 54 = .ok (.iload 5, 2) := by decide +kernel
theorem dX10_worst_56 : decode cX10_worst 56 = .ok (.if_icmp .le 11, 3) := by decide +kernel
theorem dX10_worst_59 : decode cX10_worst 59 = .ok (.iload 7, 2) := by decide +kernel
theorem dX10_worst_61 : decode cX10_worst 61 = .ok (.istore 5, 2) := by decide +kernel
theorem dX10_worst_63 : decode cX10_worst 63 = .ok (.iload 6, 2) := by decide +kernel
theorem dX10_worst_65 : decode cX10_worst 65 = .ok (.istore 4, 2) := by decide +kernel
theorem dX10_worst_67 : decode cX10_worst 67 = .ok (.iinc 6 1, 3) := by decide +kernel
theorem dX10_worst_70 : decode cX10_worst 70 = .ok (.goto (-35), 3) := by decide +kernel
theorem dX10_worst_73 : decode cX10_worst 73 = .ok (.iload_n 3, 1) := by decide +kernel
theorem dX10_worst_74 : decode cX10_worst 74 = .ok (.ifCond .ne 8, 3) := by decide +kernel
theorem dX10_worst_77 : decode cX10_worst 77 = .ok (.iload 4, 2) := by decide +kernel
theorem dX10_worst_79 : decode cX10_worst 79 = .ok (.goto 5, 3) := by decide +kernel
theorem dX10_worst_82 : decode cX10_worst 82 = .ok (.iload 5, 2) := by decide +kernel
theorem dX10_worst_84 : decode cX10_worst 84 = .ok (.ireturn, 1) := by decide +kernel
def wW_X10_worst (G : GG) (h0 h1 h2 h3 h4 h5 h6 h7 h8 h9 h10 h11 h12 h13 h14 h15 h16 h17 h18 h19 y0_0 y0_1 y0_2 y0_4 y0_5 y0_7 y0_8 y0_9 : Nat) (x0_11 : Int32) (x0_12 : Int32) (x1_1 : Int32) (x1_2 : Int32) (a2 : Nat → Option Nat) (x3_0 : Int32) (x3_1 : Int32) (x3_2 : Int32) (a5 : Nat → Int32) (a6 : Nat → Int32) (a7 : Nat → Int32) (a8 : Nat → Int32) (a9 : Nat → Int32) (x10_0 : Int32) (x10_1 : Int32) (x10_2 : Int32) (a11 : Nat → Int32) (a12 : Nat → Int32) (a13 : Nat → Int32) (a15 : Nat → Int32) (a16 : Nat → Int32) (a17 : Nat → Int32) (a18 : Nat → Int32) (a19 : Nat → Int32) : va_W := [(h0, .inr (10, [.ref y0_0, .ref y0_1, .ref y0_2, .ref h1, .ref y0_4, .ref y0_5, .ref h3, .ref y0_7, .ref y0_8, .ref y0_9, .ref h4, .int x0_11, .int x0_12])), (h1, .inr (8, [.ref h2, .int x1_1, .int x1_2])), (h2, .inl (G.2.2.2.2.1, 13, .inr (.inr (.inr (.inr a2))))), (h3, .inr (2, [.int x3_0, .int x3_1, .int x3_2])), (h4, .inr (9, [.ref h5, .ref h6, .ref h7, .ref h8, .ref h9])), (h5, .inl (G.2.1, 16, .inl a5)), (h6, .inl (G.2.1, 16, .inl a6)), (h7, .inl (G.2.1, 16, .inl a7)), (h8, .inl (G.2.1, 16, .inl a8)), (h9, .inl (G.2.1, 8, .inl a9)), (h10, .inr (1, [.int x10_0, .int x10_1, .int x10_2, .ref h11, .ref h12, .ref h13])), (h11, .inl (G.2.1, 32, .inl a11)), (h12, .inl (G.2.1, 256, .inl a12)), (h13, .inl (G.2.1, 256, .inl a13)), (h14, .inr (9, [.ref h15, .ref h16, .ref h17, .ref h18, .ref h19])), (h15, .inl (G.2.1, 16, .inl a15)), (h16, .inl (G.2.1, 16, .inl a16)), (h17, .inl (G.2.1, 16, .inl a17)), (h18, .inl (G.2.1, 16, .inl a18)), (h19, .inl (G.2.1, 8, .inl a19))]
set_option maxHeartbeats 4000000 in
set_option maxRecDepth 100000 in
theorem c_X10_worst (l : Launch) (G : GG) (h0 h1 h2 h3 h4 h5 h6 h7 h8 h9 h10 h11 h12 h13 h14 h15 h16 h17 h18 h19 y0_0 y0_1 y0_2 y0_4 y0_5 y0_7 y0_8 y0_9 g_cur : Nat) (sz : Nat) (x0_11 : Int32) (x0_12 : Int32) (x1_1 : Int32) (x1_2 : Int32) (a2 : Nat → Option Nat) (x3_0 : Int32) (x3_1 : Int32) (x3_2 : Int32) (a5 : Nat → Int32) (a6 : Nat → Int32) (a7 : Nat → Int32) (a8 : Nat → Int32) (a9 : Nat → Int32) (x10_0 : Int32) (x10_1 : Int32) (x10_2 : Int32) (a11 : Nat → Int32) (a12 : Nat → Int32) (a13 : Nat → Int32) (a15 : Nat → Int32) (a16 : Nat → Int32) (a17 : Nat → Int32) (a18 : Nat → Int32) (a19 : Nat → Int32) (F : Nat) (b1 : Int32) (b2 : Int32) (b3 : Int32) (hq_cur : (g_cur, h10, h14) ∈ gS G)  (r0 : Int32) (e_x3_0 : Int32) (e_x3_1 : Int32) (e_x3_2 : Int32) (e_a5 : Nat → Int32) (e_a6 : Nat → Int32) (e_a7 : Nat → Int32) (e_a8 : Nat → Int32) (e_a9 : Nat → Int32) (hf : p_X10_worst F g_cur x1_1 a2 x3_0 x3_1 x3_2 a5 a6 a7 a8 a9 x10_0 x10_1 x10_2 a11 a12 a13 a15 a16 a17 a18 a19 b1 b2 b3 = some (r0, e_x3_0, e_x3_1, e_x3_2, e_a5, e_a6, e_a7, e_a8, e_a9)) : Met l yX10_worst (.code yX10_worst cX10_worst 8 (some .int) :: gtbl) ({ frames := 7, cells := 0, slots := 0, locals := 176 } : Room) (PcS G [.ref h0, .int b1, .int b2, .int b3] (wW_X10_worst G h0 h1 h2 h3 h4 h5 h6 h7 h8 h9 h10 h11 h12 h13 h14 h15 h16 h17 h18 h19 y0_0 y0_1 y0_2 y0_4 y0_5 y0_7 y0_8 y0_9 x0_11 x0_12 x1_1 x1_2 a2 x3_0 x3_1 x3_2 a5 a6 a7 a8 a9 x10_0 x10_1 x10_2 a11 a12 a13 a15 a16 a17 a18 a19) sz) (QiS G r0 (va_A (wW_X10_worst G h0 h1 h2 h3 h4 h5 h6 h7 h8 h9 h10 h11 h12 h13 h14 h15 h16 h17 h18 h19 y0_0 y0_1 y0_2 y0_4 y0_5 y0_7 y0_8 y0_9 x0_11 x0_12 x1_1 x1_2 a2 x3_0 x3_1 x3_2 a5 a6 a7 a8 a9 x10_0 x10_1 x10_2 a11 a12 a13 a15 a16 a17 a18 a19) sz) (wW_X10_worst G h0 h1 h2 h3 h4 h5 h6 h7 h8 h9 h10 h11 h12 h13 h14 h15 h16 h17 h18 h19 y0_0 y0_1 y0_2 y0_4 y0_5 y0_7 y0_8 y0_9 x0_11 x0_12 x1_1 x1_2 a2 e_x3_0 e_x3_1 e_x3_2 e_a5 e_a6 e_a7 e_a8 e_a9 x10_0 x10_1 x10_2 a11 a12 a13 a15 a16 a17 a18 a19)) 0 0 (va_A (wW_X10_worst G h0 h1 h2 h3 h4 h5 h6 h7 h8 h9 h10 h11 h12 h13 h14 h15 h16 h17 h18 h19 y0_0 y0_1 y0_2 y0_4 y0_5 y0_7 y0_8 y0_9 x0_11 x0_12 x1_1 x1_2 a2 x3_0 x3_1 x3_2 a5 a6 a7 a8 a9 x10_0 x10_1 x10_2 a11 a12 a13 a15 a16 a17 a18 a19) sz) := by
  refine met_start (by decide) (Nat.le_of_ble_eq_true rfl) ?_
  intro p e s m below meth c hC hr hlk hnm hK hP hD hA hS hX ls hl
  obtain ⟨hx, hb, hml, hown, ht0⟩ := hC
  have hown : s.vm.findClass RX10 = some m.cls := hown
  generalize va_A (wW_X10_worst G h0 h1 h2 h3 h4 h5 h6 h7 h8 h9 h10 h11 h12 h13 h14 h15 h16 h17 h18 h19 y0_0 y0_1 y0_2 y0_4 y0_5 y0_7 y0_8 y0_9 x0_11 x0_12 x1_1 x1_2 a2 x3_0 x3_1 x3_2 a5 a6 a7 a8 a9 x10_0 x10_1 x10_2 a11 a12 a13 a15 a16 a17 a18 a19) sz = A at hD hA hS hX ⊢
  have hl : lv_has ls 8 [(0, .ref h0), (1, .int b1), (2, .int b2), (3, .int b3)] := hl
  have hf : p_X10_worst F g_cur x1_1 a2 x3_0 x3_1 x3_2 a5 a6 a7 a8 a9 x10_0 x10_1 x10_2 a11 a12 a13 a15 a16 a17 a18 a19 b1 b2 b3 = some (r0, e_x3_0, e_x3_1, e_x3_2, e_a5, e_a6, e_a7, e_a8, e_a9) := hf
  have kL35 : ∀ (c35_1 : Int32) (c35_2 : Int32) (c35_3 : Int32) (n35 : Nat) (u35_4 : Int32) (u35_5 : Int32) (u35_6 : Int32) (x3_0_35 : Int32) (x3_1_35 : Int32) (x3_2_35 : Int32) (a5_35 : Nat → Int32) (a6_35 : Nat → Int32) (a7_35 : Nat → Int32) (a8_35 : Nat → Int32) (a9_35 : Nat → Int32), p_X10_worst_L35 F g_cur x1_1 a2 x10_0 x10_1 x10_2 a11 a12 a13 a15 a16 a17 a18 a19 c35_1 c35_2 c35_3 n35 u35_4 u35_5 u35_6 x3_0_35 x3_1_35 x3_2_35 a5_35 a6_35 a7_35 a8_35 a9_35 = some (r0, e_x3_0, e_x3_1, e_x3_2, e_a5, e_a6, e_a7, e_a8, e_a9) → ∀ (H : Heap) (locs : List Loc), va_P G.1 vwCl (wW_X10_worst G h0 h1 h2 h3 h4 h5 h6 h7 h8 h9 h10 h11 h12 h13 h14 h15 h16 h17 h18 h19 y0_0 y0_1 y0_2 y0_4 y0_5 y0_7 y0_8 y0_9 x0_11 x0_12 x1_1 x1_2 a2 x3_0_35 x3_1_35 x3_2_35 a5_35 a6_35 a7_35 a8_35 a9_35 x10_0 x10_1 x10_2 a11 a12 a13 a15 a16 a17 a18 a19) H → va_D A (wW_X10_worst G h0 h1 h2 h3 h4 h5 h6 h7 h8 h9 h10 h11 h12 h13 h14 h15 h16 h17 h18 h19 y0_0 y0_1 y0_2 y0_4 y0_5 y0_7 y0_8 y0_9 x0_11 x0_12 x1_1 x1_2 a2 x3_0_35 x3_1_35 x3_2_35 a5_35 a6_35 a7_35 a8_35 a9_35 x10_0 x10_1 x10_2 a11 a12 a13 a15 a16 a17 a18 a19) → va_S A s.heap H locs → ∀ ls : Array Slot, lv_has ls 8 [(0, .ref h0), (1, .int c35_1), (2, .int c35_2), (3, .int c35_3), (4, .int u35_4), (5, .int u35_5), (6, .int u35_6)] → W p l e ({ frames := 7, cells := 0, slots := 0, locals := 176 } : Room) s m (List.toArray [.ref h0, .int b1, .int b2, .int b3]) below meth c H locs 0 0 (MQ below (QiS G r0 A (wW_X10_worst G h0 h1 h2 h3 h4 h5 h6 h7 h8 h9 h10 h11 h12 h13 h14 h15 h16 h17 h18 h19 y0_0 y0_1 y0_2 y0_4 y0_5 y0_7 y0_8 y0_9 x0_11 x0_12 x1_1 x1_2 a2 e_x3_0 e_x3_1 e_x3_2 e_a5 e_a6 e_a7 e_a8 e_a9 x10_0 x10_1 x10_2 a11 a12 a13 a15 a16 a17 a18 a19)) (List.toArray [.ref h0, .int b1, .int b2, .int b3]) s 0 0 A) (F0 m 35 ls []) := by
    intro c35_1 c35_2 c35_3 n35
    induction n35 with
    | zero =>
      intro u35_4 u35_5 u35_6 x3_0_35 x3_1_35 x3_2_35 a5_35 a6_35 a7_35 a8_35 a9_35 hf
      cases hf
    | succ n35 ih35 =>
      have kJ67 : ∀ (u67_4 : Int32) (u67_5 : Int32) (u67_6 : Int32) (x3_0_67 : Int32) (x3_1_67 : Int32) (x3_2_67 : Int32) (a5_67 : Nat → Int32) (a6_67 : Nat → Int32) (a7_67 : Nat → Int32) (a8_67 : Nat → Int32) (a9_67 : Nat → Int32), p_X10_worst_J67 F g_cur x1_1 a2 x10_0 x10_1 x10_2 a11 a12 a13 a15 a16 a17 a18 a19 c35_1 c35_2 c35_3 (p_X10_worst_L35 F g_cur x1_1 a2 x10_0 x10_1 x10_2 a11 a12 a13 a15 a16 a17 a18 a19 c35_1 c35_2 c35_3 n35) u67_4 u67_5 u67_6 x3_0_67 x3_1_67 x3_2_67 a5_67 a6_67 a7_67 a8_67 a9_67 = some (r0, e_x3_0, e_x3_1, e_x3_2, e_a5, e_a6, e_a7, e_a8, e_a9) → ∀ (H : Heap) (locs : List Loc), va_P G.1 vwCl (wW_X10_worst G h0 h1 h2 h3 h4 h5 h6 h7 h8 h9 h10 h11 h12 h13 h14 h15 h16 h17 h18 h19 y0_0 y0_1 y0_2 y0_4 y0_5 y0_7 y0_8 y0_9 x0_11 x0_12 x1_1 x1_2 a2 x3_0_67 x3_1_67 x3_2_67 a5_67 a6_67 a7_67 a8_67 a9_67 x10_0 x10_1 x10_2 a11 a12 a13 a15 a16 a17 a18 a19) H → va_D A (wW_X10_worst G h0 h1 h2 h3 h4 h5 h6 h7 h8 h9 h10 h11 h12 h13 h14 h15 h16 h17 h18 h19 y0_0 y0_1 y0_2 y0_4 y0_5 y0_7 y0_8 y0_9 x0_11 x0_12 x1_1 x1_2 a2 x3_0_67 x3_1_67 x3_2_67 a5_67 a6_67 a7_67 a8_67 a9_67 x10_0 x10_1 x10_2 a11 a12 a13 a15 a16 a17 a18 a19) → va_S A s.heap H locs → ∀ ls : Array Slot, lv_has ls 8 [(0, .ref h0), (1, .int c35_1), (2, .int c35_2), (3, .int c35_3), (4, .int u67_4), (5, .int u67_5), (6, .int u67_6)] → W p l e ({ frames := 7, cells := 0, slots := 0, locals := 176 } : Room) s m (List.toArray [.ref h0, .int b1, .int b2, .int b3]) below meth c H locs 0 0 (MQ below (QiS G r0 A (wW_X10_worst G h0 h1 h2 h3 h4 h5 h6 h7 h8 h9 h10 h11 h12 h13 h14 h15 h16 h17 h18 h19 y0_0 y0_1 y0_2 y0_4 y0_5 y0_7 y0_8 y0_9 x0_11 x0_12 x1_1 x1_2 a2 e_x3_0 e_x3_1 e_x3_2 e_a5 e_a6 e_a7 e_a8 e_a9 x10_0 x10_1 x10_2 a11 a12 a13 a15 a16 a17 a18 a19)) (List.toArray [.ref h0, .int b1, .int b2, .int b3]) s 0 0 A) (F0 m 67 ls []) := by
        intro u67_4 u67_5 u67_6 x3_0_67 x3_1_67 x3_2_67 a5_67 a6_67 a7_67 a8_67 a9_67 hf H locs hP hD hS ls hl
        refine lv_iinc (v := u67_6 + (1 : Int32)) (lv' := [(6, .int (u67_6 + (1 : Int32))), (0, .ref h0), (1, .int c35_1), (2, .int c35_2), (3, .int c35_3), (4, .int u67_4), (5, .int u67_5)]) hx hb dX10_worst_67 hl (k := 6) rfl (by rfl) (by decide) rfl (fun ls hl => ?_)
        refine lv_goto (tgt := 35) hx hb dX10_worst_70 (by decide) ?_
        exact ih35 _ _ _ _ _ _ _ _ _ _ _ hf _ _ hP hD hS _ (lv_sub hl [1, 2, 3, 4, 5, 6, 0] rfl)
      intro u35_4 u35_5 u35_6 x3_0_35 x3_1_35 x3_2_35 a5_35 a6_35 a7_35 a8_35 a9_35 hf H locs hP hD hS ls hl
      have hf : p_X10_worst_L35b F g_cur x1_1 a2 x10_0 x10_1 x10_2 a11 a12 a13 a15 a16 a17 a18 a19 c35_1 c35_2 c35_3 (p_X10_worst_L35 F g_cur x1_1 a2 x10_0 x10_1 x10_2 a11 a12 a13 a15 a16 a17 a18 a19 c35_1 c35_2 c35_3 n35) u35_4 u35_5 u35_6 x3_0_35 x3_1_35 x3_2_35 a5_35 a6_35 a7_35 a8_35 a9_35 = some (r0, e_x3_0, e_x3_1, e_x3_2, e_a5, e_a6, e_a7, e_a8, e_a9) := hf
      refine lv_iload hx hb dX10_worst_35 (lv_at hl 6 rfl) ?_
      refine lv_bipush (v := (50 : Int32)) hx hb dX10_worst_37 (by decide) ?_
      refine lv_icmp_ge (tgt := 73) hx hb dX10_worst_39 (by decide) (fun c1 => ?_) (fun c1 => ?_)
      · have hf := of_pos hf c1
        refine lv_iload_n hx hb dX10_worst_73 rfl (lv_at hl 3 rfl) ?_
        refine lv_if_ne (tgt := 82) hx hb dX10_worst_74 (by decide) (fun c2 => ?_) (fun c2 => ?_)
        · have hf := of_neg hf c2
          refine lv_iload hx hb dX10_worst_82 (lv_at hl 5 rfl) ?_
          cases hf
          exact ret_i hx hb hr hlk hK hP hD hS dX10_worst_84
        · have hf := of_pos hf c2
          refine lv_iload hx hb dX10_worst_77 (lv_at hl 4 rfl) ?_
          refine lv_goto (tgt := 84) hx hb dX10_worst_79 (by decide) ?_
          cases hf
          exact ret_i hx hb hr hlk hK hP hD hS dX10_worst_84
      · have hf := of_neg hf c1
        refine lv_aload_n hx hb dX10_worst_42 rfl (lv_at hl 0 rfl) ?_
        refine lv_iload hx hb dX10_worst_43 (lv_at hl 6 rfl) ?_
        refine lv_iload_n hx hb dX10_worst_45 rfl (lv_at hl 1 rfl) ?_
        refine lv_iload_n hx hb dX10_worst_46 rfl (lv_at hl 2 rfl) ?_
        obtain ⟨⟨r_47_2, r_47_2_x3_0, r_47_2_x3_1, r_47_2_x3_2, r_47_2_a5, r_47_2_a6, r_47_2_a7, r_47_2_a8, r_47_2_a9⟩, hc_r_47_2, hf⟩ := of_bnd hf
        refine cl_Vi (w2 := (wW_X10_worst G h0 h1 h2 h3 h4 h5 h6 h7 h8 h9 h10 h11 h12 h13 h14 h15 h16 h17 h18 h19 y0_0 y0_1 y0_2 y0_4 y0_5 y0_7 y0_8 y0_9 x0_11 x0_12 x1_1 x1_2 a2 r_47_2_x3_0 r_47_2_x3_1 r_47_2_x3_2 r_47_2_a5 r_47_2_a6 r_47_2_a7 r_47_2_a8 r_47_2_a9 x10_0 x10_1 x10_2 a11 a12 a13 a15 a16 a17 a18 a19)) (As := [.int u35_6, .int c35_1, .int c35_2]) (rest := []) ⟨hx, hb, hml, hown, ht0⟩ (c_X10_notMeantBehind l G h0 h1 h2 h3 h4 h5 h6 h7 h8 h9 h10 h11 h12 h13 h14 h15 h16 h17 h18 h19 y0_0 y0_1 y0_2 y0_4 y0_5 y0_7 y0_8 y0_9 g_cur _ x0_11 x0_12 x1_1 x1_2 a2 x3_0_35 x3_1_35 x3_2_35 a5_35 a6_35 a7_35 a8_35 a9_35 x10_0 x10_1 x10_2 a11 a12 a13 a15 a16 a17 a18 a19 F u35_6 c35_1 c35_2 hq_cur _ _ _ _ _ _ _ _ _ hc_r_47_2) yk_X10_notMeantBehind wd_1221 ⟨rfl, rfl, by decide, by decide⟩ ⟨Nat.le_refl _, Nat.le_refl _⟩ hX hK hP hD hS hA [0, 1, 2, 3, 4, 5, 6, 7, 8, 9, 10, 11, 12, 13, 14, 15, 16, 17, 18, 19] [] [0, 1, 2, 3, 4, 5, 6, 7, 8, 9, 10, 11, 12, 13, 14, 15, 16, 17, 18, 19] (va_recv hK hP (ci := 10) (q0 := 0) rfl rfl) rfl rfl (by decide) rfl rfl rfl rfl rfl hl.1 rfl (Nat.le_of_ble_eq_true rfl) dX10_worst_47 (fun H locs hP hD hS => ?_)
        refine lv_istore (lv' := [(7, .int r_47_2), (0, .ref h0), (1, .int c35_1), (2, .int c35_2), (3, .int c35_3), (4, .int u35_4), (5, .int u35_5), (6, .int u35_6)]) hx hb dX10_worst_50 hl (by decide) rfl (fun ls hl => ?_)
        refine lv_iload hx hb dX10_worst_52 (lv_at hl 0 rfl) ?_
        refine lv_iload hx hb dX10_worst_54 (lv_at hl 6 rfl) ?_
        refine lv_icmp_le (tgt := 67) hx hb dX10_worst_56 (by decide) (fun c4 => ?_) (fun c4 => ?_)
        · have hf := of_pos hf c4
          exact kJ67 _ _ _ _ _ _ _ _ _ _ _ hf _ _ hP hD hS _ (lv_sub hl [1, 2, 3, 4, 5, 6, 7] rfl)
        · have hf := of_neg hf c4
          refine lv_iload hx hb dX10_worst_59 (lv_at hl 0 rfl) ?_
          refine lv_istore (lv' := [(5, .int r_47_2), (7, .int r_47_2), (0, .ref h0), (1, .int c35_1), (2, .int c35_2), (3, .int c35_3), (4, .int u35_4), (6, .int u35_6)]) hx hb dX10_worst_61 hl (by decide) rfl (fun ls hl => ?_)
          refine lv_iload hx hb dX10_worst_63 (lv_at hl 7 rfl) ?_
          refine lv_istore (lv' := [(4, .int u35_6), (5, .int r_47_2), (7, .int r_47_2), (0, .ref h0), (1, .int c35_1), (2, .int c35_2), (3, .int c35_3), (6, .int u35_6)]) hx hb dX10_worst_65 hl (by decide) rfl (fun ls hl => ?_)
          exact kJ67 _ _ _ _ _ _ _ _ _ _ _ hf _ _ hP hD hS _ (lv_sub hl [3, 4, 5, 6, 0, 1, 7] rfl)
  refine lv_iload_n hx hb dX10_worst_0 rfl (lv_at hl 1 rfl) ?_
  refine lv_bipush (v := (100 : Int32)) hx hb dX10_worst_1 (by decide) ?_
  refine lv_icmp_gt (tgt := 24) hx hb dX10_worst_3 (by decide) (fun c5 => ?_) (fun c5 => ?_)
  · have hf := of_pos hf c5
    refine lv_iconst (v := (-1 : Int32)) hx hb dX10_worst_24 (by decide) ?_
    cases hf
    exact ret_i hx hb hr hlk hK hP hD hS dX10_worst_25
  · have hf := of_neg hf c5
    refine lv_iconst (v := (0 : Int32)) hx hb dX10_worst_6 (by decide) ?_
    refine lv_iload_n hx hb dX10_worst_7 rfl (lv_at hl 1 rfl) ?_
    refine lv_iload_n hx hb dX10_worst_8 rfl (lv_at hl 2 rfl) ?_
    obtain ⟨r_9_5, hc_r_9_5, hf⟩ := of_bnd hf
    refine cl_Si (w2 := (wW_X10_worst G h0 h1 h2 h3 h4 h5 h6 h7 h8 h9 h10 h11 h12 h13 h14 h15 h16 h17 h18 h19 y0_0 y0_1 y0_2 y0_4 y0_5 y0_7 y0_8 y0_9 x0_11 x0_12 x1_1 x1_2 a2 x3_0 x3_1 x3_2 a5 a6 a7 a8 a9 x10_0 x10_1 x10_2 a11 a12 a13 a15 a16 a17 a18 a19)) (As := [.int (0 : Int32), .int b1, .int b2]) (rest := []) ⟨hx, hb, hml, hown, ht0⟩ (c_X10_isStorm l G _ F (0 : Int32) b1 b2 _ hc_r_9_5) yk_X10_isStorm wd_914 ⟨rfl, rfl, by decide, by decide⟩ ⟨Nat.le_refl _, Nat.le_refl _⟩ hX hK hP hD hS hA [] [0, 1, 2, 3, 4, 5, 6, 7, 8, 9, 10, 11, 12, 13, 14, 15, 16, 17, 18, 19] [0, 1, 2, 3, 4, 5, 6, 7, 8, 9, 10, 11, 12, 13, 14, 15, 16, 17, 18, 19] rfl rfl (by decide) rfl rfl rfl rfl rfl hl.1 rfl (Nat.le_of_ble_eq_true rfl) dX10_worst_9 (fun H locs hP hD hS => ?_)
    refine lv_if_eq (tgt := 24) hx hb dX10_worst_12 (by decide) (fun c7 => ?_) (fun c7 => ?_)
    · have hf := of_pos hf c7
      refine lv_iconst (v := (-1 : Int32)) hx hb dX10_worst_24 (by decide) ?_
      cases hf
      exact ret_i hx hb hr hlk hK hP hD hS dX10_worst_25
    · have hf := of_neg hf c7
      refine lv_iload_n hx hb dX10_worst_15 rfl (lv_at hl 3 rfl) ?_
      refine lv_if_lt (tgt := 24) hx hb dX10_worst_16 (by decide) (fun c8 => ?_) (fun c8 => ?_)
      · have hf := of_pos hf c8
        refine lv_iconst (v := (-1 : Int32)) hx hb dX10_worst_24 (by decide) ?_
        cases hf
        exact ret_i hx hb hr hlk hK hP hD hS dX10_worst_25
      · have hf := of_neg hf c8
        refine lv_iload_n hx hb dX10_worst_19 rfl (lv_at hl 3 rfl) ?_
        refine lv_iconst (v := (1 : Int32)) hx hb dX10_worst_20 (by decide) ?_
        refine lv_icmp_le (tgt := 26) hx hb dX10_worst_21 (by decide) (fun c9 => ?_) (fun c9 => ?_)
        · have hf := of_pos hf c9
          refine lv_iconst (v := (-1 : Int32)) hx hb dX10_worst_26 (by decide) ?_
          refine lv_istore (lv' := [(4, .int (-1 : Int32)), (0, .ref h0), (1, .int b1), (2, .int b2), (3, .int b3)]) hx hb dX10_worst_27 hl (by decide) rfl (fun ls hl => ?_)
          refine lv_iconst (v := (-1 : Int32)) hx hb dX10_worst_29 (by decide) ?_
          refine lv_istore (lv' := [(5, .int (-1 : Int32)), (4, .int (-1 : Int32)), (0, .ref h0), (1, .int b1), (2, .int b2), (3, .int b3)]) hx hb dX10_worst_30 hl (by decide) rfl (fun ls hl => ?_)
          refine lv_iconst (v := (0 : Int32)) hx hb dX10_worst_32 (by decide) ?_
          refine lv_istore (lv' := [(6, .int (0 : Int32)), (5, .int (-1 : Int32)), (4, .int (-1 : Int32)), (0, .ref h0), (1, .int b1), (2, .int b2), (3, .int b3)]) hx hb dX10_worst_33 hl (by decide) rfl (fun ls hl => ?_)
          exact kL35 _ _ _ _ _ _ _ _ _ _ _ _ _ _ _ hf _ _ hP hD hS _ (lv_sub hl [3, 4, 5, 6, 2, 1, 0] rfl)
        · have hf := of_neg hf c9
          refine lv_iconst (v := (-1 : Int32)) hx hb dX10_worst_24 (by decide) ?_
          cases hf
          exact ret_i hx hb hr hlk hK hP hD hS dX10_worst_25
theorem yk_X10_worst : ykV yX10_worst RX10 cX10_worst 8 (some .int) 3 := ⟨wd_1227, wd_1228, wd_127, wd_1229, rfl, by decide +kernel, by decide +kernel, by decide +kernel⟩
theorem dX10_interval_0 : decode cX10_interval 0 = .ok (.iload_n 2, 1) := by decide +kernel
theorem dX10_interval_1 : decode cX10_interval 1 = .ok (.iconst 1, 1) := by decide +kernel
theorem dX10_interval_2 : decode cX10_interval 2 = .ok (.if_icmp .lt 12, 3) := by decide +kernel
theorem dX10_interval_5 : decode cX10_interval 5 = .ok (.iload_n 1, 1) := by decide +kernel
theorem dX10_interval_6 : decode cX10_interval 6 = .ok (.iload_n 2, 1) := by decide +kernel
theorem dX10_interval_7 : decode cX10_interval 7 = .ok (.iconst 0, 1) := by decide +kernel
theorem dX10_interval_8 : decode cX10_interval 8 = .ok (.invokestatic 185, 3) := by decide +kernel
theorem dX10_interval_11 : decode cX10_interval 11 = .ok (.ifCond .ne 5, 3) := by decide +kernel
theorem dX10_interval_14 : decode cX10_interval 14 = .ok (.iconst (-1), 1) := by decide +kernel
theorem dX10_interval_15 : decode cX10_interval 15 = .ok (.ireturn, 1) := by decide +kernel
theorem dX10_interval_16 : decode cX10_interval 16 = .ok (.bipush 50, 2) := by decide +kernel
theorem dX10_interval_18 : decode cX10_interval 18 = .ok (.istore_n 3, 1) := by decide +kernel
theorem dX10_interval_19 : decode cX10_interval 19 = .ok (.iload_n 3, 1) := by decide +kernel
theorem dX10_interval_20 : decode cX10_interval 20 = .ok (.iconst 1, 1) := by decide +kernel
theorem dX10_interval_21 : decode cX10_interval 21 = .ok (.if_icmp .lt 21, 3) := by decide +kernel
theorem dX10_interval_24 : decode cX10_interval 24 = .ok (.aload_n 0, 1) := by decide +kernel
theorem dX10_interval_25 : decode cX10_interval 25 = .ok (.iload_n 1, 1) := by decide +kernel
theorem dX10_interval_26 : decode cX10_interval 26 = .ok (.iload_n 2, 1) := by decide +kernel
theorem dX10_interval_27 : decode cX10_interval 27 = .ok (.iload_n 3, 1) := by decide +kernel
theorem dX10_interval_28 : decode cX10_interval 28 = .ok (.invokevirtual 360, 3) := by decide +kernel
theorem dX10_interval_31 : decode cX10_interval 31 = .ok (.ifCond .ne 5, 3) := by decide +kernel
theorem dX10_interval_34 : decode cX10_interval 34 = .ok (.iload_n 3, 1) := by decide +kernel
theorem dX10_interval_35 : decode cX10_interval 35 = .ok (.ireturn, 1) := by decide +kernel
theorem dX10_interval_36 : decode cX10_interval 36 = .ok (.iinc 3 (-1), 3) := by decide +kernel
theorem dX10_interval_39 : decode cX10_interval 39 = .ok (.goto (-20), 3) := by decide +kernel
theorem dX10_interval_42 : decode cX10_interval 42 = .ok (.iconst 0, 1) := by decide +kernel
theorem dX10_interval_43 : decode cX10_interval 43 = .ok (.ireturn, 1) := by decide +kernel
def wW_X10_interval (G : GG) (h0 h1 h2 h3 h4 h5 h6 h7 h8 h9 h10 h11 h12 h13 h14 h15 h16 h17 h18 h19 y0_0 y0_1 y0_2 y0_4 y0_5 y0_7 y0_8 y0_9 : Nat) (x0_11 : Int32) (x0_12 : Int32) (x1_1 : Int32) (x1_2 : Int32) (a2 : Nat → Option Nat) (x3_0 : Int32) (x3_1 : Int32) (x3_2 : Int32) (a5 : Nat → Int32) (a6 : Nat → Int32) (a7 : Nat → Int32) (a8 : Nat → Int32) (a9 : Nat → Int32) (x10_0 : Int32) (x10_1 : Int32) (x10_2 : Int32) (a11 : Nat → Int32) (a12 : Nat → Int32) (a13 : Nat → Int32) (a15 : Nat → Int32) (a16 : Nat → Int32) (a17 : Nat → Int32) (a18 : Nat → Int32) (a19 : Nat → Int32) : va_W := [(h0, .inr (10, [.ref y0_0, .ref y0_1, .ref y0_2, .ref h1, .ref y0_4, .ref y0_5, .ref h3, .ref y0_7, .ref y0_8, .ref y0_9, .ref h4, .int x0_11, .int x0_12])), (h1, .inr (8, [.ref h2, .int x1_1, .int x1_2])), (h2, .inl (G.2.2.2.2.1, 13, .inr (.inr (.inr (.inr a2))))), (h3, .inr (2, [.int x3_0, .int x3_1, .int x3_2])), (h4, .inr (9, [.ref h5, .ref h6, .ref h7, .ref h8, .ref h9])), (h5, .inl (G.2.1, 16, .inl a5)), (h6, .inl (G.2.1, 16, .inl a6)), (h7, .inl (G.2.1, 16, .inl a7)), (h8, .inl (G.2.1, 16, .inl a8)), (h9, .inl (G.2.1, 8, .inl a9)), (h10, .inr (1, [.int x10_0, .int x10_1, .int x10_2, .ref h11, .ref h12, .ref h13])), (h11, .inl (G.2.1, 32, .inl a11)), (h12, .inl (G.2.1, 256, .inl a12)), (h13, .inl (G.2.1, 256, .inl a13)), (h14, .inr (9, [.ref h15, .ref h16, .ref h17, .ref h18, .ref h19])), (h15, .inl (G.2.1, 16, .inl a15)), (h16, .inl (G.2.1, 16, .inl a16)), (h17, .inl (G.2.1, 16, .inl a17)), (h18, .inl (G.2.1, 16, .inl a18)), (h19, .inl (G.2.1, 8, .inl a19))]
set_option maxHeartbeats 4000000 in
set_option maxRecDepth 100000 in
theorem c_X10_interval (l : Launch) (G : GG) (h0 h1 h2 h3 h4 h5 h6 h7 h8 h9 h10 h11 h12 h13 h14 h15 h16 h17 h18 h19 y0_0 y0_1 y0_2 y0_4 y0_5 y0_7 y0_8 y0_9 g_cur : Nat) (sz : Nat) (x0_11 : Int32) (x0_12 : Int32) (x1_1 : Int32) (x1_2 : Int32) (a2 : Nat → Option Nat) (x3_0 : Int32) (x3_1 : Int32) (x3_2 : Int32) (a5 : Nat → Int32) (a6 : Nat → Int32) (a7 : Nat → Int32) (a8 : Nat → Int32) (a9 : Nat → Int32) (x10_0 : Int32) (x10_1 : Int32) (x10_2 : Int32) (a11 : Nat → Int32) (a12 : Nat → Int32) (a13 : Nat → Int32) (a15 : Nat → Int32) (a16 : Nat → Int32) (a17 : Nat → Int32) (a18 : Nat → Int32) (a19 : Nat → Int32) (F : Nat) (b1 : Int32) (b2 : Int32) (hq_cur : (g_cur, h10, h14) ∈ gS G)  (r0 : Int32) (e_x3_0 : Int32) (e_x3_1 : Int32) (e_x3_2 : Int32) (e_a5 : Nat → Int32) (e_a6 : Nat → Int32) (e_a7 : Nat → Int32) (e_a8 : Nat → Int32) (e_a9 : Nat → Int32) (hf : p_X10_interval F g_cur x1_1 a2 x3_0 x3_1 x3_2 a5 a6 a7 a8 a9 x10_0 x10_1 x10_2 a11 a12 a13 a15 a16 a17 a18 a19 b1 b2 = some (r0, e_x3_0, e_x3_1, e_x3_2, e_a5, e_a6, e_a7, e_a8, e_a9)) : Met l yX10_interval (.code yX10_interval cX10_interval 4 (some .int) :: gtbl) ({ frames := 7, cells := 0, slots := 0, locals := 176 } : Room) (PcS G [.ref h0, .int b1, .int b2] (wW_X10_interval G h0 h1 h2 h3 h4 h5 h6 h7 h8 h9 h10 h11 h12 h13 h14 h15 h16 h17 h18 h19 y0_0 y0_1 y0_2 y0_4 y0_5 y0_7 y0_8 y0_9 x0_11 x0_12 x1_1 x1_2 a2 x3_0 x3_1 x3_2 a5 a6 a7 a8 a9 x10_0 x10_1 x10_2 a11 a12 a13 a15 a16 a17 a18 a19) sz) (QiS G r0 (va_A (wW_X10_interval G h0 h1 h2 h3 h4 h5 h6 h7 h8 h9 h10 h11 h12 h13 h14 h15 h16 h17 h18 h19 y0_0 y0_1 y0_2 y0_4 y0_5 y0_7 y0_8 y0_9 x0_11 x0_12 x1_1 x1_2 a2 x3_0 x3_1 x3_2 a5 a6 a7 a8 a9 x10_0 x10_1 x10_2 a11 a12 a13 a15 a16 a17 a18 a19) sz) (wW_X10_interval G h0 h1 h2 h3 h4 h5 h6 h7 h8 h9 h10 h11 h12 h13 h14 h15 h16 h17 h18 h19 y0_0 y0_1 y0_2 y0_4 y0_5 y0_7 y0_8 y0_9 x0_11 x0_12 x1_1 x1_2 a2 e_x3_0 e_x3_1 e_x3_2 e_a5 e_a6 e_a7 e_a8 e_a9 x10_0 x10_1 x10_2 a11 a12 a13 a15 a16 a17 a18 a19)) 0 0 (va_A (wW_X10_interval G h0 h1 h2 h3 h4 h5 h6 h7 h8 h9 h10 h11 h12 h13 h14 h15 h16 h17 h18 h19 y0_0 y0_1 y0_2 y0_4 y0_5 y0_7 y0_8 y0_9 x0_11 x0_12 x1_1 x1_2 a2 x3_0 x3_1 x3_2 a5 a6 a7 a8 a9 x10_0 x10_1 x10_2 a11 a12 a13 a15 a16 a17 a18 a19) sz) := by
  refine met_start (by decide) (Nat.le_of_ble_eq_true rfl) ?_
  intro p e s m below meth c hC hr hlk hnm hK hP hD hA hS hX ls hl
  obtain ⟨hx, hb, hml, hown, ht0⟩ := hC
  have hown : s.vm.findClass RX10 = some m.cls := hown
  generalize va_A (wW_X10_interval G h0 h1 h2 h3 h4 h5 h6 h7 h8 h9 h10 h11 h12 h13 h14 h15 h16 h17 h18 h19 y0_0 y0_1 y0_2 y0_4 y0_5 y0_7 y0_8 y0_9 x0_11 x0_12 x1_1 x1_2 a2 x3_0 x3_1 x3_2 a5 a6 a7 a8 a9 x10_0 x10_1 x10_2 a11 a12 a13 a15 a16 a17 a18 a19) sz = A at hD hA hS hX ⊢
  have hl : lv_has ls 4 [(0, .ref h0), (1, .int b1), (2, .int b2)] := hl
  have hf : p_X10_interval F g_cur x1_1 a2 x3_0 x3_1 x3_2 a5 a6 a7 a8 a9 x10_0 x10_1 x10_2 a11 a12 a13 a15 a16 a17 a18 a19 b1 b2 = some (r0, e_x3_0, e_x3_1, e_x3_2, e_a5, e_a6, e_a7, e_a8, e_a9) := hf
  have kL19 : ∀ (c19_1 : Int32) (c19_2 : Int32) (n19 : Nat) (u19_3 : Int32) (x3_0_19 : Int32) (x3_1_19 : Int32) (x3_2_19 : Int32) (a5_19 : Nat → Int32) (a6_19 : Nat → Int32) (a7_19 : Nat → Int32) (a8_19 : Nat → Int32) (a9_19 : Nat → Int32), p_X10_interval_L19 F g_cur x1_1 a2 x10_0 x10_1 x10_2 a11 a12 a13 a15 a16 a17 a18 a19 c19_1 c19_2 n19 u19_3 x3_0_19 x3_1_19 x3_2_19 a5_19 a6_19 a7_19 a8_19 a9_19 = some (r0, e_x3_0, e_x3_1, e_x3_2, e_a5, e_a6, e_a7, e_a8, e_a9) → ∀ (H : Heap) (locs : List Loc), va_P G.1 vwCl (wW_X10_interval G h0 h1 h2 h3 h4 h5 h6 h7 h8 h9 h10 h11 h12 h13 h14 h15 h16 h17 h18 h19 y0_0 y0_1 y0_2 y0_4 y0_5 y0_7 y0_8 y0_9 x0_11 x0_12 x1_1 x1_2 a2 x3_0_19 x3_1_19 x3_2_19 a5_19 a6_19 a7_19 a8_19 a9_19 x10_0 x10_1 x10_2 a11 a12 a13 a15 a16 a17 a18 a19) H → va_D A (wW_X10_interval G h0 h1 h2 h3 h4 h5 h6 h7 h8 h9 h10 h11 h12 h13 h14 h15 h16 h17 h18 h19 y0_0 y0_1 y0_2 y0_4 y0_5 y0_7 y0_8 y0_9 x0_11 x0_12 x1_1 x1_2 a2 x3_0_19 x3_1_19 x3_2_19 a5_19 a6_19 a7_19 a8_19 a9_19 x10_0 x10_1 x10_2 a11 a12 a13 a15 a16 a17 a18 a19) → va_S A s.heap H locs → ∀ ls : Array Slot, lv_has ls 4 [(0, .ref h0), (1, .int c19_1), (2, .int c19_2), (3, .int u19_3)] → W p l e ({ frames := 7, cells := 0, slots := 0, locals := 176 } : Room) s m (List.toArray [.ref h0, .int b1, .int b2]) below meth c H locs 0 0 (MQ below (QiS G r0 A (wW_X10_interval G h0 h1 h2 h3 h4 h5 h6 h7 h8 h9 h10 h11 h12 h13 h14 h15 h16 h17 h18 h19 y0_0 y0_1 y0_2 y0_4 y0_5 y0_7 y0_8 y0_9 x0_11 x0_12 x1_1 x1_2 a2 e_x3_0 e_x3_1 e_x3_2 e_a5 e_a6 e_a7 e_a8 e_a9 x10_0 x10_1 x10_2 a11 a12 a13 a15 a16 a17 a18 a19)) (List.toArray [.ref h0, .int b1, .int b2]) s 0 0 A) (F0 m 19 ls []) := by
    intro c19_1 c19_2 n19
    induction n19 with
    | zero =>
      intro u19_3 x3_0_19 x3_1_19 x3_2_19 a5_19 a6_19 a7_19 a8_19 a9_19 hf
      cases hf
    | succ n19 ih19 =>
      intro u19_3 x3_0_19 x3_1_19 x3_2_19 a5_19 a6_19 a7_19 a8_19 a9_19 hf H locs hP hD hS ls hl
      have hf : p_X10_interval_L19b F g_cur x1_1 a2 x10_0 x10_1 x10_2 a11 a12 a13 a15 a16 a17 a18 a19 c19_1 c19_2 (p_X10_interval_L19 F g_cur x1_1 a2 x10_0 x10_1 x10_2 a11 a12 a13 a15 a16 a17 a18 a19 c19_1 c19_2 n19) u19_3 x3_0_19 x3_1_19 x3_2_19 a5_19 a6_19 a7_19 a8_19 a9_19 = some (r0, e_x3_0, e_x3_1, e_x3_2, e_a5, e_a6, e_a7, e_a8, e_a9) := hf
      refine lv_iload_n hx hb dX10_interval_19 rfl (lv_at hl 3 rfl) ?_
      refine lv_iconst (v := (1 : Int32)) hx hb dX10_interval_20 (by decide) ?_
      refine lv_icmp_lt (tgt := 42) hx hb dX10_interval_21 (by decide) (fun c1 => ?_) (fun c1 => ?_)
      · have hf := of_pos hf c1
        refine lv_iconst (v := (0 : Int32)) hx hb dX10_interval_42 (by decide) ?_
        cases hf
        exact ret_i hx hb hr hlk hK hP hD hS dX10_interval_43
      · have hf := of_neg hf c1
        refine lv_aload_n hx hb dX10_interval_24 rfl (lv_at hl 0 rfl) ?_
        refine lv_iload_n hx hb dX10_interval_25 rfl (lv_at hl 1 rfl) ?_
        refine lv_iload_n hx hb dX10_interval_26 rfl (lv_at hl 2 rfl) ?_
        refine lv_iload_n hx hb dX10_interval_27 rfl (lv_at hl 3 rfl) ?_
        obtain ⟨⟨r_28_1, r_28_1_x3_0, r_28_1_x3_1, r_28_1_x3_2, r_28_1_a5, r_28_1_a6, r_28_1_a7, r_28_1_a8, r_28_1_a9⟩, hc_r_28_1, hf⟩ := of_bnd hf
        refine cl_Vi (w2 := (wW_X10_interval G h0 h1 h2 h3 h4 h5 h6 h7 h8 h9 h10 h11 h12 h13 h14 h15 h16 h17 h18 h19 y0_0 y0_1 y0_2 y0_4 y0_5 y0_7 y0_8 y0_9 x0_11 x0_12 x1_1 x1_2 a2 r_28_1_x3_0 r_28_1_x3_1 r_28_1_x3_2 r_28_1_a5 r_28_1_a6 r_28_1_a7 r_28_1_a8 r_28_1_a9 x10_0 x10_1 x10_2 a11 a12 a13 a15 a16 a17 a18 a19)) (As := [.int c19_1, .int c19_2, .int u19_3]) (rest := []) ⟨hx, hb, hml, hown, ht0⟩ (c_X10_notMeantBehind l G h0 h1 h2 h3 h4 h5 h6 h7 h8 h9 h10 h11 h12 h13 h14 h15 h16 h17 h18 h19 y0_0 y0_1 y0_2 y0_4 y0_5 y0_7 y0_8 y0_9 g_cur _ x0_11 x0_12 x1_1 x1_2 a2 x3_0_19 x3_1_19 x3_2_19 a5_19 a6_19 a7_19 a8_19 a9_19 x10_0 x10_1 x10_2 a11 a12 a13 a15 a16 a17 a18 a19 F c19_1 c19_2 u19_3 hq_cur _ _ _ _ _ _ _ _ _ hc_r_28_1) yk_X10_notMeantBehind wd_1221 ⟨rfl, rfl, by decide, by decide⟩ ⟨Nat.le_refl _, Nat.le_refl _⟩ hX hK hP hD hS hA [0, 1, 2, 3, 4, 5, 6, 7, 8, 9, 10, 11, 12, 13, 14, 15, 16, 17, 18, 19] [] [0, 1, 2, 3, 4, 5, 6, 7, 8, 9, 10, 11, 12, 13, 14, 15, 16, 17, 18, 19] (va_recv hK hP (ci := 10) (q0 := 0) rfl rfl) rfl rfl (by decide) rfl rfl rfl rfl rfl hl.1 rfl (Nat.le_of_ble_eq_true rfl) dX10_interval_28 (fun H locs hP hD hS => ?_)
        refine lv_if_ne (tgt := 36) hx hb dX10_interval_31 (by decide) (fun c3 => ?_) (fun c3 => ?_)
        · have hf := of_neg hf c3
          refine lv_iinc (v := u19_3 + (-1 : Int32)) (lv' := [(3, .int (u19_3 + (-1 : Int32))), (0, .ref h0), (1, .int c19_1), (2, .int c19_2)]) hx hb dX10_interval_36 hl (k := 3) rfl (by rfl) (by decide) rfl (fun ls hl => ?_)
          refine lv_goto (tgt := 19) hx hb dX10_interval_39 (by decide) ?_
          exact ih19 _ _ _ _ _ _ _ _ _ hf _ _ hP hD hS _ (lv_sub hl [1, 2, 3, 0] rfl)
        · have hf := of_pos hf c3
          refine lv_iload_n hx hb dX10_interval_34 rfl (lv_at hl 3 rfl) ?_
          cases hf
          exact ret_i hx hb hr hlk hK hP hD hS dX10_interval_35
  refine lv_iload_n hx hb dX10_interval_0 rfl (lv_at hl 2 rfl) ?_
  refine lv_iconst (v := (1 : Int32)) hx hb dX10_interval_1 (by decide) ?_
  refine lv_icmp_lt (tgt := 14) hx hb dX10_interval_2 (by decide) (fun c4 => ?_) (fun c4 => ?_)
  · have hf := of_pos hf c4
    refine lv_iconst (v := (-1 : Int32)) hx hb dX10_interval_14 (by decide) ?_
    cases hf
    exact ret_i hx hb hr hlk hK hP hD hS dX10_interval_15
  · have hf := of_neg hf c4
    refine lv_iload_n hx hb dX10_interval_5 rfl (lv_at hl 1 rfl) ?_
    refine lv_iload_n hx hb dX10_interval_6 rfl (lv_at hl 2 rfl) ?_
    refine lv_iconst (v := (0 : Int32)) hx hb dX10_interval_7 (by decide) ?_
    obtain ⟨r_8_4, hc_r_8_4, hf⟩ := of_bnd hf
    refine cl_Si (w2 := (wW_X10_interval G h0 h1 h2 h3 h4 h5 h6 h7 h8 h9 h10 h11 h12 h13 h14 h15 h16 h17 h18 h19 y0_0 y0_1 y0_2 y0_4 y0_5 y0_7 y0_8 y0_9 x0_11 x0_12 x1_1 x1_2 a2 x3_0 x3_1 x3_2 a5 a6 a7 a8 a9 x10_0 x10_1 x10_2 a11 a12 a13 a15 a16 a17 a18 a19)) (As := [.int b1, .int b2, .int (0 : Int32)]) (rest := []) ⟨hx, hb, hml, hown, ht0⟩ (c_X10_isStorm l G _ F b1 b2 (0 : Int32) _ hc_r_8_4) yk_X10_isStorm wd_914 ⟨rfl, rfl, by decide, by decide⟩ ⟨Nat.le_refl _, Nat.le_refl _⟩ hX hK hP hD hS hA [] [0, 1, 2, 3, 4, 5, 6, 7, 8, 9, 10, 11, 12, 13, 14, 15, 16, 17, 18, 19] [0, 1, 2, 3, 4, 5, 6, 7, 8, 9, 10, 11, 12, 13, 14, 15, 16, 17, 18, 19] rfl rfl (by decide) rfl rfl rfl rfl rfl hl.1 rfl (Nat.le_of_ble_eq_true rfl) dX10_interval_8 (fun H locs hP hD hS => ?_)
    refine lv_if_ne (tgt := 16) hx hb dX10_interval_11 (by decide) (fun c6 => ?_) (fun c6 => ?_)
    · have hf := of_neg hf c6
      refine lv_bipush (v := (50 : Int32)) hx hb dX10_interval_16 (by decide) ?_
      refine lv_istore_n (lv' := [(3, .int (50 : Int32)), (0, .ref h0), (1, .int b1), (2, .int b2)]) hx hb dX10_interval_18 rfl hl (by decide) rfl (fun ls hl => ?_)
      exact kL19 _ _ _ _ _ _ _ _ _ _ _ _ hf _ _ hP hD hS _ (lv_sub hl [1, 2, 3, 0] rfl)
    · have hf := of_pos hf c6
      refine lv_iconst (v := (-1 : Int32)) hx hb dX10_interval_14 (by decide) ?_
      cases hf
      exact ret_i hx hb hr hlk hK hP hD hS dX10_interval_15
theorem yk_X10_interval : ykV yX10_interval RX10 cX10_interval 4 (some .int) 2 := ⟨wd_1231, wd_1232, wd_127, wd_1233, rfl, by decide +kernel, by decide +kernel, by decide +kernel⟩
theorem dX10_tally_0 : decode cX10_tally 0 = .ok (.iload_n 1, 1) := by decide +kernel
theorem dX10_tally_1 : decode cX10_tally 1 = .ok (.ifCond .lt 27, 3) := by decide +kernel
theorem dX10_tally_4 : decode cX10_tally 4 = .ok (.iload_n 1, 1) := by decide +kernel
theorem dX10_tally_5 : decode cX10_tally 5 = .ok (.bipush 8, 2) := by decide +kernel
theorem dX10_tally_7 : decode cX10_tally 7 = .ok (.if_icmp .ge 21, 3) := by decide +kernel
theorem dX10_tally_10 : decode cX10_tally 10 = .ok (.aload_n 0, 1) := by decide +kernel
theorem dX10_tally_11 : decode cX10_tally 11 = .ok (.getfield 29, 3) := by decide +kernel
theorem dX10_tally_14 : decode cX10_tally 14 = .ok (.invokevirtual 92, 3) := by decide +kernel
theorem dX10_tally_17 : decode cX10_tally 17 = .ok (.getfield 125, 3) := by decide +kernel
theorem dX10_tally_20 : decode cX10_tally 20 = .ok (.getfield 364, 3) := by decide +kernel
theorem dX10_tally_23 : decode cX10_tally 23 = .ok (.iload_n 1, 1) := by decide +kernel
theorem dX10_tally_24 : decode cX10_tally 24 = .ok (.iaload, 1) := by decide +kernel
theorem dX10_tally_25 : decode cX10_tally 25 = .ok (.goto 4, 3) := by decide +kernel
theorem dX10_tally_28 : decode cX10_tally 28 = .ok (.iconst (-1), 1) := by decide +kernel
theorem dX10_tally_29 : decode cX10_tally 29 = .ok (.ireturn, 1) := by decide +kernel
def wW_X10_tally (G : GG) (h0 h1 h2 h3 h4 y0_0 y0_1 y0_2 y0_4 y0_5 y0_6 y0_7 y0_8 y0_9 y0_10 y3_0 y3_1 y3_2 y3_3 : Nat) (x0_11 : Int32) (x0_12 : Int32) (x1_1 : Int32) (x1_2 : Int32) (a2 : Nat → Option Nat) (a4 : Nat → Int32) : va_W := [(h0, .inr (10, [.ref y0_0, .ref y0_1, .ref y0_2, .ref h1, .ref y0_4, .ref y0_5, .ref y0_6, .ref y0_7, .ref y0_8, .ref y0_9, .ref y0_10, .int x0_11, .int x0_12])), (h1, .inr (8, [.ref h2, .int x1_1, .int x1_2])), (h2, .inl (G.2.2.2.2.1, 13, .inr (.inr (.inr (.inr a2))))), (h3, .inr (9, [.ref y3_0, .ref y3_1, .ref y3_2, .ref y3_3, .ref h4])), (h4, .inl (G.2.1, 8, .inl a4))]
set_option maxHeartbeats 4000000 in
set_option maxRecDepth 100000 in
theorem c_X10_tally (l : Launch) (G : GG) (h0 h1 h2 h3 h4 y0_0 y0_1 y0_2 y0_4 y0_5 y0_6 y0_7 y0_8 y0_9 y0_10 y3_0 y3_1 y3_2 y3_3 g_cur y_cur_code : Nat) (sz : Nat) (x0_11 : Int32) (x0_12 : Int32) (x1_1 : Int32) (x1_2 : Int32) (a2 : Nat → Option Nat) (a4 : Nat → Int32) (F : Nat) (b1 : Int32) (hq_cur : (g_cur, y_cur_code, h3) ∈ gS G)  (r0 : Int32) (hf : p_X10_tally F g_cur x1_1 a2 a4 b1 = some r0) : Met l yX10_tally (.code yX10_tally cX10_tally 2 (some .int) :: gtbl) ({ frames := 1, cells := 0, slots := 0, locals := 20 } : Room) (PcS G [.ref h0, .int b1] (wW_X10_tally G h0 h1 h2 h3 h4 y0_0 y0_1 y0_2 y0_4 y0_5 y0_6 y0_7 y0_8 y0_9 y0_10 y3_0 y3_1 y3_2 y3_3 x0_11 x0_12 x1_1 x1_2 a2 a4) sz) (QiS G r0 (va_A (wW_X10_tally G h0 h1 h2 h3 h4 y0_0 y0_1 y0_2 y0_4 y0_5 y0_6 y0_7 y0_8 y0_9 y0_10 y3_0 y3_1 y3_2 y3_3 x0_11 x0_12 x1_1 x1_2 a2 a4) sz) (wW_X10_tally G h0 h1 h2 h3 h4 y0_0 y0_1 y0_2 y0_4 y0_5 y0_6 y0_7 y0_8 y0_9 y0_10 y3_0 y3_1 y3_2 y3_3 x0_11 x0_12 x1_1 x1_2 a2 a4)) 0 0 (va_A (wW_X10_tally G h0 h1 h2 h3 h4 y0_0 y0_1 y0_2 y0_4 y0_5 y0_6 y0_7 y0_8 y0_9 y0_10 y3_0 y3_1 y3_2 y3_3 x0_11 x0_12 x1_1 x1_2 a2 a4) sz) := by
  refine met_start (by decide) (Nat.le_of_ble_eq_true rfl) ?_
  intro p e s m below meth c hC hr hlk hnm hK hP hD hA hS hX ls hl
  obtain ⟨hx, hb, hml, hown, ht0⟩ := hC
  have hown : s.vm.findClass RX10 = some m.cls := hown
  generalize va_A (wW_X10_tally G h0 h1 h2 h3 h4 y0_0 y0_1 y0_2 y0_4 y0_5 y0_6 y0_7 y0_8 y0_9 y0_10 y3_0 y3_1 y3_2 y3_3 x0_11 x0_12 x1_1 x1_2 a2 a4) sz = A at hD hA hS hX ⊢
  have hl : lv_has ls 2 [(0, .ref h0), (1, .int b1)] := hl
  have hf : p_X10_tally F g_cur x1_1 a2 a4 b1 = some r0 := hf
  refine lv_iload_n hx hb dX10_tally_0 rfl (lv_at hl 1 rfl) ?_
  refine lv_if_lt (tgt := 28) hx hb dX10_tally_1 (by decide) (fun c1 => ?_) (fun c1 => ?_)
  · have hf := of_pos hf c1
    refine lv_iconst (v := (-1 : Int32)) hx hb dX10_tally_28 (by decide) ?_
    cases hf
    exact ret_i hx hb hr hlk hK hP hD hS dX10_tally_29
  · have hf := of_neg hf c1
    refine lv_iload_n hx hb dX10_tally_4 rfl (lv_at hl 1 rfl) ?_
    refine lv_bipush (v := (8 : Int32)) hx hb dX10_tally_5 (by decide) ?_
    refine lv_icmp_ge (tgt := 28) hx hb dX10_tally_7 (by decide) (fun c2 => ?_) (fun c2 => ?_)
    · have hf := of_pos hf c2
      refine lv_iconst (v := (-1 : Int32)) hx hb dX10_tally_28 (by decide) ?_
      cases hf
      exact ret_i hx hb hr hlk hK hP hD hS dX10_tally_29
    · have hf := of_neg hf c2
      refine lv_aload_n hx hb dX10_tally_10 rfl (lv_at hl 0 rfl) ?_
      refine va_get (ci := 10) (v := .ref h1) (C := RX10) (T := TX10) (N := 13) hx hb ht0 iX10 hown hK hP 0 rfl rfl 3 (by decide) (ht0 _ wd_543) (fun _ h9 => h9) rfl dX10_tally_11 ?_
      obtain ⟨_, hc_r_14_2, hf⟩ := of_bnd hf
      refine cl_Vr (w2 := (wW_X10_tally G h0 h1 h2 h3 h4 y0_0 y0_1 y0_2 y0_4 y0_5 y0_6 y0_7 y0_8 y0_9 y0_10 y3_0 y3_1 y3_2 y3_3 x0_11 x0_12 x1_1 x1_2 a2 a4)) (As := []) (rest := []) ⟨hx, hb, hml, hown, ht0⟩ (c_X8_now l G h1 h2 g_cur y_cur_code h3 _ x1_1 x1_2 a2 F hq_cur hc_r_14_2) yk_X8_now wd_531 ⟨rfl, rfl, by decide, by decide⟩ ⟨Nat.le_refl _, Nat.le_refl _⟩ hX hK hP hD hS hA [1, 2] [0, 3, 4] [0, 3, 4, 1, 2] (va_recv hK hP (ci := 8) (q0 := 1) rfl rfl) rfl rfl (by decide) rfl rfl rfl rfl rfl hl.1 rfl (Nat.le_of_ble_eq_true rfl) dX10_tally_14 (fun H locs hP hD hS => ?_)
      refine vk_getf hx hb (hX.2.2 _ hq_cur).2.2 hS hown (ht0 _ wd_344) (fun _ h => h) dX10_tally_17 ?_
      refine va_get (ci := 9) (v := .ref h4) (C := RX9) (T := TX9) (N := 5) hx hb ht0 iX9 hown hK hP 3 rfl rfl 4 (by decide) (ht0 _ wd_329) (fun _ h9 => h9) rfl dX10_tally_20 ?_
      refine lv_iload_n hx hb dX10_tally_23 rfl (lv_at hl 1 rfl) ?_
      obtain ⟨g4, hf⟩ := of_grd hf
      refine va_iald hx hb hK hP 4 0 rfl rfl g4 dX10_tally_24 ?_
      refine lv_goto (tgt := 29) hx hb dX10_tally_25 (by decide) ?_
      cases hf
      exact ret_i hx hb hr hlk hK hP hD hS dX10_tally_29
theorem yk_X10_tally : ykV yX10_tally RX10 cX10_tally 2 (some .int) 1 := ⟨wd_1235, wd_1236, wd_127, wd_1237, rfl, by decide +kernel, by decide +kernel, by decide +kernel⟩
theorem dX10_image_0 : decode cX10_image 0 = .ok (.iload_n 1, 1) := by decide +kernel
theorem dX10_image_1 : decode cX10_image 1 = .ok (.ifCond .lt 8, 3) := by decide +kernel
theorem dX10_image_4 : decode cX10_image 4 = .ok (.iload_n 1, 1) := by decide +kernel
theorem dX10_image_5 : decode cX10_image 5 = .ok (.iconst 2, 1) := by decide +kernel
theorem dX10_image_6 : decode cX10_image 6 = .ok (.if_icmp .lt 5, 3) := by decide +kernel
theorem dX10_image_9 : decode cX10_image 9 = .ok (.iconst (-1), 1) := by decide +kernel
theorem dX10_image_10 : decode cX10_image 10 = .ok (.ireturn, 1) := by decide +kernel
theorem dX10_image_11 : decode cX10_image 11 = .ok (.aload_n 0, 1) := by decide +kernel
theorem dX10_image_12 : decode cX10_image 12 = .ok (.getfield 36, 3) := by decide +kernel
theorem dX10_image_15 : decode cX10_image 15 = .ok (.iload_n 1, 1) := by decide +kernel
theorem dX10_image_16 : decode cX10_image 16 = .ok (.aaload, 1) := by decide +kernel
theorem dX10_image_17 : decode cX10_image 17 = .ok (.aload_n 0, 1) := by decide +kernel
theorem dX10_image_18 : decode cX10_image 18 = .ok (.getfield 29, 3) := by decide +kernel
theorem dX10_image_21 : decode cX10_image 21 = .ok (.invokevirtual 92, 3) := by decide +kernel
theorem dX10_image_24 : decode cX10_image 24 = .ok (.invokevirtual 367, 3) := by decide +kernel
theorem dX10_image_27 : decode cX10_image 27 = .ok (.aload_n 0, 1) := by decide +kernel
theorem dX10_image_28 : decode cX10_image 28 = .ok (.getfield 40, 3) := by decide +kernel
theorem dX10_image_31 : decode cX10_image 31 = .ok (.iload_n 1, 1) := by decide +kernel
theorem dX10_image_32 : decode cX10_image 32 = .ok (.iconst 1, 1) := by decide +kernel
theorem dX10_image_33 : decode cX10_image 33 = .ok (.bastore, 1) := by decide +kernel
theorem dX10_image_34 : decode cX10_image 34 = .ok (.aload_n 0, 1) := by decide +kernel
theorem dX10_image_35 : decode cX10_image 35 = .ok (.getfield 29, 3) := by decide +kernel
theorem dX10_image_38 : decode cX10_image 38 = .ok (.invokevirtual 92, 3) := by decide +kernel
theorem dX10_image_41 : decode cX10_image 41 = .ok (.getfield 125, 3) := by decide +kernel
theorem dX10_image_44 : decode cX10_image 44 = .ok (.invokevirtual 192, 3) := by decide +kernel
theorem dX10_image_47 : decode cX10_image 47 = .ok (.ireturn, 1) := by decide +kernel
def wW_X10_image (G : GG) (h0 h1 h2 h3 h4 h5 h6 h7 h8 h9 h10 h11 h12 h13 h14 h15 h16 h17 h18 h19 h20 h21 h22 h23 h24 y0_0 y0_1 y0_2 y0_6 y0_7 y0_8 y0_9 y0_10 : Nat) (x0_11 : Int32) (x0_12 : Int32) (x1_1 : Int32) (x1_2 : Int32) (a2 : Nat → Option Nat) (a3 : Nat → Option Nat) (a4 : Nat → Int32) (x5_0 : Int32) (x5_1 : Int32) (x5_2 : Int32) (a6 : Nat → Int32) (a7 : Nat → Int32) (a8 : Nat → Int32) (a10 : Nat → Int32) (a11 : Nat → Int32) (a12 : Nat → Int32) (a13 : Nat → Int32) (a14 : Nat → Int32) (x15_0 : Int32) (x15_1 : Int32) (x15_2 : Int32) (a16 : Nat → Int32) (a17 : Nat → Int32) (a18 : Nat → Int32) (a20 : Nat → Int32) (a21 : Nat → Int32) (a22 : Nat → Int32) (a23 : Nat → Int32) (a24 : Nat → Int32) : va_W := [(h0, .inr (10, [.ref y0_0, .ref y0_1, .ref y0_2, .ref h1, .ref h3, .ref h4, .ref y0_6, .ref y0_7, .ref y0_8, .ref y0_9, .ref y0_10, .int x0_11, .int x0_12])), (h1, .inr (8, [.ref h2, .int x1_1, .int x1_2])), (h2, .inl (G.2.2.2.2.1, 13, .inr (.inr (.inr (.inr a2))))), (h3, .inl (G.2.2.2.2.1, 2, .inr (.inr (.inr (.inr a3))))), (h4, .inl (G.2.2.1, 2, .inl a4)), (h5, .inr (1, [.int x5_0, .int x5_1, .int x5_2, .ref h6, .ref h7, .ref h8])), (h6, .inl (G.2.1, 32, .inl a6)), (h7, .inl (G.2.1, 256, .inl a7)), (h8, .inl (G.2.1, 256, .inl a8)), (h9, .inr (9, [.ref h10, .ref h11, .ref h12, .ref h13, .ref h14])), (h10, .inl (G.2.1, 16, .inl a10)), (h11, .inl (G.2.1, 16, .inl a11)), (h12, .inl (G.2.1, 16, .inl a12)), (h13, .inl (G.2.1, 16, .inl a13)), (h14, .inl (G.2.1, 8, .inl a14)), (h15, .inr (1, [.int x15_0, .int x15_1, .int x15_2, .ref h16, .ref h17, .ref h18])), (h16, .inl (G.2.1, 32, .inl a16)), (h17, .inl (G.2.1, 256, .inl a17)), (h18, .inl (G.2.1, 256, .inl a18)), (h19, .inr (9, [.ref h20, .ref h21, .ref h22, .ref h23, .ref h24])), (h20, .inl (G.2.1, 16, .inl a20)), (h21, .inl (G.2.1, 16, .inl a21)), (h22, .inl (G.2.1, 16, .inl a22)), (h23, .inl (G.2.1, 16, .inl a23)), (h24, .inl (G.2.1, 8, .inl a24))]
set_option maxHeartbeats 4000000 in
set_option maxRecDepth 100000 in
theorem c_X10_image (l : Launch) (G : GG) (h0 h1 h2 h3 h4 h5 h6 h7 h8 h9 h10 h11 h12 h13 h14 h15 h16 h17 h18 h19 h20 h21 h22 h23 h24 y0_0 y0_1 y0_2 y0_6 y0_7 y0_8 y0_9 y0_10 g_cur g_bx : Nat) (sz : Nat) (x0_11 : Int32) (x0_12 : Int32) (x1_1 : Int32) (x1_2 : Int32) (a2 : Nat → Option Nat) (a3 : Nat → Option Nat) (a4 : Nat → Int32) (x5_0 : Int32) (x5_1 : Int32) (x5_2 : Int32) (a6 : Nat → Int32) (a7 : Nat → Int32) (a8 : Nat → Int32) (a10 : Nat → Int32) (a11 : Nat → Int32) (a12 : Nat → Int32) (a13 : Nat → Int32) (a14 : Nat → Int32) (x15_0 : Int32) (x15_1 : Int32) (x15_2 : Int32) (a16 : Nat → Int32) (a17 : Nat → Int32) (a18 : Nat → Int32) (a20 : Nat → Int32) (a21 : Nat → Int32) (a22 : Nat → Int32) (a23 : Nat → Int32) (a24 : Nat → Int32) (F : Nat) (b1 : Int32) (hq_cur : (g_cur, h5, h9) ∈ gS G) (hq_bx : (g_bx, h15, h19) ∈ gS G)  (r0 : Int32) (e_a4 : Nat → Int32) (e_x15_0 : Int32) (e_x15_1 : Int32) (e_x15_2 : Int32) (e_a16 : Nat → Int32) (e_a17 : Nat → Int32) (e_a18 : Nat → Int32) (e_a20 : Nat → Int32) (e_a21 : Nat → Int32) (e_a22 : Nat → Int32) (e_a23 : Nat → Int32) (e_a24 : Nat → Int32) (hf : p_X10_image F g_cur g_bx x1_1 a2 a3 a4 x5_0 x5_1 x5_2 a6 a7 a8 a10 a11 a12 a13 a14 x15_0 x15_1 x15_2 a16 a17 a18 a20 a21 a22 a23 a24 b1 = some (r0, e_a4, e_x15_0, e_x15_1, e_x15_2, e_a16, e_a17, e_a18, e_a20, e_a21, e_a22, e_a23, e_a24)) : Met l yX10_image (.code yX10_image cX10_image 2 (some .int) :: gtbl) ({ frames := 3, cells := 0, slots := 0, locals := 90 } : Room) (PcS G [.ref h0, .int b1] (wW_X10_image G h0 h1 h2 h3 h4 h5 h6 h7 h8 h9 h10 h11 h12 h13 h14 h15 h16 h17 h18 h19 h20 h21 h22 h23 h24 y0_0 y0_1 y0_2 y0_6 y0_7 y0_8 y0_9 y0_10 x0_11 x0_12 x1_1 x1_2 a2 a3 a4 x5_0 x5_1 x5_2 a6 a7 a8 a10 a11 a12 a13 a14 x15_0 x15_1 x15_2 a16 a17 a18 a20 a21 a22 a23 a24) sz) (QiS G r0 (va_A (wW_X10_image G h0 h1 h2 h3 h4 h5 h6 h7 h8 h9 h10 h11 h12 h13 h14 h15 h16 h17 h18 h19 h20 h21 h22 h23 h24 y0_0 y0_1 y0_2 y0_6 y0_7 y0_8 y0_9 y0_10 x0_11 x0_12 x1_1 x1_2 a2 a3 a4 x5_0 x5_1 x5_2 a6 a7 a8 a10 a11 a12 a13 a14 x15_0 x15_1 x15_2 a16 a17 a18 a20 a21 a22 a23 a24) sz) (wW_X10_image G h0 h1 h2 h3 h4 h5 h6 h7 h8 h9 h10 h11 h12 h13 h14 h15 h16 h17 h18 h19 h20 h21 h22 h23 h24 y0_0 y0_1 y0_2 y0_6 y0_7 y0_8 y0_9 y0_10 x0_11 x0_12 x1_1 x1_2 a2 a3 e_a4 x5_0 x5_1 x5_2 a6 a7 a8 a10 a11 a12 a13 a14 e_x15_0 e_x15_1 e_x15_2 e_a16 e_a17 e_a18 e_a20 e_a21 e_a22 e_a23 e_a24)) 0 0 (va_A (wW_X10_image G h0 h1 h2 h3 h4 h5 h6 h7 h8 h9 h10 h11 h12 h13 h14 h15 h16 h17 h18 h19 h20 h21 h22 h23 h24 y0_0 y0_1 y0_2 y0_6 y0_7 y0_8 y0_9 y0_10 x0_11 x0_12 x1_1 x1_2 a2 a3 a4 x5_0 x5_1 x5_2 a6 a7 a8 a10 a11 a12 a13 a14 x15_0 x15_1 x15_2 a16 a17 a18 a20 a21 a22 a23 a24) sz) := by
  refine met_start (by decide) (Nat.le_of_ble_eq_true rfl) ?_
  intro p e s m below meth c hC hr hlk hnm hK hP hD hA hS hX ls hl
  obtain ⟨hx, hb, hml, hown, ht0⟩ := hC
  have hown : s.vm.findClass RX10 = some m.cls := hown
  generalize va_A (wW_X10_image G h0 h1 h2 h3 h4 h5 h6 h7 h8 h9 h10 h11 h12 h13 h14 h15 h16 h17 h18 h19 h20 h21 h22 h23 h24 y0_0 y0_1 y0_2 y0_6 y0_7 y0_8 y0_9 y0_10 x0_11 x0_12 x1_1 x1_2 a2 a3 a4 x5_0 x5_1 x5_2 a6 a7 a8 a10 a11 a12 a13 a14 x15_0 x15_1 x15_2 a16 a17 a18 a20 a21 a22 a23 a24) sz = A at hD hA hS hX ⊢
  have hl : lv_has ls 2 [(0, .ref h0), (1, .int b1)] := hl
  have hf : p_X10_image F g_cur g_bx x1_1 a2 a3 a4 x5_0 x5_1 x5_2 a6 a7 a8 a10 a11 a12 a13 a14 x15_0 x15_1 x15_2 a16 a17 a18 a20 a21 a22 a23 a24 b1 = some (r0, e_a4, e_x15_0, e_x15_1, e_x15_2, e_a16, e_a17, e_a18, e_a20, e_a21, e_a22, e_a23, e_a24) := hf
  refine lv_iload_n hx hb dX10_image_0 rfl (lv_at hl 1 rfl) ?_
  refine lv_if_lt (tgt := 9) hx hb dX10_image_1 (by decide) (fun c1 => ?_) (fun c1 => ?_)
  · have hf := of_pos hf c1
    refine lv_iconst (v := (-1 : Int32)) hx hb dX10_image_9 (by decide) ?_
    cases hf
    exact ret_i hx hb hr hlk hK hP hD hS dX10_image_10
  · have hf := of_neg hf c1
    refine lv_iload_n hx hb dX10_image_4 rfl (lv_at hl 1 rfl) ?_
    refine lv_iconst (v := (2 : Int32)) hx hb dX10_image_5 (by decide) ?_
    refine lv_icmp_lt (tgt := 11) hx hb dX10_image_6 (by decide) (fun c2 => ?_) (fun c2 => ?_)
    · have hf := of_pos hf c2
      refine lv_aload_n hx hb dX10_image_11 rfl (lv_at hl 0 rfl) ?_
      refine va_get (ci := 10) (v := .ref h3) (C := RX10) (T := TX10) (N := 13) hx hb ht0 iX10 hown hK hP 0 rfl rfl 4 (by decide) (ht0 _ wd_544) (fun _ h9 => h9) rfl dX10_image_12 ?_
      refine lv_iload_n hx hb dX10_image_15 rfl (lv_at hl 1 rfl) ?_
      obtain ⟨g3, hf⟩ := of_grd hf
      obtain ⟨g4, hf⟩ := of_grd hf
      have g4 := Decidable.not_not.mp g4
      refine va_aldS hx hb hK hP 3 3 rfl rfl g3 g4 dX10_image_16 ?_
      refine lv_aload_n hx hb dX10_image_17 rfl (lv_at hl 0 rfl) ?_
      refine va_get (ci := 10) (v := .ref h1) (C := RX10) (T := TX10) (N := 13) hx hb ht0 iX10 hown hK hP 0 rfl rfl 3 (by decide) (ht0 _ wd_543) (fun _ h9 => h9) rfl dX10_image_18 ?_
      obtain ⟨_, hc_r_21_4, hf⟩ := of_bnd hf
      refine cl_Vr (w2 := (wW_X10_image G h0 h1 h2 h3 h4 h5 h6 h7 h8 h9 h10 h11 h12 h13 h14 h15 h16 h17 h18 h19 h20 h21 h22 h23 h24 y0_0 y0_1 y0_2 y0_6 y0_7 y0_8 y0_9 y0_10 x0_11 x0_12 x1_1 x1_2 a2 a3 a4 x5_0 x5_1 x5_2 a6 a7 a8 a10 a11 a12 a13 a14 x15_0 x15_1 x15_2 a16 a17 a18 a20 a21 a22 a23 a24)) (As := []) (rest := [.ref g_bx]) ⟨hx, hb, hml, hown, ht0⟩ (c_X8_now l G h1 h2 g_cur h5 h9 _ x1_1 x1_2 a2 F hq_cur hc_r_21_4) yk_X8_now wd_531 ⟨rfl, rfl, by decide, by decide⟩ ⟨Nat.le_refl _, Nat.le_refl _⟩ hX hK hP hD hS hA [1, 2] [0, 3, 4, 5, 6, 7, 8, 9, 10, 11, 12, 13, 14, 15, 16, 17, 18, 19, 20, 21, 22, 23, 24] [0, 23, 24, 1, 2, 3, 4, 5, 6, 7, 8, 9, 10, 11, 12, 13, 14, 15, 16, 17, 18, 19, 20, 21, 22] (va_recv hK hP (ci := 8) (q0 := 1) rfl rfl) rfl rfl (by decide) rfl rfl rfl rfl rfl hl.1 rfl (Nat.le_of_ble_eq_true rfl) dX10_image_21 (fun H locs hP hD hS => ?_)
      obtain ⟨⟨r_24_5_x0_0, r_24_5_x0_1, r_24_5_x0_2, r_24_5_a1, r_24_5_a2, r_24_5_a3, r_24_5_a5, r_24_5_a6, r_24_5_a7, r_24_5_a8, r_24_5_a9⟩, hc_r_24_5, hf⟩ := of_bnd hf
      refine cl_Vv (w2 := (wW_X10_image G h0 h1 h2 h3 h4 h5 h6 h7 h8 h9 h10 h11 h12 h13 h14 h15 h16 h17 h18 h19 h20 h21 h22 h23 h24 y0_0 y0_1 y0_2 y0_6 y0_7 y0_8 y0_9 y0_10 x0_11 x0_12 x1_1 x1_2 a2 a3 a4 x5_0 x5_1 x5_2 a6 a7 a8 a10 a11 a12 a13 a14 r_24_5_x0_0 r_24_5_x0_1 r_24_5_x0_2 r_24_5_a1 r_24_5_a2 r_24_5_a3 r_24_5_a5 r_24_5_a6 r_24_5_a7 r_24_5_a8 r_24_5_a9)) (As := [.ref g_cur]) (rest := []) ⟨hx, hb, hml, hown, ht0⟩ (c_X6_copyFrom l G h15 h16 h17 h18 h19 h20 h21 h22 h23 h24 h5 h6 h7 h8 h9 h10 h11 h12 h13 h14 g_bx g_cur _ x15_0 x15_1 x15_2 a16 a17 a18 a20 a21 a22 a23 a24 x5_0 x5_1 x5_2 a6 a7 a8 a10 a11 a12 a13 a14 F hq_bx hq_cur _ _ _ _ _ _ _ _ _ _ _ hc_r_24_5) yk_X6_copyFrom wd_1242 ⟨rfl, rfl, by decide, by decide⟩ ⟨Nat.le_refl _, Nat.le_refl _⟩ hX hK hP hD hS hA [15, 16, 17, 18, 19, 20, 21, 22, 23, 24, 5, 6, 7, 8, 9, 10, 11, 12, 13, 14] [0, 1, 2, 3, 4] [0, 1, 2, 3, 4, 15, 16, 17, 18, 19, 20, 21, 22, 23, 24, 5, 6, 7, 8, 9, 10, 11, 12, 13, 14] ((hX.2.2 _ hq_bx).recv hS) rfl rfl (by decide) rfl rfl rfl rfl rfl hl.1 rfl (Nat.le_of_ble_eq_true rfl) dX10_image_24 (fun H locs hP hD hS => ?_)
      refine lv_aload_n hx hb dX10_image_27 rfl (lv_at hl 0 rfl) ?_
      refine va_get (ci := 10) (v := .ref h4) (C := RX10) (T := TX10) (N := 13) hx hb ht0 iX10 hown hK hP 0 rfl rfl 5 (by decide) (ht0 _ wd_545) (fun _ h9 => h9) rfl dX10_image_28 ?_
      refine lv_iload_n hx hb dX10_image_31 rfl (lv_at hl 1 rfl) ?_
      refine lv_iconst (v := (1 : Int32)) hx hb dX10_image_32 (by decide) ?_
      obtain ⟨g7, hf⟩ := of_grd hf
      refine va_zast hx hb hK hP hD hS 4 1 rfl rfl g7 dX10_image_33 (fun H locs hP hD hS => ?_)
      have hP : va_P G.1 vwCl (wW_X10_image G h0 h1 h2 h3 h4 h5 h6 h7 h8 h9 h10 h11 h12 h13 h14 h15 h16 h17 h18 h19 h20 h21 h22 h23 h24 y0_0 y0_1 y0_2 y0_6 y0_7 y0_8 y0_9 y0_10 x0_11 x0_12 x1_1 x1_2 a2 a3 (upd a4 b1.toNatClampNeg (vp_nar .boolean (1 : Int32))) x5_0 x5_1 x5_2 a6 a7 a8 a10 a11 a12 a13 a14 r_24_5_x0_0 r_24_5_x0_1 r_24_5_x0_2 r_24_5_a1 r_24_5_a2 r_24_5_a3 r_24_5_a5 r_24_5_a6 r_24_5_a7 r_24_5_a8 r_24_5_a9) H := hP
      have hD : va_D A (wW_X10_image G h0 h1 h2 h3 h4 h5 h6 h7 h8 h9 h10 h11 h12 h13 h14 h15 h16 h17 h18 h19 h20 h21 h22 h23 h24 y0_0 y0_1 y0_2 y0_6 y0_7 y0_8 y0_9 y0_10 x0_11 x0_12 x1_1 x1_2 a2 a3 (upd a4 b1.toNatClampNeg (vp_nar .boolean (1 : Int32))) x5_0 x5_1 x5_2 a6 a7 a8 a10 a11 a12 a13 a14 r_24_5_x0_0 r_24_5_x0_1 r_24_5_x0_2 r_24_5_a1 r_24_5_a2 r_24_5_a3 r_24_5_a5 r_24_5_a6 r_24_5_a7 r_24_5_a8 r_24_5_a9) := hD
      refine lv_aload_n hx hb dX10_image_34 rfl (lv_at hl 0 rfl) ?_
      refine va_get (ci := 10) (v := .ref h1) (C := RX10) (T := TX10) (N := 13) hx hb ht0 iX10 hown hK hP 0 rfl rfl 3 (by decide) (ht0 _ wd_543) (fun _ h9 => h9) rfl dX10_image_35 ?_
      obtain ⟨_, hc_r_38_7, hf⟩ := of_bnd hf
      refine cl_Vr (w2 := (wW_X10_image G h0 h1 h2 h3 h4 h5 h6 h7 h8 h9 h10 h11 h12 h13 h14 h15 h16 h17 h18 h19 h20 h21 h22 h23 h24 y0_0 y0_1 y0_2 y0_6 y0_7 y0_8 y0_9 y0_10 x0_11 x0_12 x1_1 x1_2 a2 a3 (upd a4 b1.toNatClampNeg (vp_nar .boolean (1 : Int32))) x5_0 x5_1 x5_2 a6 a7 a8 a10 a11 a12 a13 a14 r_24_5_x0_0 r_24_5_x0_1 r_24_5_x0_2 r_24_5_a1 r_24_5_a2 r_24_5_a3 r_24_5_a5 r_24_5_a6 r_24_5_a7 r_24_5_a8 r_24_5_a9)) (As := []) (rest := []) ⟨hx, hb, hml, hown, ht0⟩ (c_X8_now l G h1 h2 g_cur h5 h9 _ x1_1 x1_2 a2 F hq_cur hc_r_38_7) yk_X8_now wd_531 ⟨rfl, rfl, by decide, by decide⟩ ⟨Nat.le_refl _, Nat.le_refl _⟩ hX hK hP hD hS hA [1, 2] [0, 3, 4, 5, 6, 7, 8, 9, 10, 11, 12, 13, 14, 15, 16, 17, 18, 19, 20, 21, 22, 23, 24] [0, 23, 24, 1, 2, 3, 4, 5, 6, 7, 8, 9, 10, 11, 12, 13, 14, 15, 16, 17, 18, 19, 20, 21, 22] (va_recv hK hP (ci := 8) (q0 := 1) rfl rfl) rfl rfl (by decide) rfl rfl rfl rfl rfl hl.1 rfl (Nat.le_of_ble_eq_true rfl) dX10_image_38 (fun H locs hP hD hS => ?_)
      refine vk_getf hx hb (hX.2.2 _ hq_cur).2.2 hS hown (ht0 _ wd_344) (fun _ h => h) dX10_image_41 ?_
      obtain ⟨r_44_8, hc_r_44_8, hf⟩ := of_bnd hf
      refine cl_Vi (w2 := (wW_X10_image G h0 h1 h2 h3 h4 h5 h6 h7 h8 h9 h10 h11 h12 h13 h14 h15 h16 h17 h18 h19 h20 h21 h22 h23 h24 y0_0 y0_1 y0_2 y0_6 y0_7 y0_8 y0_9 y0_10 x0_11 x0_12 x1_1 x1_2 a2 a3 (upd a4 b1.toNatClampNeg (vp_nar .boolean (1 : Int32))) x5_0 x5_1 x5_2 a6 a7 a8 a10 a11 a12 a13 a14 r_24_5_x0_0 r_24_5_x0_1 r_24_5_x0_2 r_24_5_a1 r_24_5_a2 r_24_5_a3 r_24_5_a5 r_24_5_a6 r_24_5_a7 r_24_5_a8 r_24_5_a9)) (As := []) (rest := []) ⟨hx, hb, hml, hown, ht0⟩ (c_X9_countAsMeant l G h9 h10 h11 h12 h13 h14 _ a10 a11 F _ hc_r_44_8) yk_X9_countAsMeant wd_927 ⟨rfl, rfl, by decide, by decide⟩ ⟨Nat.le_refl _, Nat.le_refl _⟩ hX hK hP hD hS hA [9, 10, 11] [0, 1, 2, 3, 4, 5, 6, 7, 8, 12, 13, 14, 15, 16, 17, 18, 19, 20, 21, 22, 23, 24] [0, 1, 2, 3, 4, 5, 6, 7, 8, 22, 23, 24, 9, 10, 11, 12, 13, 14, 15, 16, 17, 18, 19, 20, 21] (va_recv hK hP (ci := 9) (q0 := 9) rfl rfl) rfl rfl (by decide) rfl rfl rfl rfl rfl hl.1 rfl (Nat.le_of_ble_eq_true rfl) dX10_image_44 (fun H locs hP hD hS => ?_)
      cases hf
      exact ret_i hx hb hr hlk hK hP hD hS dX10_image_47
    · have hf := of_neg hf c2
      refine lv_iconst (v := (-1 : Int32)) hx hb dX10_image_9 (by decide) ?_
      cases hf
      exact ret_i hx hb hr hlk hK hP hD hS dX10_image_10
theorem yk_X10_image : ykV yX10_image RX10 cX10_image 2 (some .int) 1 := ⟨wd_1239, wd_1240, wd_127, wd_1241, rfl, by decide +kernel, by decide +kernel, by decide +kernel⟩
theorem dX10_back_0 : decode cX10_back 0 = .ok (.iload_n 1, 1) := by decide +kernel
theorem dX10_back_1 : decode cX10_back 1 = .ok (.ifCond .lt 17, 3) := by decide +kernel
theorem dX10_back_4 : decode cX10_back 4 = .ok (.iload_n 1, 1) := by decide +kernel
theorem dX10_back_5 : decode cX10_back 5 = .ok (.iconst 2, 1) := by decide +kernel
theorem dX10_back_6 : decode cX10_back 6 = .ok (.if_icmp .ge 12, 3) := by decide +kernel
theorem dX10_back_9 : decode cX10_back 9 = .ok (.aload_n 0, 1) := by decide +kernel
theorem dX10_back_10 : decode cX10_back 10 = .ok (.getfield 40, 3) := by decide +kernel
theorem dX10_back_13 : decode cX10_back 13 = .ok (.iload_n 1, 1) := by decide +kernel
theorem dX10_back_14 : decode cX10_back 14 = .ok (.baload, 1) := by decide +kernel
theorem dX10_back_15 : decode cX10_back 15 = .ok (.ifCond .ne 5, 3) := by decide +kernel
theorem dX10_back_18 : decode cX10_back 18 = .ok (.iconst (-1), 1) := by decide +kernel
theorem dX10_back_19 : decode cX10_back 19 = .ok (.ireturn, 1) := by decide +kernel
theorem dX10_back_20 : decode cX10_back 20 = .ok (.aload_n 0, 1) := by decide +kernel
theorem dX10_back_21 : decode cX10_back 21 = .ok (.getfield 29, 3) := by decide +kernel
theorem dX10_back_24 : decode cX10_back 24 = .ok (.invokevirtual 121, 3) := by decide +kernel
theorem dX10_back_27 : decode cX10_back 27 = .ok (.aload_n 0, 1) := by decide +kernel
theorem dX10_back_28 : decode cX10_back 28 = .ok (.getfield 29, 3) := by decide +kernel
theorem dX10_back_31 : decode cX10_back 31 = .ok (.invokevirtual 92, 3) := by decide +kernel
theorem dX10_back_34 : decode cX10_back 34 = .ok (.aload_n 0, 1) := by decide +kernel
theorem dX10_back_35 : decode cX10_back 35 = .ok (.getfield 36, 3) := by decide +kernel
theorem dX10_back_38 : decode cX10_back 38 = .ok (.iload_n 1, 1) := by decide +kernel
theorem dX10_back_39 : decode cX10_back 39 = .ok (.aaload, 1) := by decide +kernel
theorem dX10_back_40 : decode cX10_back 40 = .ok (.invokevirtual 367, 3) := by decide +kernel
theorem dX10_back_43 : decode cX10_back 43 = .ok (.aload_n 0, 1) := by decide +kernel
theorem dX10_back_44 : decode cX10_back 44 = .ok (.getfield 29, 3) := by decide +kernel
theorem dX10_back_47 : decode cX10_back 47 = .ok (.invokevirtual 92, 3) := by decide +kernel
theorem dX10_back_50 : decode cX10_back 50 = .ok (.getfield 125, 3) := by decide +kernel
theorem dX10_back_53 : decode cX10_back 53 = .ok (.invokevirtual 192, 3) := by decide +kernel
theorem dX10_back_56 : decode cX10_back 56 = .ok (.ireturn, 1) := by decide +kernel
def wW_X10_back (G : GG) (h0 h1 h2 h3 h4 h5 h6 h7 h8 h9 h10 h11 h12 h13 h14 h15 h16 h17 h18 h19 h20 h21 h22 h23 h24 y0_0 y0_1 y0_2 y0_6 y0_7 y0_8 y0_9 y0_10 : Nat) (x0_11 : Int32) (x0_12 : Int32) (x1_1 : Int32) (x1_2 : Int32) (a2 : Nat → Option Nat) (a3 : Nat → Option Nat) (a4 : Nat → Int32) (x5_0 : Int32) (x5_1 : Int32) (x5_2 : Int32) (a6 : Nat → Int32) (a7 : Nat → Int32) (a8 : Nat → Int32) (a10 : Nat → Int32) (a11 : Nat → Int32) (a12 : Nat → Int32) (a13 : Nat → Int32) (a14 : Nat → Int32) (x15_0 : Int32) (x15_1 : Int32) (x15_2 : Int32) (a16 : Nat → Int32) (a17 : Nat → Int32) (a18 : Nat → Int32) (a20 : Nat → Int32) (a21 : Nat → Int32) (a22 : Nat → Int32) (a23 : Nat → Int32) (a24 : Nat → Int32) : va_W := [(h0, .inr (10, [.ref y0_0, .ref y0_1, .ref y0_2, .ref h1, .ref h3, .ref h4, .ref y0_6, .ref y0_7, .ref y0_8, .ref y0_9, .ref y0_10, .int x0_11, .int x0_12])), (h1, .inr (8, [.ref h2, .int x1_1, .int x1_2])), (h2, .inl (G.2.2.2.2.1, 13, .inr (.inr (.inr (.inr a2))))), (h3, .inl (G.2.2.2.2.1, 2, .inr (.inr (.inr (.inr a3))))), (h4, .inl (G.2.2.1, 2, .inl a4)), (h5, .inr (1, [.int x5_0, .int x5_1, .int x5_2, .ref h6, .ref h7, .ref h8])), (h6, .inl (G.2.1, 32, .inl a6)), (h7, .inl (G.2.1, 256, .inl a7)), (h8, .inl (G.2.1, 256, .inl a8)), (h9, .inr (9, [.ref h10, .ref h11, .ref h12, .ref h13, .ref h14])), (h10, .inl (G.2.1, 16, .inl a10)), (h11, .inl (G.2.1, 16, .inl a11)), (h12, .inl (G.2.1, 16, .inl a12)), (h13, .inl (G.2.1, 16, .inl a13)), (h14, .inl (G.2.1, 8, .inl a14)), (h15, .inr (1, [.int x15_0, .int x15_1, .int x15_2, .ref h16, .ref h17, .ref h18])), (h16, .inl (G.2.1, 32, .inl a16)), (h17, .inl (G.2.1, 256, .inl a17)), (h18, .inl (G.2.1, 256, .inl a18)), (h19, .inr (9, [.ref h20, .ref h21, .ref h22, .ref h23, .ref h24])), (h20, .inl (G.2.1, 16, .inl a20)), (h21, .inl (G.2.1, 16, .inl a21)), (h22, .inl (G.2.1, 16, .inl a22)), (h23, .inl (G.2.1, 16, .inl a23)), (h24, .inl (G.2.1, 8, .inl a24))]
set_option maxHeartbeats 4000000 in
set_option maxRecDepth 100000 in
theorem c_X10_back (l : Launch) (G : GG) (h0 h1 h2 h3 h4 h5 h6 h7 h8 h9 h10 h11 h12 h13 h14 h15 h16 h17 h18 h19 h20 h21 h22 h23 h24 y0_0 y0_1 y0_2 y0_6 y0_7 y0_8 y0_9 y0_10 g_cur g_bx g_fst y_fst_code y_fst_words : Nat) (sz : Nat) (x0_11 : Int32) (x0_12 : Int32) (x1_1 : Int32) (x1_2 : Int32) (a2 : Nat → Option Nat) (a3 : Nat → Option Nat) (a4 : Nat → Int32) (x5_0 : Int32) (x5_1 : Int32) (x5_2 : Int32) (a6 : Nat → Int32) (a7 : Nat → Int32) (a8 : Nat → Int32) (a10 : Nat → Int32) (a11 : Nat → Int32) (a12 : Nat → Int32) (a13 : Nat → Int32) (a14 : Nat → Int32) (x15_0 : Int32) (x15_1 : Int32) (x15_2 : Int32) (a16 : Nat → Int32) (a17 : Nat → Int32) (a18 : Nat → Int32) (a20 : Nat → Int32) (a21 : Nat → Int32) (a22 : Nat → Int32) (a23 : Nat → Int32) (a24 : Nat → Int32) (F : Nat) (b1 : Int32) (hq_cur : (g_cur, h5, h9) ∈ gS G) (hq_bx : (g_bx, h15, h19) ∈ gS G) (hq_fst : (g_fst, y_fst_code, y_fst_words) ∈ gS G)  (r0 : Int32) (e_x1_1 : Int32) (e_x1_2 : Int32) (e_a2 : Nat → Option Nat) (e_x5_0 : Int32) (e_x5_1 : Int32) (e_x5_2 : Int32) (e_a6 : Nat → Int32) (e_a7 : Nat → Int32) (e_a8 : Nat → Int32) (e_a10 : Nat → Int32) (e_a11 : Nat → Int32) (e_a12 : Nat → Int32) (e_a13 : Nat → Int32) (e_a14 : Nat → Int32) (hf : p_X10_back F g_cur g_bx g_fst x1_1 x1_2 a2 a3 a4 x5_0 x5_1 x5_2 a6 a7 a8 a10 a11 a12 a13 a14 x15_0 x15_1 x15_2 a16 a17 a18 a20 a21 a22 a23 a24 b1 = some (r0, e_x1_1, e_x1_2, e_a2, e_x5_0, e_x5_1, e_x5_2, e_a6, e_a7, e_a8, e_a10, e_a11, e_a12, e_a13, e_a14)) : Met l yX10_back (.code yX10_back cX10_back 2 (some .int) :: gtbl) ({ frames := 3, cells := 0, slots := 0, locals := 90 } : Room) (PcS G [.ref h0, .int b1] (wW_X10_back G h0 h1 h2 h3 h4 h5 h6 h7 h8 h9 h10 h11 h12 h13 h14 h15 h16 h17 h18 h19 h20 h21 h22 h23 h24 y0_0 y0_1 y0_2 y0_6 y0_7 y0_8 y0_9 y0_10 x0_11 x0_12 x1_1 x1_2 a2 a3 a4 x5_0 x5_1 x5_2 a6 a7 a8 a10 a11 a12 a13 a14 x15_0 x15_1 x15_2 a16 a17 a18 a20 a21 a22 a23 a24) sz) (QiS G r0 (va_A (wW_X10_back G h0 h1 h2 h3 h4 h5 h6 h7 h8 h9 h10 h11 h12 h13 h14 h15 h16 h17 h18 h19 h20 h21 h22 h23 h24 y0_0 y0_1 y0_2 y0_6 y0_7 y0_8 y0_9 y0_10 x0_11 x0_12 x1_1 x1_2 a2 a3 a4 x5_0 x5_1 x5_2 a6 a7 a8 a10 a11 a12 a13 a14 x15_0 x15_1 x15_2 a16 a17 a18 a20 a21 a22 a23 a24) sz) (wW_X10_back G h0 h1 h2 h3 h4 h5 h6 h7 h8 h9 h10 h11 h12 h13 h14 h15 h16 h17 h18 h19 h20 h21 h22 h23 h24 y0_0 y0_1 y0_2 y0_6 y0_7 y0_8 y0_9 y0_10 x0_11 x0_12 e_x1_1 e_x1_2 e_a2 a3 a4 e_x5_0 e_x5_1 e_x5_2 e_a6 e_a7 e_a8 e_a10 e_a11 e_a12 e_a13 e_a14 x15_0 x15_1 x15_2 a16 a17 a18 a20 a21 a22 a23 a24)) 0 0 (va_A (wW_X10_back G h0 h1 h2 h3 h4 h5 h6 h7 h8 h9 h10 h11 h12 h13 h14 h15 h16 h17 h18 h19 h20 h21 h22 h23 h24 y0_0 y0_1 y0_2 y0_6 y0_7 y0_8 y0_9 y0_10 x0_11 x0_12 x1_1 x1_2 a2 a3 a4 x5_0 x5_1 x5_2 a6 a7 a8 a10 a11 a12 a13 a14 x15_0 x15_1 x15_2 a16 a17 a18 a20 a21 a22 a23 a24) sz) := by
  refine met_start (by decide) (Nat.le_of_ble_eq_true rfl) ?_
  intro p e s m below meth c hC hr hlk hnm hK hP hD hA hS hX ls hl
  obtain ⟨hx, hb, hml, hown, ht0⟩ := hC
  have hown : s.vm.findClass RX10 = some m.cls := hown
  generalize va_A (wW_X10_back G h0 h1 h2 h3 h4 h5 h6 h7 h8 h9 h10 h11 h12 h13 h14 h15 h16 h17 h18 h19 h20 h21 h22 h23 h24 y0_0 y0_1 y0_2 y0_6 y0_7 y0_8 y0_9 y0_10 x0_11 x0_12 x1_1 x1_2 a2 a3 a4 x5_0 x5_1 x5_2 a6 a7 a8 a10 a11 a12 a13 a14 x15_0 x15_1 x15_2 a16 a17 a18 a20 a21 a22 a23 a24) sz = A at hD hA hS hX ⊢
  have hl : lv_has ls 2 [(0, .ref h0), (1, .int b1)] := hl
  have hf : p_X10_back F g_cur g_bx g_fst x1_1 x1_2 a2 a3 a4 x5_0 x5_1 x5_2 a6 a7 a8 a10 a11 a12 a13 a14 x15_0 x15_1 x15_2 a16 a17 a18 a20 a21 a22 a23 a24 b1 = some (r0, e_x1_1, e_x1_2, e_a2, e_x5_0, e_x5_1, e_x5_2, e_a6, e_a7, e_a8, e_a10, e_a11, e_a12, e_a13, e_a14) := hf
  refine lv_iload_n hx hb dX10_back_0 rfl (lv_at hl 1 rfl) ?_
  refine lv_if_lt (tgt := 18) hx hb dX10_back_1 (by decide) (fun c1 => ?_) (fun c1 => ?_)
  · have hf := of_pos hf c1
    refine lv_iconst (v := (-1 : Int32)) hx hb dX10_back_18 (by decide) ?_
    cases hf
    exact ret_i hx hb hr hlk hK hP hD hS dX10_back_19
  · have hf := of_neg hf c1
    refine lv_iload_n hx hb dX10_back_4 rfl (lv_at hl 1 rfl) ?_
    refine lv_iconst (v := (2 : Int32)) hx hb dX10_back_5 (by decide) ?_
    refine lv_icmp_ge (tgt := 18) hx hb dX10_back_6 (by decide) (fun c2 => ?_) (fun c2 => ?_)
    · have hf := of_pos hf c2
      refine lv_iconst (v := (-1 : Int32)) hx hb dX10_back_18 (by decide) ?_
      cases hf
      exact ret_i hx hb hr hlk hK hP hD hS dX10_back_19
    · have hf := of_neg hf c2
      refine lv_aload_n hx hb dX10_back_9 rfl (lv_at hl 0 rfl) ?_
      refine va_get (ci := 10) (v := .ref h4) (C := RX10) (T := TX10) (N := 13) hx hb ht0 iX10 hown hK hP 0 rfl rfl 5 (by decide) (ht0 _ wd_545) (fun _ h9 => h9) rfl dX10_back_10 ?_
      refine lv_iload_n hx hb dX10_back_13 rfl (lv_at hl 1 rfl) ?_
      obtain ⟨g3, hf⟩ := of_grd hf
      refine va_zald hx hb hK hP 4 1 rfl rfl g3 dX10_back_14 ?_
      refine lv_if_ne (tgt := 20) hx hb dX10_back_15 (by decide) (fun c4 => ?_) (fun c4 => ?_)
      · have hf := of_neg hf c4
        refine lv_aload_n hx hb dX10_back_20 rfl (lv_at hl 0 rfl) ?_
        refine va_get (ci := 10) (v := .ref h1) (C := RX10) (T := TX10) (N := 13) hx hb ht0 iX10 hown hK hP 0 rfl rfl 3 (by decide) (ht0 _ wd_543) (fun _ h9 => h9) rfl dX10_back_21 ?_
        obtain ⟨⟨r_24_4_x0_1, r_24_4_x0_2, r_24_4_a1⟩, hc_r_24_4, hf⟩ := of_bnd hf
        refine cl_Vv (w2 := (wW_X10_back G h0 h1 h2 h3 h4 h5 h6 h7 h8 h9 h10 h11 h12 h13 h14 h15 h16 h17 h18 h19 h20 h21 h22 h23 h24 y0_0 y0_1 y0_2 y0_6 y0_7 y0_8 y0_9 y0_10 x0_11 x0_12 r_24_4_x0_1 r_24_4_x0_2 r_24_4_a1 a3 a4 x5_0 x5_1 x5_2 a6 a7 a8 a10 a11 a12 a13 a14 x15_0 x15_1 x15_2 a16 a17 a18 a20 a21 a22 a23 a24)) (As := []) (rest := []) ⟨hx, hb, hml, hown, ht0⟩ (c_X8_forget l G h1 h2 g_cur h5 h9 g_fst y_fst_code y_fst_words _ x1_1 x1_2 a2 F hq_cur hq_fst _ _ _ hc_r_24_4) yk_X8_forget wd_754 ⟨rfl, rfl, by decide, by decide⟩ ⟨Nat.le_refl _, Nat.le_refl _⟩ hX hK hP hD hS hA [1, 2] [0, 3, 4, 5, 6, 7, 8, 9, 10, 11, 12, 13, 14, 15, 16, 17, 18, 19, 20, 21, 22, 23, 24] [0, 23, 24, 1, 2, 3, 4, 5, 6, 7, 8, 9, 10, 11, 12, 13, 14, 15, 16, 17, 18, 19, 20, 21, 22] (va_recv hK hP (ci := 8) (q0 := 1) rfl rfl) rfl rfl (by decide) rfl rfl rfl rfl rfl hl.1 rfl (Nat.le_of_ble_eq_true rfl) dX10_back_24 (fun H locs hP hD hS => ?_)
        refine lv_aload_n hx hb dX10_back_27 rfl (lv_at hl 0 rfl) ?_
        refine va_get (ci := 10) (v := .ref h1) (C := RX10) (T := TX10) (N := 13) hx hb ht0 iX10 hown hK hP 0 rfl rfl 3 (by decide) (ht0 _ wd_543) (fun _ h9 => h9) rfl dX10_back_28 ?_
        obtain ⟨_, hc_r_31_5, hf⟩ := of_bnd hf
        refine cl_Vr (w2 := (wW_X10_back G h0 h1 h2 h3 h4 h5 h6 h7 h8 h9 h10 h11 h12 h13 h14 h15 h16 h17 h18 h19 h20 h21 h22 h23 h24 y0_0 y0_1 y0_2 y0_6 y0_7 y0_8 y0_9 y0_10 x0_11 x0_12 r_24_4_x0_1 r_24_4_x0_2 r_24_4_a1 a3 a4 x5_0 x5_1 x5_2 a6 a7 a8 a10 a11 a12 a13 a14 x15_0 x15_1 x15_2 a16 a17 a18 a20 a21 a22 a23 a24)) (As := []) (rest := []) ⟨hx, hb, hml, hown, ht0⟩ (c_X8_now l G h1 h2 g_cur h5 h9 _ r_24_4_x0_1 r_24_4_x0_2 r_24_4_a1 F hq_cur hc_r_31_5) yk_X8_now wd_531 ⟨rfl, rfl, by decide, by decide⟩ ⟨Nat.le_refl _, Nat.le_refl _⟩ hX hK hP hD hS hA [1, 2] [0, 3, 4, 5, 6, 7, 8, 9, 10, 11, 12, 13, 14, 15, 16, 17, 18, 19, 20, 21, 22, 23, 24] [0, 23, 24, 1, 2, 3, 4, 5, 6, 7, 8, 9, 10, 11, 12, 13, 14, 15, 16, 17, 18, 19, 20, 21, 22] (va_recv hK hP (ci := 8) (q0 := 1) rfl rfl) rfl rfl (by decide) rfl rfl rfl rfl rfl hl.1 rfl (Nat.le_of_ble_eq_true rfl) dX10_back_31 (fun H locs hP hD hS => ?_)
        refine lv_aload_n hx hb dX10_back_34 rfl (lv_at hl 0 rfl) ?_
        refine va_get (ci := 10) (v := .ref h3) (C := RX10) (T := TX10) (N := 13) hx hb ht0 iX10 hown hK hP 0 rfl rfl 4 (by decide) (ht0 _ wd_544) (fun _ h9 => h9) rfl dX10_back_35 ?_
        refine lv_iload_n hx hb dX10_back_38 rfl (lv_at hl 1 rfl) ?_
        obtain ⟨g7, hf⟩ := of_grd hf
        obtain ⟨g8, hf⟩ := of_grd hf
        have g8 := Decidable.not_not.mp g8
        refine va_aldS hx hb hK hP 3 3 rfl rfl g7 g8 dX10_back_39 ?_
        obtain ⟨⟨r_40_8_x0_0, r_40_8_x0_1, r_40_8_x0_2, r_40_8_a1, r_40_8_a2, r_40_8_a3, r_40_8_a5, r_40_8_a6, r_40_8_a7, r_40_8_a8, r_40_8_a9⟩, hc_r_40_8, hf⟩ := of_bnd hf
        refine cl_Vv (w2 := (wW_X10_back G h0 h1 h2 h3 h4 h5 h6 h7 h8 h9 h10 h11 h12 h13 h14 h15 h16 h17 h18 h19 h20 h21 h22 h23 h24 y0_0 y0_1 y0_2 y0_6 y0_7 y0_8 y0_9 y0_10 x0_11 x0_12 r_24_4_x0_1 r_24_4_x0_2 r_24_4_a1 a3 a4 r_40_8_x0_0 r_40_8_x0_1 r_40_8_x0_2 r_40_8_a1 r_40_8_a2 r_40_8_a3 r_40_8_a5 r_40_8_a6 r_40_8_a7 r_40_8_a8 r_40_8_a9 x15_0 x15_1 x15_2 a16 a17 a18 a20 a21 a22 a23 a24)) (As := [.ref g_bx]) (rest := []) ⟨hx, hb, hml, hown, ht0⟩ (c_X6_copyFrom l G h5 h6 h7 h8 h9 h10 h11 h12 h13 h14 h15 h16 h17 h18 h19 h20 h21 h22 h23 h24 g_cur g_bx _ x5_0 x5_1 x5_2 a6 a7 a8 a10 a11 a12 a13 a14 x15_0 x15_1 x15_2 a16 a17 a18 a20 a21 a22 a23 a24 F hq_cur hq_bx _ _ _ _ _ _ _ _ _ _ _ hc_r_40_8) yk_X6_copyFrom wd_1242 ⟨rfl, rfl, by decide, by decide⟩ ⟨Nat.le_refl _, Nat.le_refl _⟩ hX hK hP hD hS hA [5, 6, 7, 8, 9, 10, 11, 12, 13, 14, 15, 16, 17, 18, 19, 20, 21, 22, 23, 24] [0, 1, 2, 3, 4] [0, 1, 2, 3, 4, 5, 6, 7, 8, 9, 10, 11, 12, 13, 14, 15, 16, 17, 18, 19, 20, 21, 22, 23, 24] ((hX.2.2 _ hq_cur).recv hS) rfl rfl (by decide) rfl rfl rfl rfl rfl hl.1 rfl (Nat.le_of_ble_eq_true rfl) dX10_back_40 (fun H locs hP hD hS => ?_)
        refine lv_aload_n hx hb dX10_back_43 rfl (lv_at hl 0 rfl) ?_
        refine va_get (ci := 10) (v := .ref h1) (C := RX10) (T := TX10) (N := 13) hx hb ht0 iX10 hown hK hP 0 rfl rfl 3 (by decide) (ht0 _ wd_543) (fun _ h9 => h9) rfl dX10_back_44 ?_
        obtain ⟨_, hc_r_47_9, hf⟩ := of_bnd hf
        refine cl_Vr (w2 := (wW_X10_back G h0 h1 h2 h3 h4 h5 h6 h7 h8 h9 h10 h11 h12 h13 h14 h15 h16 h17 h18 h19 h20 h21 h22 h23 h24 y0_0 y0_1 y0_2 y0_6 y0_7 y0_8 y0_9 y0_10 x0_11 x0_12 r_24_4_x0_1 r_24_4_x0_2 r_24_4_a1 a3 a4 r_40_8_x0_0 r_40_8_x0_1 r_40_8_x0_2 r_40_8_a1 r_40_8_a2 r_40_8_a3 r_40_8_a5 r_40_8_a6 r_40_8_a7 r_40_8_a8 r_40_8_a9 x15_0 x15_1 x15_2 a16 a17 a18 a20 a21 a22 a23 a24)) (As := []) (rest := []) ⟨hx, hb, hml, hown, ht0⟩ (c_X8_now l G h1 h2 g_cur h5 h9 _ r_24_4_x0_1 r_24_4_x0_2 r_24_4_a1 F hq_cur hc_r_47_9) yk_X8_now wd_531 ⟨rfl, rfl, by decide, by decide⟩ ⟨Nat.le_refl _, Nat.le_refl _⟩ hX hK hP hD hS hA [1, 2] [0, 3, 4, 5, 6, 7, 8, 9, 10, 11, 12, 13, 14, 15, 16, 17, 18, 19, 20, 21, 22, 23, 24] [0, 23, 24, 1, 2, 3, 4, 5, 6, 7, 8, 9, 10, 11, 12, 13, 14, 15, 16, 17, 18, 19, 20, 21, 22] (va_recv hK hP (ci := 8) (q0 := 1) rfl rfl) rfl rfl (by decide) rfl rfl rfl rfl rfl hl.1 rfl (Nat.le_of_ble_eq_true rfl) dX10_back_47 (fun H locs hP hD hS => ?_)
        refine vk_getf hx hb (hX.2.2 _ hq_cur).2.2 hS hown (ht0 _ wd_344) (fun _ h => h) dX10_back_50 ?_
        obtain ⟨r_53_10, hc_r_53_10, hf⟩ := of_bnd hf
        refine cl_Vi (w2 := (wW_X10_back G h0 h1 h2 h3 h4 h5 h6 h7 h8 h9 h10 h11 h12 h13 h14 h15 h16 h17 h18 h19 h20 h21 h22 h23 h24 y0_0 y0_1 y0_2 y0_6 y0_7 y0_8 y0_9 y0_10 x0_11 x0_12 r_24_4_x0_1 r_24_4_x0_2 r_24_4_a1 a3 a4 r_40_8_x0_0 r_40_8_x0_1 r_40_8_x0_2 r_40_8_a1 r_40_8_a2 r_40_8_a3 r_40_8_a5 r_40_8_a6 r_40_8_a7 r_40_8_a8 r_40_8_a9 x15_0 x15_1 x15_2 a16 a17 a18 a20 a21 a22 a23 a24)) (As := []) (rest := []) ⟨hx, hb, hml, hown, ht0⟩ (c_X9_countAsMeant l G h9 h10 h11 h12 h13 h14 _ r_40_8_a5 r_40_8_a6 F _ hc_r_53_10) yk_X9_countAsMeant wd_927 ⟨rfl, rfl, by decide, by decide⟩ ⟨Nat.le_refl _, Nat.le_refl _⟩ hX hK hP hD hS hA [9, 10, 11] [0, 1, 2, 3, 4, 5, 6, 7, 8, 12, 13, 14, 15, 16, 17, 18, 19, 20, 21, 22, 23, 24] [0, 1, 2, 3, 4, 5, 6, 7, 8, 22, 23, 24, 9, 10, 11, 12, 13, 14, 15, 16, 17, 18, 19, 20, 21] (va_recv hK hP (ci := 9) (q0 := 9) rfl rfl) rfl rfl (by decide) rfl rfl rfl rfl rfl hl.1 rfl (Nat.le_of_ble_eq_true rfl) dX10_back_53 (fun H locs hP hD hS => ?_)
        cases hf
        exact ret_i hx hb hr hlk hK hP hD hS dX10_back_56
      · have hf := of_pos hf c4
        refine lv_iconst (v := (-1 : Int32)) hx hb dX10_back_18 (by decide) ?_
        cases hf
        exact ret_i hx hb hr hlk hK hP hD hS dX10_back_19
theorem yk_X10_back : ykV yX10_back RX10 cX10_back 2 (some .int) 1 := ⟨wd_1244, wd_1245, wd_127, wd_1246, rfl, by decide +kernel, by decide +kernel, by decide +kernel⟩
theorem dX10_about_0 : decode cX10_about 0 = .ok (.aload_n 0, 1) := by decide +kernel
theorem dX10_about_1 : decode cX10_about 1 = .ok (.getfield 29, 3) := by decide +kernel
theorem dX10_about_4 : decode cX10_about 4 = .ok (.invokevirtual 92, 3) := by decide +kernel
theorem dX10_about_7 : decode cX10_about 7 = .ok (.astore_n 2, 1) := by decide +kernel
theorem dX10_about_8 : decode cX10_about 8 = .ok (.iload_n 1, 1) := by decide +kernel
theorem dX10_about_9 : decode cX10_about 9 = .ok (.tableswitch 127 0 7 #[47, 55, 63, 79, 87, 95, 103, 119], 47) := by decide +kernel
theorem dX10_about_56 : decode cX10_about 56 = .ok (.aload_n 2, 1) := by decide +kernel
theorem dX10_about_57 : decode cX10_about 57 = .ok (.getfield 96, 3) := by decide +kernel
theorem dX10_about_60 : decode cX10_about 60 = .ok (.getfield 277, 3) := by decide +kernel
theorem dX10_about_63 : decode cX10_about 63 = .ok (.ireturn, 1) := by decide +kernel
theorem dX10_about_64 : decode cX10_about 64 = .ok (.aload_n 2, 1) := by decide +kernel
theorem dX10_about_65 : decode cX10_about 65 = .ok (.getfield 96, 3) := by decide +kernel
theorem dX10_about_68 : decode cX10_about 68 = .ok (.getfield 256, 3) := by decide +kernel
theorem dX10_about_71 : decode cX10_about 71 = .ok (.ireturn, 1) := by decide +kernel
theorem dX10_about_72 : decode cX10_about 72 = .ok (.aload_n 2, 1) := by decide +kernel
theorem dX10_about_73 : decode cX10_about 73 = .ok (.getfield 96, 3) := by decide +kernel
theorem dX10_about_76 : decode cX10_about 76 = .ok (.getfield 231, 3) := by decide +kernel
theorem dX10_about_79 : decode cX10_about 79 = .ok (.ifCond .eq 7, 3) := by decide +kernel
theorem dX10_about_82 : decode cX10_about 82 = .ok (.iconst 1, 1) := by decide +kernel
theorem dX10_about_83 : decode cX10_about 83 = .ok (.goto 4, 3) := by decide +kernel
theorem dX10_about_86 : decode cX10_about 86 = .ok (.iconst 0, 1) := by decide +kernel
theorem dX10_about_87 : decode cX10_about 87 = .ok (.ireturn, 1) := by decide +kernel
theorem dX10_about_88 : decode cX10_about 88 = .ok (.aload_n 2, 1) := by decide +kernel
theorem dX10_about_89 : decode cX10_about 89 = .ok (.getfield 125, 3) := by decide +kernel
theorem dX10_about_92 : decode cX10_about 92 = .ok (.invokevirtual 370, 3) := by decide +kernel
theorem dX10_about_95 : decode cX10_about 95 = .ok (.ireturn, 1) := by decide +kernel
theorem dX10_about_96 : decode cX10_about 96 = .ok (.aload_n 2, 1) := by decide +kernel
theorem dX10_about_97 : decode cX10_about 97 = .ok (.getfield 125, 3) := by decide +kernel
theorem dX10_about_100 : decode cX10_about 100 = .ok (.invokevirtual 373, 3) := by decide +kernel
theorem dX10_about_103 : decode cX10_about 103 = .ok (.ireturn, 1) := by decide +kernel
theorem dX10_about_104 : decode cX10_about 104 = .ok (.aload_n 0, 1) := by decide +kernel
theorem dX10_about_105 : decode cX10_about 105 = .ok (.getfield 29, 3) := by decide +kernel
theorem dX10_about_108 : decode cX10_about 108 = .ok (.getfield 376, 3) := by decide +kernel
theorem dX10_about_111 : decode cX10_about 111 = .ok (.ireturn, 1) := by decide +kernel
theorem dX10_about_112 : decode cX10_about 112 = .ok (.aload_n 0, 1) := by decide +kernel
theorem dX10_about_113 : decode cX10_about 113 = .ok (.getfield 29, 3) := by decide +kernel
theorem dX10_about_116 : decode cX10_about 116 = .ok (.getfield 379, 3) := by decide +kernel
theorem dX10_about_119 : decode cX10_about 119 = .ok (.aload_n 0, 1) := by decide +kernel
theorem dX10_about_120 : decode cX10_about 120 = .ok (.getfield 29, 3) := by decide +kernel
theorem dX10_about_123 : decode cX10_about 123 = .ok (.getfield 376, 3) := by decide +kernel
theorem dX10_about_126 : decode cX10_about 126 = .ok (.isub, 1) := by decide +kernel
theorem dX10_about_127 : decode cX10_about 127 = .ok (.ireturn, 1) := by decide +kernel
theorem dX10_about_128 : decode cX10_about 128 = .ok (.aload_n 0, 1) := by decide +kernel
theorem dX10_about_129 : decode cX10_about 129 = .ok (.getfield 20, 3) := by decide +kernel
theorem dX10_about_132 : decode cX10_about 132 = .ok (.getfield 113, 3) := by decide +kernel
theorem dX10_about_135 : decode cX10_about 135 = .ok (.ireturn, 1) := by decide +kernel
theorem dX10_about_136 : decode cX10_about 136 = .ok (.iconst (-1), 1) := by decide +kernel
theorem dX10_about_137 : decode cX10_about 137 = .ok (.ireturn, 1) := by decide +kernel
def wW_X10_about (G : GG) (h0 h1 h2 h3 h4 h5 h6 h7 h8 y0_1 y0_2 y0_4 y0_5 y0_6 y0_7 y0_8 y0_9 y0_10 y1_0 y4_3 y4_4 y4_5 y5_2 y5_4 : Nat) (x0_11 : Int32) (x0_12 : Int32) (x1_1 : Int32) (x2_1 : Int32) (x2_2 : Int32) (a3 : Nat → Option Nat) (x4_0 : Int32) (x4_1 : Int32) (x4_2 : Int32) (a6 : Nat → Int32) (a7 : Nat → Int32) (a8 : Nat → Int32) : va_W := [(h0, .inr (10, [.ref h1, .ref y0_1, .ref y0_2, .ref h2, .ref y0_4, .ref y0_5, .ref y0_6, .ref y0_7, .ref y0_8, .ref y0_9, .ref y0_10, .int x0_11, .int x0_12])), (h1, .inr (7, [.ref y1_0, .int x1_1])), (h2, .inr (8, [.ref h3, .int x2_1, .int x2_2])), (h3, .inl (G.2.2.2.2.1, 13, .inr (.inr (.inr (.inr a3))))), (h4, .inr (1, [.int x4_0, .int x4_1, .int x4_2, .ref y4_3, .ref y4_4, .ref y4_5])), (h5, .inr (9, [.ref h6, .ref h7, .ref y5_2, .ref h8, .ref y5_4])), (h6, .inl (G.2.1, 16, .inl a6)), (h7, .inl (G.2.1, 16, .inl a7)), (h8, .inl (G.2.1, 16, .inl a8))]
set_option maxHeartbeats 4000000 in
set_option maxRecDepth 100000 in
theorem c_X10_about (l : Launch) (G : GG) (h0 h1 h2 h3 h4 h5 h6 h7 h8 y0_1 y0_2 y0_4 y0_5 y0_6 y0_7 y0_8 y0_9 y0_10 y1_0 y4_3 y4_4 y4_5 y5_2 y5_4 g_cur : Nat) (sz : Nat) (x0_11 : Int32) (x0_12 : Int32) (x1_1 : Int32) (x2_1 : Int32) (x2_2 : Int32) (a3 : Nat → Option Nat) (x4_0 : Int32) (x4_1 : Int32) (x4_2 : Int32) (a6 : Nat → Int32) (a7 : Nat → Int32) (a8 : Nat → Int32) (F : Nat) (b1 : Int32) (hq_cur : (g_cur, h4, h5) ∈ gS G)  (r0 : Int32) (hf : p_X10_about F g_cur x1_1 x2_1 x2_2 a3 x4_0 x4_1 x4_2 a6 a7 a8 b1 = some r0) : Met l yX10_about (.code yX10_about cX10_about 3 (some .int) :: gtbl) ({ frames := 1, cells := 0, slots := 0, locals := 22 } : Room) (PcS G [.ref h0, .int b1] (wW_X10_about G h0 h1 h2 h3 h4 h5 h6 h7 h8 y0_1 y0_2 y0_4 y0_5 y0_6 y0_7 y0_8 y0_9 y0_10 y1_0 y4_3 y4_4 y4_5 y5_2 y5_4 x0_11 x0_12 x1_1 x2_1 x2_2 a3 x4_0 x4_1 x4_2 a6 a7 a8) sz) (QiS G r0 (va_A (wW_X10_about G h0 h1 h2 h3 h4 h5 h6 h7 h8 y0_1 y0_2 y0_4 y0_5 y0_6 y0_7 y0_8 y0_9 y0_10 y1_0 y4_3 y4_4 y4_5 y5_2 y5_4 x0_11 x0_12 x1_1 x2_1 x2_2 a3 x4_0 x4_1 x4_2 a6 a7 a8) sz) (wW_X10_about G h0 h1 h2 h3 h4 h5 h6 h7 h8 y0_1 y0_2 y0_4 y0_5 y0_6 y0_7 y0_8 y0_9 y0_10 y1_0 y4_3 y4_4 y4_5 y5_2 y5_4 x0_11 x0_12 x1_1 x2_1 x2_2 a3 x4_0 x4_1 x4_2 a6 a7 a8)) 0 0 (va_A (wW_X10_about G h0 h1 h2 h3 h4 h5 h6 h7 h8 y0_1 y0_2 y0_4 y0_5 y0_6 y0_7 y0_8 y0_9 y0_10 y1_0 y4_3 y4_4 y4_5 y5_2 y5_4 x0_11 x0_12 x1_1 x2_1 x2_2 a3 x4_0 x4_1 x4_2 a6 a7 a8) sz) := by
  refine met_start (by decide) (Nat.le_of_ble_eq_true rfl) ?_
  intro p e s m below meth c hC hr hlk hnm hK hP hD hA hS hX ls hl
  obtain ⟨hx, hb, hml, hown, ht0⟩ := hC
  have hown : s.vm.findClass RX10 = some m.cls := hown
  generalize va_A (wW_X10_about G h0 h1 h2 h3 h4 h5 h6 h7 h8 y0_1 y0_2 y0_4 y0_5 y0_6 y0_7 y0_8 y0_9 y0_10 y1_0 y4_3 y4_4 y4_5 y5_2 y5_4 x0_11 x0_12 x1_1 x2_1 x2_2 a3 x4_0 x4_1 x4_2 a6 a7 a8) sz = A at hD hA hS hX ⊢
  have hl : lv_has ls 3 [(0, .ref h0), (1, .int b1)] := hl
  have hf : p_X10_about F g_cur x1_1 x2_1 x2_2 a3 x4_0 x4_1 x4_2 a6 a7 a8 b1 = some r0 := hf
  refine lv_aload_n hx hb dX10_about_0 rfl (lv_at hl 0 rfl) ?_
  refine va_get (ci := 10) (v := .ref h2) (C := RX10) (T := TX10) (N := 13) hx hb ht0 iX10 hown hK hP 0 rfl rfl 3 (by decide) (ht0 _ wd_543) (fun _ h9 => h9) rfl dX10_about_1 ?_
  obtain ⟨_, hc_r_4_0, hf⟩ := of_bnd hf
  refine cl_Vr (w2 := (wW_X10_about G h0 h1 h2 h3 h4 h5 h6 h7 h8 y0_1 y0_2 y0_4 y0_5 y0_6 y0_7 y0_8 y0_9 y0_10 y1_0 y4_3 y4_4 y4_5 y5_2 y5_4 x0_11 x0_12 x1_1 x2_1 x2_2 a3 x4_0 x4_1 x4_2 a6 a7 a8)) (As := []) (rest := []) ⟨hx, hb, hml, hown, ht0⟩ (c_X8_now l G h2 h3 g_cur h4 h5 _ x2_1 x2_2 a3 F hq_cur hc_r_4_0) yk_X8_now wd_531 ⟨rfl, rfl, by decide, by decide⟩ ⟨Nat.le_refl _, Nat.le_refl _⟩ hX hK hP hD hS hA [2, 3] [0, 1, 4, 5, 6, 7, 8] [0, 1, 7, 8, 2, 3, 4, 5, 6] (va_recv hK hP (ci := 8) (q0 := 2) rfl rfl) rfl rfl (by decide) rfl rfl rfl rfl rfl hl.1 rfl (Nat.le_of_ble_eq_true rfl) dX10_about_4 (fun H locs hP hD hS => ?_)
  refine lv_astore_n (lv' := [(2, .ref g_cur), (0, .ref h0), (1, .int b1)]) hx hb dX10_about_7 rfl hl (by decide) rfl (fun ls hl => ?_)
  refine lv_iload_n hx hb dX10_about_8 rfl (lv_at hl 2 rfl) ?_
  by_cases c2 : b1 = (0 : Int32)
  · have hf := of_pos hf c2
    refine lv_tableIn (off := 47) (tgt := 56) hx hb dX10_about_9 (by rw [c2]; decide) (by rw [c2]; decide) (by rw [c2]; rfl) (by decide) ?_
    refine lv_aload_n hx hb dX10_about_56 rfl (lv_at hl 0 rfl) ?_
    refine vk_getf hx hb (hX.2.2 _ hq_cur).2.1 hS hown (ht0 _ wd_342) (fun _ h => h) dX10_about_57 ?_
    refine va_get (ci := 1) (v := .int x4_0) (C := RX1) (T := TX1) (N := 6) hx hb ht0 iX1 hown hK hP 4 rfl rfl 0 (by decide) (ht0 _ wd_214) (fun _ h9 => h9) rfl dX10_about_60 ?_
    cases hf
    exact ret_i hx hb hr hlk hK hP hD hS dX10_about_63
  have hf := of_neg hf c2
  by_cases c3 : b1 = (1 : Int32)
  · have hf := of_pos hf c3
    refine lv_tableIn (off := 55) (tgt := 64) hx hb dX10_about_9 (by rw [c3]; decide) (by rw [c3]; decide) (by rw [c3]; rfl) (by decide) ?_
    refine lv_aload_n hx hb dX10_about_64 rfl (lv_at hl 0 rfl) ?_
    refine vk_getf hx hb (hX.2.2 _ hq_cur).2.1 hS hown (ht0 _ wd_342) (fun _ h => h) dX10_about_65 ?_
    refine va_get (ci := 1) (v := .int x4_1) (C := RX1) (T := TX1) (N := 6) hx hb ht0 iX1 hown hK hP 4 rfl rfl 1 (by decide) (ht0 _ wd_220) (fun _ h9 => h9) rfl dX10_about_68 ?_
    cases hf
    exact ret_i hx hb hr hlk hK hP hD hS dX10_about_71
  have hf := of_neg hf c3
  by_cases c4 : b1 = (2 : Int32)
  · have hf := of_pos hf c4
    refine lv_tableIn (off := 63) (tgt := 72) hx hb dX10_about_9 (by rw [c4]; decide) (by rw [c4]; decide) (by rw [c4]; rfl) (by decide) ?_
    refine lv_aload_n hx hb dX10_about_72 rfl (lv_at hl 0 rfl) ?_
    refine vk_getf hx hb (hX.2.2 _ hq_cur).2.1 hS hown (ht0 _ wd_342) (fun _ h => h) dX10_about_73 ?_
    refine va_get (ci := 1) (v := .int x4_2) (C := RX1) (T := TX1) (N := 6) hx hb ht0 iX1 hown hK hP 4 rfl rfl 2 (by decide) (ht0 _ wd_225) (fun _ h9 => h9) rfl dX10_about_76 ?_
    refine lv_if_eq (tgt := 86) hx hb dX10_about_79 (by decide) (fun c5 => ?_) (fun c5 => ?_)
    · have hf := of_pos hf c5
      refine lv_iconst (v := (0 : Int32)) hx hb dX10_about_86 (by decide) ?_
      cases hf
      exact ret_i hx hb hr hlk hK hP hD hS dX10_about_87
    · have hf := of_neg hf c5
      refine lv_iconst (v := (1 : Int32)) hx hb dX10_about_82 (by decide) ?_
      refine lv_goto (tgt := 87) hx hb dX10_about_83 (by decide) ?_
      cases hf
      exact ret_i hx hb hr hlk hK hP hD hS dX10_about_87
  have hf := of_neg hf c4
  by_cases c6 : b1 = (3 : Int32)
  · have hf := of_pos hf c6
    refine lv_tableIn (off := 79) (tgt := 88) hx hb dX10_about_9 (by rw [c6]; decide) (by rw [c6]; decide) (by rw [c6]; rfl) (by decide) ?_
    refine lv_aload_n hx hb dX10_about_88 rfl (lv_at hl 0 rfl) ?_
    refine vk_getf hx hb (hX.2.2 _ hq_cur).2.2 hS hown (ht0 _ wd_344) (fun _ h => h) dX10_about_89 ?_
    obtain ⟨r_92_6, hc_r_92_6, hf⟩ := of_bnd hf
    refine cl_Vi (w2 := (wW_X10_about G h0 h1 h2 h3 h4 h5 h6 h7 h8 y0_1 y0_2 y0_4 y0_5 y0_6 y0_7 y0_8 y0_9 y0_10 y1_0 y4_3 y4_4 y4_5 y5_2 y5_4 x0_11 x0_12 x1_1 x2_1 x2_2 a3 x4_0 x4_1 x4_2 a6 a7 a8)) (As := []) (rest := []) ⟨hx, hb, hml, hown, ht0⟩ (c_X9_countUnclean l G h5 h8 h6 h7 y5_2 y5_4 _ a8 F _ hc_r_92_6) yk_X9_countUnclean wd_1251 ⟨rfl, rfl, by decide, by decide⟩ ⟨Nat.le_refl _, Nat.le_refl _⟩ hX hK hP hD hS hA [5, 8] [0, 1, 2, 3, 4, 6, 7] [0, 1, 2, 3, 4, 7, 5, 6, 8] (va_recv hK hP (ci := 9) (q0 := 5) rfl rfl) rfl rfl (by decide) rfl rfl rfl rfl rfl hl.1 rfl (Nat.le_of_ble_eq_true rfl) dX10_about_92 (fun H locs hP hD hS => ?_)
    cases hf
    exact ret_i hx hb hr hlk hK hP hD hS dX10_about_95
  have hf := of_neg hf c6
  by_cases c8 : b1 = (4 : Int32)
  · have hf := of_pos hf c8
    refine lv_tableIn (off := 87) (tgt := 96) hx hb dX10_about_9 (by rw [c8]; decide) (by rw [c8]; decide) (by rw [c8]; rfl) (by decide) ?_
    refine lv_aload_n hx hb dX10_about_96 rfl (lv_at hl 0 rfl) ?_
    refine vk_getf hx hb (hX.2.2 _ hq_cur).2.2 hS hown (ht0 _ wd_344) (fun _ h => h) dX10_about_97 ?_
    obtain ⟨r_100_8, hc_r_100_8, hf⟩ := of_bnd hf
    refine cl_Vi (w2 := (wW_X10_about G h0 h1 h2 h3 h4 h5 h6 h7 h8 y0_1 y0_2 y0_4 y0_5 y0_6 y0_7 y0_8 y0_9 y0_10 y1_0 y4_3 y4_4 y4_5 y5_2 y5_4 x0_11 x0_12 x1_1 x2_1 x2_2 a3 x4_0 x4_1 x4_2 a6 a7 a8)) (As := []) (rest := []) ⟨hx, hb, hml, hown, ht0⟩ (c_X9_notMeantAsBits l G h5 h6 h7 y5_2 h8 y5_4 _ a6 a7 F _ hc_r_100_8) yk_X9_notMeantAsBits wd_1255 ⟨rfl, rfl, by decide, by decide⟩ ⟨Nat.le_refl _, Nat.le_refl _⟩ hX hK hP hD hS hA [5, 6, 7] [0, 1, 2, 3, 4, 8] [0, 1, 2, 3, 4, 6, 7, 8, 5] (va_recv hK hP (ci := 9) (q0 := 5) rfl rfl) rfl rfl (by decide) rfl rfl rfl rfl rfl hl.1 rfl (Nat.le_of_ble_eq_true rfl) dX10_about_100 (fun H locs hP hD hS => ?_)
    cases hf
    exact ret_i hx hb hr hlk hK hP hD hS dX10_about_103
  have hf := of_neg hf c8
  by_cases c10 : b1 = (5 : Int32)
  · have hf := of_pos hf c10
    refine lv_tableIn (off := 95) (tgt := 104) hx hb dX10_about_9 (by rw [c10]; decide) (by rw [c10]; decide) (by rw [c10]; rfl) (by decide) ?_
    refine lv_aload_n hx hb dX10_about_104 rfl (lv_at hl 1 rfl) ?_
    refine va_get (ci := 10) (v := .ref h2) (C := RX10) (T := TX10) (N := 13) hx hb ht0 iX10 hown hK hP 0 rfl rfl 3 (by decide) (ht0 _ wd_543) (fun _ h9 => h9) rfl dX10_about_105 ?_
    refine va_get (ci := 8) (v := .int x2_1) (C := RX8) (T := TX8) (N := 3) hx hb ht0 iX8 hown hK hP 2 rfl rfl 1 (by decide) (ht0 _ wd_352) (fun _ h9 => h9) rfl dX10_about_108 ?_
    cases hf
    exact ret_i hx hb hr hlk hK hP hD hS dX10_about_111
  have hf := of_neg hf c10
  by_cases c11 : b1 = (6 : Int32)
  · have hf := of_pos hf c11
    refine lv_tableIn (off := 103) (tgt := 112) hx hb dX10_about_9 (by rw [c11]; decide) (by rw [c11]; decide) (by rw [c11]; rfl) (by decide) ?_
    refine lv_aload_n hx hb dX10_about_112 rfl (lv_at hl 1 rfl) ?_
    refine va_get (ci := 10) (v := .ref h2) (C := RX10) (T := TX10) (N := 13) hx hb ht0 iX10 hown hK hP 0 rfl rfl 3 (by decide) (ht0 _ wd_543) (fun _ h9 => h9) rfl dX10_about_113 ?_
    refine va_get (ci := 8) (v := .int x2_2) (C := RX8) (T := TX8) (N := 3) hx hb ht0 iX8 hown hK hP 2 rfl rfl 2 (by decide) (ht0 _ wd_354) (fun _ h9 => h9) rfl dX10_about_116 ?_
    refine lv_aload_n hx hb dX10_about_119 rfl (lv_at hl 1 rfl) ?_
    refine va_get (ci := 10) (v := .ref h2) (C := RX10) (T := TX10) (N := 13) hx hb ht0 iX10 hown hK hP 0 rfl rfl 3 (by decide) (ht0 _ wd_543) (fun _ h9 => h9) rfl dX10_about_120 ?_
    refine va_get (ci := 8) (v := .int x2_1) (C := RX8) (T := TX8) (N := 3) hx hb ht0 iX8 hown hK hP 2 rfl rfl 1 (by decide) (ht0 _ wd_352) (fun _ h9 => h9) rfl dX10_about_123 ?_
    refine lv_isub hx hb dX10_about_126 ?_
    cases hf
    exact ret_i hx hb hr hlk hK hP hD hS dX10_about_127
  have hf := of_neg hf c11
  by_cases c12 : b1 = (7 : Int32)
  · have hf := of_pos hf c12
    refine lv_tableIn (off := 119) (tgt := 128) hx hb dX10_about_9 (by rw [c12]; decide) (by rw [c12]; decide) (by rw [c12]; rfl) (by decide) ?_
    refine lv_aload_n hx hb dX10_about_128 rfl (lv_at hl 1 rfl) ?_
    refine va_get (ci := 10) (v := .ref h1) (C := RX10) (T := TX10) (N := 13) hx hb ht0 iX10 hown hK hP 0 rfl rfl 0 (by decide) (ht0 _ wd_540) (fun _ h9 => h9) rfl dX10_about_129 ?_
    refine va_get (ci := 7) (v := .int x1_1) (C := RX7) (T := TX7) (N := 2) hx hb ht0 iX7 hown hK hP 1 rfl rfl 1 (by decide) (ht0 _ wd_169) (fun _ h9 => h9) rfl dX10_about_132 ?_
    cases hf
    exact ret_i hx hb hr hlk hK hP hD hS dX10_about_135
  have hf := of_neg hf c12
  refine lv_tableOut (tgt := 136) hx hb dX10_about_9 (by have n0 := lv_neT (a := 0) c2 rfl; have n1 := lv_neT (a := 1) c3 rfl; have n2 := lv_neT (a := 2) c4 rfl; have n3 := lv_neT (a := 3) c6 rfl; have n4 := lv_neT (a := 4) c8 rfl; have n5 := lv_neT (a := 5) c10 rfl; have n6 := lv_neT (a := 6) c11 rfl; have n7 := lv_neT (a := 7) c12 rfl; omega) (by decide) ?_
  refine lv_iconst (v := (-1 : Int32)) hx hb dX10_about_136 (by decide) ?_
  cases hf
  exact ret_i hx hb hr hlk hK hP hD hS dX10_about_137
theorem yk_X10_about : ykV yX10_about RX10 cX10_about 3 (some .int) 1 := ⟨wd_1248, wd_1249, wd_127, wd_1250, rfl, by decide +kernel, by decide +kernel, by decide +kernel⟩
