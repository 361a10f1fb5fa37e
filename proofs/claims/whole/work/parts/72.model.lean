theorem dX11_readLine_0 : decode cX11_readLine 0 = .ok (.aload_n 0, 1) := by decide +kernel
theorem dX11_readLine_1 : decode cX11_readLine 1 = .ok (.iconst 0, 1) := by decide +kernel
theorem dX11_readLine_2 : decode cX11_readLine 2 = .ok (.invokevirtual 170, 3) := by decide +kernel
theorem dX11_readLine_5 : decode cX11_readLine 5 = .ok (.ifCond .eq 27, 3) := by decide +kernel
theorem dX11_readLine_8 : decode cX11_readLine 8 = .ok (.aload_n 0, 1) := by decide +kernel
theorem dX11_readLine_9 : decode cX11_readLine 9 = .ok (.iconst 0, 1) := by decide +kernel
theorem dX11_readLine_10 : decode cX11_readLine 10 = .ok (.invokevirtual 173, 3) := by decide +kernel
theorem dX11_readLine_13 : decode cX11_readLine 13 = .ok (.ifCond .eq 148, 3) := by decide +kernel
theorem dX11_readLine_16 : decode cX11_readLine 16 = .ok (.aload_n 0, 1) := by decide +kernel
theorem dX11_readLine_17 : decode cX11_readLine 17 = .ok (.getfield 13, 3) := by decide +kernel
theorem dX11_readLine_20 : decode cX11_readLine 20 = .ok (.iload_n 1, 1) := by decide +kernel
theorem dX11_readLine_21 : decode cX11_readLine 21 = .ok (.aload_n 0, 1) := by decide +kernel
theorem dX11_readLine_22 : decode cX11_readLine 22 = .ok (.iconst 4, 1) := by decide +kernel
theorem dX11_readLine_23 : decode cX11_readLine 23 = .ok (.bipush 24, 2) := by decide +kernel
theorem dX11_readLine_25 : decode cX11_readLine 25 = .ok (.invokevirtual 176, 3) := by decide +kernel
theorem dX11_readLine_28 : decode cX11_readLine 28 = .ok (.iastore, 1) := by decide +kernel
theorem dX11_readLine_29 : decode cX11_readLine 29 = .ok (.goto 132, 3) := by decide +kernel
theorem dX11_readLine_32 : decode cX11_readLine 32 = .ok (.aload_n 0, 1) := by decide +kernel
theorem dX11_readLine_33 : decode cX11_readLine 33 = .ok (.iconst 1, 1) := by decide +kernel
theorem dX11_readLine_34 : decode cX11_readLine 34 = .ok (.invokevirtual 170, 3) := by decide +kernel
theorem dX11_readLine_37 : decode cX11_readLine 37 = .ok (.ifCond .eq 27, 3) := by decide +kernel
theorem dX11_readLine_40 : decode cX11_readLine 40 = .ok (.aload_n 0, 1) := by decide +kernel
theorem dX11_readLine_41 : decode cX11_readLine 41 = .ok (.iconst 1, 1) := by decide +kernel
theorem dX11_readLine_42 : decode cX11_readLine 42 = .ok (.invokevirtual 173, 3) := by decide +kernel
theorem dX11_readLine_45 : decode cX11_readLine 45 = .ok (.ifCond .eq 116, 3) := by decide +kernel
theorem dX11_readLine_48 : decode cX11_readLine 48 = .ok (.aload_n 0, 1) := by decide +kernel
theorem dX11_readLine_49 : decode cX11_readLine 49 = .ok (.getfield 16, 3) := by decide +kernel
theorem dX11_readLine_52 : decode cX11_readLine 52 = .ok (.iload_n 1, 1) := by decide +kernel
theorem dX11_readLine_53 : decode cX11_readLine 53 = .ok (.aload_n 0, 1) := by decide +kernel
theorem dX11_readLine_54 : decode cX11_readLine 54 = .ok (.iconst 4, 1) := by decide +kernel
theorem dX11_readLine_55 : decode cX11_readLine 55 = .ok (.bipush 8, 2) := by decide +kernel
theorem dX11_readLine_57 : decode cX11_readLine 57 = .ok (.invokevirtual 176, 3) := by decide +kernel
theorem dX11_readLine_60 : decode cX11_readLine 60 = .ok (.iastore, 1) := by decide +kernel
theorem dX11_readLine_61 : decode cX11_readLine 61 = .ok (.goto 100, 3) := by decide +kernel
theorem dX11_readLine_64 : decode cX11_readLine 64 = .ok (.aload_n 0, 1) := by decide +kernel
theorem dX11_readLine_65 : decode cX11_readLine 65 = .ok (.iconst 2, 1) := by decide +kernel
theorem dX11_readLine_66 : decode cX11_readLine 66 = .ok (.invokevirtual 170, 3) := by decide +kernel
theorem dX11_readLine_69 : decode cX11_readLine 69 = .ok (.ifCond .eq 19, 3) := by decide +kernel
theorem dX11_readLine_72 : decode cX11_readLine 72 = .ok (.aload_n 0, 1) := by decide +kernel
theorem dX11_readLine_73 : decode cX11_readLine 73 = .ok (.iconst 2, 1) := by decide +kernel
theorem dX11_readLine_74 : decode cX11_readLine 74 = .ok (.invokevirtual 173, 3) := by decide +kernel
theorem dX11_readLine_77 : decode cX11_readLine 77 = .ok (.ifCond .eq 84, 3) := by decide +kernel
theorem dX11_readLine_80 : decode cX11_readLine 80 = .ok (.aload_n 0, 1) := by decide +kernel
theorem dX11_readLine_81 : decode cX11_readLine 81 = .ok (.iload_n 1, 1) := by decide +kernel
theorem dX11_readLine_82 : decode cX11_readLine 82 = .ok (.invokevirtual 180, 3) := by decide +kernel
theorem dX11_readLine_85 : decode cX11_readLine 85 = .ok (.goto 76, 3) := by decide +kernel
theorem dX11_readLine_88 : decode cX11_readLine 88 = .ok (.aload_n 0, 1) := by decide +kernel
theorem dX11_readLine_89 : decode cX11_readLine 89 = .ok (.bipush 6, 2) := by decide +kernel
theorem dX11_readLine_91 : decode cX11_readLine 91 = .ok (.invokevirtual 170, 3) := by decide +kernel
theorem dX11_readLine_94 : decode cX11_readLine 94 = .ok (.ifCond .eq 28, 3) := by decide +kernel
theorem dX11_readLine_97 : decode cX11_readLine 97 = .ok (.aload_n 0, 1) := by decide +kernel
theorem dX11_readLine_98 : decode cX11_readLine 98 = .ok (.bipush 6, 2) := by decide +kernel
theorem dX11_readLine_100 : decode cX11_readLine 100 = .ok (.invokevirtual 173, 3) := by decide +kernel
theorem dX11_readLine_103 : decode cX11_readLine 103 = .ok (.ifCond .eq 58, 3) := by decide +kernel
theorem dX11_readLine_106 : decode cX11_readLine 106 = .ok (.aload_n 0, 1) := by decide +kernel
theorem dX11_readLine_107 : decode cX11_readLine 107 = .ok (.getfield 22, 3) := by decide +kernel
theorem dX11_readLine_110 : decode cX11_readLine 110 = .ok (.bipush 121, 2) := by decide +kernel
theorem dX11_readLine_112 : decode cX11_readLine 112 = .ok (.iload_n 1, 1) := by decide +kernel
theorem dX11_readLine_113 : decode cX11_readLine 113 = .ok (.imul, 1) := by decide +kernel
theorem dX11_readLine_114 : decode cX11_readLine 114 = .ok (.bipush 32, 2) := by decide +kernel
theorem dX11_readLine_116 : decode cX11_readLine 116 = .ok (.iadd, 1) := by decide +kernel
theorem dX11_readLine_117 : decode cX11_readLine 117 = .ok (.iconst 1, 1) := by decide +kernel
theorem dX11_readLine_118 : decode cX11_readLine 118 = .ok (.iastore, 1) := by decide +kernel
theorem dX11_readLine_119 : decode cX11_readLine 119 = .ok (.goto 42, 3) := by decide +kernel
theorem dX11_readLine_122 : decode cX11_readLine 122 = .ok (.aload_n 0, 1) := by decide +kernel
theorem dX11_readLine_123 : decode cX11_readLine 123 = .ok (.bipush 7, 2) := by decide +kernel
theorem dX11_readLine_125 : decode cX11_readLine 125 = .ok (.invokevirtual 170, 3) := by decide +kernel
theorem dX11_readLine_128 : decode cX11_readLine 128 = .ok (.ifCond .eq 11, 3) := by decide +kernel
theorem dX11_readLine_131 : decode cX11_readLine 131 = .ok (.aload_n 0, 1) := by decide +kernel
theorem dX11_readLine_132 : decode cX11_readLine 132 = .ok (.iload_n 1, 1) := by decide +kernel
theorem dX11_readLine_133 : decode cX11_readLine 133 = .ok (.invokevirtual 183, 3) := by decide +kernel
theorem dX11_readLine_136 : decode cX11_readLine 136 = .ok (.goto 25, 3) := by decide +kernel
theorem dX11_readLine_139 : decode cX11_readLine 139 = .ok (.aload_n 0, 1) := by decide +kernel
theorem dX11_readLine_140 : decode cX11_readLine 140 = .ok (.bipush 8, 2) := by decide +kernel
theorem dX11_readLine_142 : decode cX11_readLine 142 = .ok (.invokevirtual 170, 3) := by decide +kernel
theorem dX11_readLine_145 : decode cX11_readLine 145 = .ok (.ifCond .eq 11, 3) := by decide +kernel
theorem dX11_readLine_148 : decode cX11_readLine 148 = .ok (.aload_n 0, 1) := by decide +kernel
theorem dX11_readLine_149 : decode cX11_readLine 149 = .ok (.iload_n 1, 1) := by decide +kernel
theorem dX11_readLine_150 : decode cX11_readLine 150 = .ok (.invokevirtual 186, 3) := by decide +kernel
theorem dX11_readLine_153 : decode cX11_readLine 153 = .ok (.goto 8, 3) := by decide +kernel
theorem dX11_readLine_156 : decode cX11_readLine 156 = .ok (.aload_n 0, 1) := by decide +kernel
theorem dX11_readLine_157 : decode cX11_readLine 157 = .ok (.iconst 1, 1) := by decide +kernel
theorem dX11_readLine_158 : decode cX11_readLine 158 = .ok (.invokevirtual 160, 3) := by decide +kernel
theorem dX11_readLine_161 : decode cX11_readLine 161 = .ok (.return_, 1) := by decide +kernel
def wW_X11_readLine (G : GG) (h0 h1 h2 h3 h4 h5 h6 h7 h8 h9 h10 h11 h12 y0_0 y0_33 y0_34 y0_38 y0_39 y0_40 y0_41 y0_42 y0_43 y0_45 y0_46 y0_47 y0_48 : Nat) (x0_5 : Int32) (x0_7 : Int32) (x0_8 : Int32) (x0_9 : Int32) (x0_10 : Int32) (x0_11 : Int32) (x0_12 : Int32) (x0_13 : Int32) (x0_14 : Int32) (x0_15 : Int32) (x0_16 : Int32) (x0_17 : Int32) (x0_19 : Int32) (x0_20 : Int32) (x0_27 : Int32) (x0_28 : Int32) (x0_29 : Int32) (x0_30 : Int32) (x0_31 : Int32) (x0_32 : Int32) (x0_35 : Int32) (x0_36 : Int32) (x0_37 : Int32) (x0_44 : Int32) (x0_49 : Int32) (x0_50 : Int32) (a1 : Nat → Int32) (a2 : Nat → Int32) (a3 : Nat → Int32) (a4 : Nat → Int32) (a5 : Nat → Int32) (a6 : Nat → Int32) (a7 : Nat → Int32) (a8 : Nat → Int32) (a9 : Nat → Int32) (a10 : Nat → Int32) (a11 : Nat → Int32) (a12 : Nat → Int32) : va_W := [(h0, .inr (11, [.ref y0_0, .ref h1, .ref h2, .ref h3, .ref h4, .int x0_5, .ref h5, .int x0_7, .int x0_8, .int x0_9, .int x0_10, .int x0_11, .int x0_12, .int x0_13, .int x0_14, .int x0_15, .int x0_16, .int x0_17, .ref h6, .int x0_19, .int x0_20, .ref h7, .ref h8, .ref h9, .ref h10, .ref h11, .ref h12, .int x0_27, .int x0_28, .int x0_29, .int x0_30, .int x0_31, .int x0_32, .ref y0_33, .ref y0_34, .int x0_35, .int x0_36, .int x0_37, .ref y0_38, .ref y0_39, .ref y0_40, .ref y0_41, .ref y0_42, .ref y0_43, .int x0_44, .ref y0_45, .ref y0_46, .ref y0_47, .ref y0_48, .int x0_49, .int x0_50])), (h1, .inl (G.2.1, 2, .inl a1)), (h2, .inl (G.2.1, 2, .inl a2)), (h3, .inl (G.2.1, 2, .inl a3)), (h4, .inl (G.2.1, 242, .inl a4)), (h5, .inl (G.2.2.2.1, 600, .inl a5)), (h6, .inl (G.2.2.2.1, 56, .inl a6)), (h7, .inl (G.2.1, 128, .inl a7)), (h8, .inl (G.2.1, 32, .inl a8)), (h9, .inl (G.2.1, 32, .inl a9)), (h10, .inl (G.2.1, 8, .inl a10)), (h11, .inl (G.2.2.1, 256, .inl a11)), (h12, .inl (G.2.2.1, 256, .inl a12))]
set_option maxHeartbeats 4000000 in
set_option maxRecDepth 100000 in
theorem c_X11_readLine (l : Launch) (G : GG) (h0 h1 h2 h3 h4 h5 h6 h7 h8 h9 h10 h11 h12 y0_0 y0_33 y0_34 y0_38 y0_39 y0_40 y0_41 y0_42 y0_43 y0_45 y0_46 y0_47 y0_48 : Nat) (sz : Nat) (x0_5 : Int32) (x0_7 : Int32) (x0_8 : Int32) (x0_9 : Int32) (x0_10 : Int32) (x0_11 : Int32) (x0_12 : Int32) (x0_13 : Int32) (x0_14 : Int32) (x0_15 : Int32) (x0_16 : Int32) (x0_17 : Int32) (x0_19 : Int32) (x0_20 : Int32) (x0_27 : Int32) (x0_28 : Int32) (x0_29 : Int32) (x0_30 : Int32) (x0_31 : Int32) (x0_32 : Int32) (x0_35 : Int32) (x0_36 : Int32) (x0_37 : Int32) (x0_44 : Int32) (x0_49 : Int32) (x0_50 : Int32) (a1 : Nat → Int32) (a2 : Nat → Int32) (a3 : Nat → Int32) (a4 : Nat → Int32) (a5 : Nat → Int32) (a6 : Nat → Int32) (a7 : Nat → Int32) (a8 : Nat → Int32) (a9 : Nat → Int32) (a10 : Nat → Int32) (a11 : Nat → Int32) (a12 : Nat → Int32) (F : Nat) (b1 : Int32)  (e_x0_9 : Int32) (e_x0_10 : Int32) (e_x0_11 : Int32) (e_x0_12 : Int32) (e_x0_13 : Int32) (e_x0_14 : Int32) (e_x0_15 : Int32) (e_x0_19 : Int32) (e_x0_20 : Int32) (e_x0_27 : Int32) (e_x0_28 : Int32) (e_a1 : Nat → Int32) (e_a2 : Nat → Int32) (e_a3 : Nat → Int32) (e_a4 : Nat → Int32) (e_a7 : Nat → Int32) (e_a8 : Nat → Int32) (e_a9 : Nat → Int32) (e_a10 : Nat → Int32) (e_a11 : Nat → Int32) (e_a12 : Nat → Int32) (hf : p_X11_readLine F x0_8 x0_9 x0_10 x0_11 x0_12 x0_13 x0_14 x0_15 x0_19 x0_20 x0_27 x0_28 a1 a2 a3 a4 a5 a6 a7 a8 a9 a10 a11 a12 b1 = some (e_x0_9, e_x0_10, e_x0_11, e_x0_12, e_x0_13, e_x0_14, e_x0_15, e_x0_19, e_x0_20, e_x0_27, e_x0_28, e_a1, e_a2, e_a3, e_a4, e_a7, e_a8, e_a9, e_a10, e_a11, e_a12)) : Met l yX11_readLine (.code yX11_readLine cX11_readLine 2 none :: gtbl) ({ frames := 5, cells := 0, slots := 0, locals := 118 } : Room) (PcS G [.ref h0, .int b1] (wW_X11_readLine G h0 h1 h2 h3 h4 h5 h6 h7 h8 h9 h10 h11 h12 y0_0 y0_33 y0_34 y0_38 y0_39 y0_40 y0_41 y0_42 y0_43 y0_45 y0_46 y0_47 y0_48 x0_5 x0_7 x0_8 x0_9 x0_10 x0_11 x0_12 x0_13 x0_14 x0_15 x0_16 x0_17 x0_19 x0_20 x0_27 x0_28 x0_29 x0_30 x0_31 x0_32 x0_35 x0_36 x0_37 x0_44 x0_49 x0_50 a1 a2 a3 a4 a5 a6 a7 a8 a9 a10 a11 a12) sz) (QvS G (va_A (wW_X11_readLine G h0 h1 h2 h3 h4 h5 h6 h7 h8 h9 h10 h11 h12 y0_0 y0_33 y0_34 y0_38 y0_39 y0_40 y0_41 y0_42 y0_43 y0_45 y0_46 y0_47 y0_48 x0_5 x0_7 x0_8 x0_9 x0_10 x0_11 x0_12 x0_13 x0_14 x0_15 x0_16 x0_17 x0_19 x0_20 x0_27 x0_28 x0_29 x0_30 x0_31 x0_32 x0_35 x0_36 x0_37 x0_44 x0_49 x0_50 a1 a2 a3 a4 a5 a6 a7 a8 a9 a10 a11 a12) sz) (wW_X11_readLine G h0 h1 h2 h3 h4 h5 h6 h7 h8 h9 h10 h11 h12 y0_0 y0_33 y0_34 y0_38 y0_39 y0_40 y0_41 y0_42 y0_43 y0_45 y0_46 y0_47 y0_48 x0_5 x0_7 x0_8 e_x0_9 e_x0_10 e_x0_11 e_x0_12 e_x0_13 e_x0_14 e_x0_15 x0_16 x0_17 e_x0_19 e_x0_20 e_x0_27 e_x0_28 x0_29 x0_30 x0_31 x0_32 x0_35 x0_36 x0_37 x0_44 x0_49 x0_50 e_a1 e_a2 e_a3 e_a4 a5 a6 e_a7 e_a8 e_a9 e_a10 e_a11 e_a12)) 0 0 (va_A (wW_X11_readLine G h0 h1 h2 h3 h4 h5 h6 h7 h8 h9 h10 h11 h12 y0_0 y0_33 y0_34 y0_38 y0_39 y0_40 y0_41 y0_42 y0_43 y0_45 y0_46 y0_47 y0_48 x0_5 x0_7 x0_8 x0_9 x0_10 x0_11 x0_12 x0_13 x0_14 x0_15 x0_16 x0_17 x0_19 x0_20 x0_27 x0_28 x0_29 x0_30 x0_31 x0_32 x0_35 x0_36 x0_37 x0_44 x0_49 x0_50 a1 a2 a3 a4 a5 a6 a7 a8 a9 a10 a11 a12) sz) := by
  refine met_start (by decide) (Nat.le_of_ble_eq_true rfl) ?_
  intro p e s m below meth c hC hr hlk hnm hK hP hD hA hS hX ls hl
  obtain ⟨hx, hb, hml, hown, ht0⟩ := hC
  have hown : s.vm.findClass RX11 = some m.cls := hown
  generalize va_A (wW_X11_readLine G h0 h1 h2 h3 h4 h5 h6 h7 h8 h9 h10 h11 h12 y0_0 y0_33 y0_34 y0_38 y0_39 y0_40 y0_41 y0_42 y0_43 y0_45 y0_46 y0_47 y0_48 x0_5 x0_7 x0_8 x0_9 x0_10 x0_11 x0_12 x0_13 x0_14 x0_15 x0_16 x0_17 x0_19 x0_20 x0_27 x0_28 x0_29 x0_30 x0_31 x0_32 x0_35 x0_36 x0_37 x0_44 x0_49 x0_50 a1 a2 a3 a4 a5 a6 a7 a8 a9 a10 a11 a12) sz = A at hD hA hS hX ⊢
  have hl : lv_has ls 2 [(0, .ref h0), (1, .int b1)] := hl
  have hf : p_X11_readLine F x0_8 x0_9 x0_10 x0_11 x0_12 x0_13 x0_14 x0_15 x0_19 x0_20 x0_27 x0_28 a1 a2 a3 a4 a5 a6 a7 a8 a9 a10 a11 a12 b1 = some (e_x0_9, e_x0_10, e_x0_11, e_x0_12, e_x0_13, e_x0_14, e_x0_15, e_x0_19, e_x0_20, e_x0_27, e_x0_28, e_a1, e_a2, e_a3, e_a4, e_a7, e_a8, e_a9, e_a10, e_a11, e_a12) := hf
  refine lv_aload_n hx hb dX11_readLine_0 rfl (lv_at hl 0 rfl) ?_
  refine lv_iconst (v := (0 : Int32)) hx hb dX11_readLine_1 (by decide) ?_
  obtain ⟨r_2_0, hc_r_2_0, hf⟩ := of_bnd hf
  refine cl_Vi (w2 := (wW_X11_readLine G h0 h1 h2 h3 h4 h5 h6 h7 h8 h9 h10 h11 h12 y0_0 y0_33 y0_34 y0_38 y0_39 y0_40 y0_41 y0_42 y0_43 y0_45 y0_46 y0_47 y0_48 x0_5 x0_7 x0_8 x0_9 x0_10 x0_11 x0_12 x0_13 x0_14 x0_15 x0_16 x0_17 x0_19 x0_20 x0_27 x0_28 x0_29 x0_30 x0_31 x0_32 x0_35 x0_36 x0_37 x0_44 x0_49 x0_50 a1 a2 a3 a4 a5 a6 a7 a8 a9 a10 a11 a12)) (As := [.int (0 : Int32)]) (rest := []) ⟨hx, hb, hml, hown, ht0⟩ (c_X11_isWord l G h0 y0_0 h1 h2 h3 h4 h5 h6 h7 h8 h9 h10 h11 h12 y0_33 y0_34 y0_38 y0_39 y0_40 y0_41 y0_42 y0_43 y0_45 y0_46 y0_47 y0_48 _ x0_5 x0_7 x0_8 x0_9 x0_10 x0_11 x0_12 x0_13 x0_14 x0_15 x0_16 x0_17 x0_19 x0_20 x0_27 x0_28 x0_29 x0_30 x0_31 x0_32 x0_35 x0_36 x0_37 x0_44 x0_49 x0_50 F (0 : Int32) _ hc_r_2_0) yk_X11_isWord wd_1305 ⟨rfl, rfl, by decide, by decide⟩ ⟨Nat.le_refl _, Nat.le_refl _⟩ hX hK hP hD hS hA [0] [1, 2, 3, 4, 5, 6, 7, 8, 9, 10, 11, 12] [12, 0, 1, 2, 3, 4, 5, 6, 7, 8, 9, 10, 11] (va_recv hK hP (ci := 11) (q0 := 0) rfl rfl) rfl rfl (by decide) rfl rfl rfl rfl rfl hl.1 rfl (Nat.le_of_ble_eq_true rfl) dX11_readLine_2 (fun H locs hP hD hS => ?_)
  refine lv_if_eq (tgt := 32) hx hb dX11_readLine_5 (by decide) (fun c2 => ?_) (fun c2 => ?_)
  · have hf := of_pos hf c2
    refine lv_aload_n hx hb dX11_readLine_32 rfl (lv_at hl 0 rfl) ?_
    refine lv_iconst (v := (1 : Int32)) hx hb dX11_readLine_33 (by decide) ?_
    obtain ⟨r_34_2, hc_r_34_2, hf⟩ := of_bnd hf
    refine cl_Vi (w2 := (wW_X11_readLine G h0 h1 h2 h3 h4 h5 h6 h7 h8 h9 h10 h11 h12 y0_0 y0_33 y0_34 y0_38 y0_39 y0_40 y0_41 y0_42 y0_43 y0_45 y0_46 y0_47 y0_48 x0_5 x0_7 x0_8 x0_9 x0_10 x0_11 x0_12 x0_13 x0_14 x0_15 x0_16 x0_17 x0_19 x0_20 x0_27 x0_28 x0_29 x0_30 x0_31 x0_32 x0_35 x0_36 x0_37 x0_44 x0_49 x0_50 a1 a2 a3 a4 a5 a6 a7 a8 a9 a10 a11 a12)) (As := [.int (1 : Int32)]) (rest := []) ⟨hx, hb, hml, hown, ht0⟩ (c_X11_isWord l G h0 y0_0 h1 h2 h3 h4 h5 h6 h7 h8 h9 h10 h11 h12 y0_33 y0_34 y0_38 y0_39 y0_40 y0_41 y0_42 y0_43 y0_45 y0_46 y0_47 y0_48 _ x0_5 x0_7 x0_8 x0_9 x0_10 x0_11 x0_12 x0_13 x0_14 x0_15 x0_16 x0_17 x0_19 x0_20 x0_27 x0_28 x0_29 x0_30 x0_31 x0_32 x0_35 x0_36 x0_37 x0_44 x0_49 x0_50 F (1 : Int32) _ hc_r_34_2) yk_X11_isWord wd_1305 ⟨rfl, rfl, by decide, by decide⟩ ⟨Nat.le_refl _, Nat.le_refl _⟩ hX hK hP hD hS hA [0] [1, 2, 3, 4, 5, 6, 7, 8, 9, 10, 11, 12] [12, 0, 1, 2, 3, 4, 5, 6, 7, 8, 9, 10, 11] (va_recv hK hP (ci := 11) (q0 := 0) rfl rfl) rfl rfl (by decide) rfl rfl rfl rfl rfl hl.1 rfl (Nat.le_of_ble_eq_true rfl) dX11_readLine_34 (fun H locs hP hD hS => ?_)
    refine lv_if_eq (tgt := 64) hx hb dX11_readLine_37 (by decide) (fun c4 => ?_) (fun c4 => ?_)
    · have hf := of_pos hf c4
      refine lv_aload_n hx hb dX11_readLine_64 rfl (lv_at hl 0 rfl) ?_
      refine lv_iconst (v := (2 : Int32)) hx hb dX11_readLine_65 (by decide) ?_
      obtain ⟨r_66_4, hc_r_66_4, hf⟩ := of_bnd hf
      refine cl_Vi (w2 := (wW_X11_readLine G h0 h1 h2 h3 h4 h5 h6 h7 h8 h9 h10 h11 h12 y0_0 y0_33 y0_34 y0_38 y0_39 y0_40 y0_41 y0_42 y0_43 y0_45 y0_46 y0_47 y0_48 x0_5 x0_7 x0_8 x0_9 x0_10 x0_11 x0_12 x0_13 x0_14 x0_15 x0_16 x0_17 x0_19 x0_20 x0_27 x0_28 x0_29 x0_30 x0_31 x0_32 x0_35 x0_36 x0_37 x0_44 x0_49 x0_50 a1 a2 a3 a4 a5 a6 a7 a8 a9 a10 a11 a12)) (As := [.int (2 : Int32)]) (rest := []) ⟨hx, hb, hml, hown, ht0⟩ (c_X11_isWord l G h0 y0_0 h1 h2 h3 h4 h5 h6 h7 h8 h9 h10 h11 h12 y0_33 y0_34 y0_38 y0_39 y0_40 y0_41 y0_42 y0_43 y0_45 y0_46 y0_47 y0_48 _ x0_5 x0_7 x0_8 x0_9 x0_10 x0_11 x0_12 x0_13 x0_14 x0_15 x0_16 x0_17 x0_19 x0_20 x0_27 x0_28 x0_29 x0_30 x0_31 x0_32 x0_35 x0_36 x0_37 x0_44 x0_49 x0_50 F (2 : Int32) _ hc_r_66_4) yk_X11_isWord wd_1305 ⟨rfl, rfl, by decide, by decide⟩ ⟨Nat.le_refl _, Nat.le_refl _⟩ hX hK hP hD hS hA [0] [1, 2, 3, 4, 5, 6, 7, 8, 9, 10, 11, 12] [12, 0, 1, 2, 3, 4, 5, 6, 7, 8, 9, 10, 11] (va_recv hK hP (ci := 11) (q0 := 0) rfl rfl) rfl rfl (by decide) rfl rfl rfl rfl rfl hl.1 rfl (Nat.le_of_ble_eq_true rfl) dX11_readLine_66 (fun H locs hP hD hS => ?_)
      refine lv_if_eq (tgt := 88) hx hb dX11_readLine_69 (by decide) (fun c6 => ?_) (fun c6 => ?_)
      · have hf := of_pos hf c6
        refine lv_aload_n hx hb dX11_readLine_88 rfl (lv_at hl 0 rfl) ?_
        refine lv_bipush (v := (6 : Int32)) hx hb dX11_readLine_89 (by decide) ?_
        obtain ⟨r_91_6, hc_r_91_6, hf⟩ := of_bnd hf
        refine cl_Vi (w2 := (wW_X11_readLine G h0 h1 h2 h3 h4 h5 h6 h7 h8 h9 h10 h11 h12 y0_0 y0_33 y0_34 y0_38 y0_39 y0_40 y0_41 y0_42 y0_43 y0_45 y0_46 y0_47 y0_48 x0_5 x0_7 x0_8 x0_9 x0_10 x0_11 x0_12 x0_13 x0_14 x0_15 x0_16 x0_17 x0_19 x0_20 x0_27 x0_28 x0_29 x0_30 x0_31 x0_32 x0_35 x0_36 x0_37 x0_44 x0_49 x0_50 a1 a2 a3 a4 a5 a6 a7 a8 a9 a10 a11 a12)) (As := [.int (6 : Int32)]) (rest := []) ⟨hx, hb, hml, hown, ht0⟩ (c_X11_isWord l G h0 y0_0 h1 h2 h3 h4 h5 h6 h7 h8 h9 h10 h11 h12 y0_33 y0_34 y0_38 y0_39 y0_40 y0_41 y0_42 y0_43 y0_45 y0_46 y0_47 y0_48 _ x0_5 x0_7 x0_8 x0_9 x0_10 x0_11 x0_12 x0_13 x0_14 x0_15 x0_16 x0_17 x0_19 x0_20 x0_27 x0_28 x0_29 x0_30 x0_31 x0_32 x0_35 x0_36 x0_37 x0_44 x0_49 x0_50 F (6 : Int32) _ hc_r_91_6) yk_X11_isWord wd_1305 ⟨rfl, rfl, by decide, by decide⟩ ⟨Nat.le_refl _, Nat.le_refl _⟩ hX hK hP hD hS hA [0] [1, 2, 3, 4, 5, 6, 7, 8, 9, 10, 11, 12] [12, 0, 1, 2, 3, 4, 5, 6, 7, 8, 9, 10, 11] (va_recv hK hP (ci := 11) (q0 := 0) rfl rfl) rfl rfl (by decide) rfl rfl rfl rfl rfl hl.1 rfl (Nat.le_of_ble_eq_true rfl) dX11_readLine_91 (fun H locs hP hD hS => ?_)
        refine lv_if_eq (tgt := 122) hx hb dX11_readLine_94 (by decide) (fun c8 => ?_) (fun c8 => ?_)
        · have hf := of_pos hf c8
          refine lv_aload_n hx hb dX11_readLine_122 rfl (lv_at hl 0 rfl) ?_
          refine lv_bipush (v := (7 : Int32)) hx hb dX11_readLine_123 (by decide) ?_
          obtain ⟨r_125_8, hc_r_125_8, hf⟩ := of_bnd hf
          refine cl_Vi (w2 := (wW_X11_readLine G h0 h1 h2 h3 h4 h5 h6 h7 h8 h9 h10 h11 h12 y0_0 y0_33 y0_34 y0_38 y0_39 y0_40 y0_41 y0_42 y0_43 y0_45 y0_46 y0_47 y0_48 x0_5 x0_7 x0_8 x0_9 x0_10 x0_11 x0_12 x0_13 x0_14 x0_15 x0_16 x0_17 x0_19 x0_20 x0_27 x0_28 x0_29 x0_30 x0_31 x0_32 x0_35 x0_36 x0_37 x0_44 x0_49 x0_50 a1 a2 a3 a4 a5 a6 a7 a8 a9 a10 a11 a12)) (As := [.int (7 : Int32)]) (rest := []) ⟨hx, hb, hml, hown, ht0⟩ (c_X11_isWord l G h0 y0_0 h1 h2 h3 h4 h5 h6 h7 h8 h9 h10 h11 h12 y0_33 y0_34 y0_38 y0_39 y0_40 y0_41 y0_42 y0_43 y0_45 y0_46 y0_47 y0_48 _ x0_5 x0_7 x0_8 x0_9 x0_10 x0_11 x0_12 x0_13 x0_14 x0_15 x0_16 x0_17 x0_19 x0_20 x0_27 x0_28 x0_29 x0_30 x0_31 x0_32 x0_35 x0_36 x0_37 x0_44 x0_49 x0_50 F (7 : Int32) _ hc_r_125_8) yk_X11_isWord wd_1305 ⟨rfl, rfl, by decide, by decide⟩ ⟨Nat.le_refl _, Nat.le_refl _⟩ hX hK hP hD hS hA [0] [1, 2, 3, 4, 5, 6, 7, 8, 9, 10, 11, 12] [12, 0, 1, 2, 3, 4, 5, 6, 7, 8, 9, 10, 11] (va_recv hK hP (ci := 11) (q0 := 0) rfl rfl) rfl rfl (by decide) rfl rfl rfl rfl rfl hl.1 rfl (Nat.le_of_ble_eq_true rfl) dX11_readLine_125 (fun H locs hP hD hS => ?_)
          refine lv_if_eq (tgt := 139) hx hb dX11_readLine_128 (by decide) (fun c10 => ?_) (fun c10 => ?_)
          · have hf := of_pos hf c10
            refine lv_aload_n hx hb dX11_readLine_139 rfl (lv_at hl 0 rfl) ?_
            refine lv_bipush (v := (8 : Int32)) hx hb dX11_readLine_140 (by decide) ?_
            obtain ⟨r_142_10, hc_r_142_10, hf⟩ := of_bnd hf
            refine cl_Vi (w2 := (wW_X11_readLine G h0 h1 h2 h3 h4 h5 h6 h7 h8 h9 h10 h11 h12 y0_0 y0_33 y0_34 y0_38 y0_39 y0_40 y0_41 y0_42 y0_43 y0_45 y0_46 y0_47 y0_48 x0_5 x0_7 x0_8 x0_9 x0_10 x0_11 x0_12 x0_13 x0_14 x0_15 x0_16 x0_17 x0_19 x0_20 x0_27 x0_28 x0_29 x0_30 x0_31 x0_32 x0_35 x0_36 x0_37 x0_44 x0_49 x0_50 a1 a2 a3 a4 a5 a6 a7 a8 a9 a10 a11 a12)) (As := [.int (8 : Int32)]) (rest := []) ⟨hx, hb, hml, hown, ht0⟩ (c_X11_isWord l G h0 y0_0 h1 h2 h3 h4 h5 h6 h7 h8 h9 h10 h11 h12 y0_33 y0_34 y0_38 y0_39 y0_40 y0_41 y0_42 y0_43 y0_45 y0_46 y0_47 y0_48 _ x0_5 x0_7 x0_8 x0_9 x0_10 x0_11 x0_12 x0_13 x0_14 x0_15 x0_16 x0_17 x0_19 x0_20 x0_27 x0_28 x0_29 x0_30 x0_31 x0_32 x0_35 x0_36 x0_37 x0_44 x0_49 x0_50 F (8 : Int32) _ hc_r_142_10) yk_X11_isWord wd_1305 ⟨rfl, rfl, by decide, by decide⟩ ⟨Nat.le_refl _, Nat.le_refl _⟩ hX hK hP hD hS hA [0] [1, 2, 3, 4, 5, 6, 7, 8, 9, 10, 11, 12] [12, 0, 1, 2, 3, 4, 5, 6, 7, 8, 9, 10, 11] (va_recv hK hP (ci := 11) (q0 := 0) rfl rfl) rfl rfl (by decide) rfl rfl rfl rfl rfl hl.1 rfl (Nat.le_of_ble_eq_true rfl) dX11_readLine_142 (fun H locs hP hD hS => ?_)
            refine lv_if_eq (tgt := 156) hx hb dX11_readLine_145 (by decide) (fun c12 => ?_) (fun c12 => ?_)
            · have hf := of_pos hf c12
              refine lv_aload_n hx hb dX11_readLine_156 rfl (lv_at hl 0 rfl) ?_
              refine lv_iconst (v := (1 : Int32)) hx hb dX11_readLine_157 (by decide) ?_
              obtain ⟨⟨r_158_12_x0_14, r_158_12_x0_15⟩, hc_r_158_12, hf⟩ := of_bnd hf
              refine cl_Vv (w2 := (wW_X11_readLine G h0 h1 h2 h3 h4 h5 h6 h7 h8 h9 h10 h11 h12 y0_0 y0_33 y0_34 y0_38 y0_39 y0_40 y0_41 y0_42 y0_43 y0_45 y0_46 y0_47 y0_48 x0_5 x0_7 x0_8 x0_9 x0_10 x0_11 x0_12 x0_13 r_158_12_x0_14 r_158_12_x0_15 x0_16 x0_17 x0_19 x0_20 x0_27 x0_28 x0_29 x0_30 x0_31 x0_32 x0_35 x0_36 x0_37 x0_44 x0_49 x0_50 a1 a2 a3 a4 a5 a6 a7 a8 a9 a10 a11 a12)) (As := [.int (1 : Int32)]) (rest := []) ⟨hx, hb, hml, hown, ht0⟩ (c_X11_fail l G h0 y0_0 h1 h2 h3 h4 h5 h6 h7 h8 h9 h10 h11 h12 y0_33 y0_34 y0_38 y0_39 y0_40 y0_41 y0_42 y0_43 y0_45 y0_46 y0_47 y0_48 _ x0_5 x0_7 x0_8 x0_9 x0_10 x0_11 x0_12 x0_13 x0_14 x0_15 x0_16 x0_17 x0_19 x0_20 x0_27 x0_28 x0_29 x0_30 x0_31 x0_32 x0_35 x0_36 x0_37 x0_44 x0_49 x0_50 F (1 : Int32) _ _ hc_r_158_12) yk_X11_fail wd_1313 ⟨rfl, rfl, by decide, by decide⟩ ⟨Nat.le_refl _, Nat.le_refl _⟩ hX hK hP hD hS hA [0] [1, 2, 3, 4, 5, 6, 7, 8, 9, 10, 11, 12] [12, 0, 1, 2, 3, 4, 5, 6, 7, 8, 9, 10, 11] (va_recv hK hP (ci := 11) (q0 := 0) rfl rfl) rfl rfl (by decide) rfl rfl rfl rfl rfl hl.1 rfl (Nat.le_of_ble_eq_true rfl) dX11_readLine_158 (fun H locs hP hD hS => ?_)
              cases hf
              exact ret_v hx hb hr hlk hK hP hD hS dX11_readLine_161
            · have hf := of_neg hf c12
              refine lv_aload_n hx hb dX11_readLine_148 rfl (lv_at hl 0 rfl) ?_
              refine lv_iload_n hx hb dX11_readLine_149 rfl (lv_at hl 1 rfl) ?_
              obtain ⟨⟨r_150_13_x0_9, r_150_13_x0_10, r_150_13_x0_11, r_150_13_x0_12, r_150_13_x0_13, r_150_13_x0_14, r_150_13_x0_15, r_150_13_x0_20, r_150_13_x0_27, r_150_13_x0_28, r_150_13_a4, r_150_13_a7, r_150_13_a8, r_150_13_a9, r_150_13_a10, r_150_13_a11, r_150_13_a12⟩, hc_r_150_13, hf⟩ := of_bnd hf
              refine cl_Vv (w2 := (wW_X11_readLine G h0 h1 h2 h3 h4 h5 h6 h7 h8 h9 h10 h11 h12 y0_0 y0_33 y0_34 y0_38 y0_39 y0_40 y0_41 y0_42 y0_43 y0_45 y0_46 y0_47 y0_48 x0_5 x0_7 x0_8 r_150_13_x0_9 r_150_13_x0_10 r_150_13_x0_11 r_150_13_x0_12 r_150_13_x0_13 r_150_13_x0_14 r_150_13_x0_15 x0_16 x0_17 x0_19 r_150_13_x0_20 r_150_13_x0_27 r_150_13_x0_28 x0_29 x0_30 x0_31 x0_32 x0_35 x0_36 x0_37 x0_44 x0_49 x0_50 a1 a2 a3 r_150_13_a4 a5 a6 r_150_13_a7 r_150_13_a8 r_150_13_a9 r_150_13_a10 r_150_13_a11 r_150_13_a12)) (As := [.int b1]) (rest := []) ⟨hx, hb, hml, hown, ht0⟩ (c_X11_readWord l G h0 h1 h2 h3 h4 h5 h6 h7 h8 h9 h10 h11 h12 y0_0 y0_33 y0_34 y0_38 y0_39 y0_40 y0_41 y0_42 y0_43 y0_45 y0_46 y0_47 y0_48 _ x0_5 x0_7 x0_8 x0_9 x0_10 x0_11 x0_12 x0_13 x0_14 x0_15 x0_16 x0_17 x0_19 x0_20 x0_27 x0_28 x0_29 x0_30 x0_31 x0_32 x0_35 x0_36 x0_37 x0_44 x0_49 x0_50 a1 a2 a3 a4 a5 a6 a7 a8 a9 a10 a11 a12 F b1 _ _ _ _ _ _ _ _ _ _ _ _ _ _ _ _ _ hc_r_150_13) yk_X11_readWord wd_1382 ⟨rfl, rfl, by decide, by decide⟩ ⟨Nat.le_refl _, Nat.le_refl _⟩ hX hK hP hD hS hA [0, 1, 2, 3, 4, 5, 6, 7, 8, 9, 10, 11, 12] [] [0, 1, 2, 3, 4, 5, 6, 7, 8, 9, 10, 11, 12] (va_recv hK hP (ci := 11) (q0 := 0) rfl rfl) rfl rfl (by decide) rfl rfl rfl rfl rfl hl.1 rfl (Nat.le_of_ble_eq_true rfl) dX11_readLine_150 (fun H locs hP hD hS => ?_)
              refine lv_goto (tgt := 161) hx hb dX11_readLine_153 (by decide) ?_
              cases hf
              exact ret_v hx hb hr hlk hK hP hD hS dX11_readLine_161
          · have hf := of_neg hf c10
            refine lv_aload_n hx hb dX11_readLine_131 rfl (lv_at hl 0 rfl) ?_
            refine lv_iload_n hx hb dX11_readLine_132 rfl (lv_at hl 1 rfl) ?_
            obtain ⟨⟨r_133_14_x0_9, r_133_14_x0_10, r_133_14_x0_11, r_133_14_x0_12, r_133_14_x0_13, r_133_14_x0_14, r_133_14_x0_15, r_133_14_x0_20, r_133_14_x0_27, r_133_14_x0_28, r_133_14_a4, r_133_14_a7, r_133_14_a8, r_133_14_a9, r_133_14_a10, r_133_14_a11, r_133_14_a12⟩, hc_r_133_14, hf⟩ := of_bnd hf
            refine cl_Vv (w2 := (wW_X11_readLine G h0 h1 h2 h3 h4 h5 h6 h7 h8 h9 h10 h11 h12 y0_0 y0_33 y0_34 y0_38 y0_39 y0_40 y0_41 y0_42 y0_43 y0_45 y0_46 y0_47 y0_48 x0_5 x0_7 x0_8 r_133_14_x0_9 r_133_14_x0_10 r_133_14_x0_11 r_133_14_x0_12 r_133_14_x0_13 r_133_14_x0_14 r_133_14_x0_15 x0_16 x0_17 x0_19 r_133_14_x0_20 r_133_14_x0_27 r_133_14_x0_28 x0_29 x0_30 x0_31 x0_32 x0_35 x0_36 x0_37 x0_44 x0_49 x0_50 a1 a2 a3 r_133_14_a4 a5 a6 r_133_14_a7 r_133_14_a8 r_133_14_a9 r_133_14_a10 r_133_14_a11 r_133_14_a12)) (As := [.int b1]) (rest := []) ⟨hx, hb, hml, hown, ht0⟩ (c_X11_readColumn l G h0 h1 h2 h3 h4 h5 h6 h7 h8 h9 h10 h11 h12 y0_0 y0_33 y0_34 y0_38 y0_39 y0_40 y0_41 y0_42 y0_43 y0_45 y0_46 y0_47 y0_48 _ x0_5 x0_7 x0_8 x0_9 x0_10 x0_11 x0_12 x0_13 x0_14 x0_15 x0_16 x0_17 x0_19 x0_20 x0_27 x0_28 x0_29 x0_30 x0_31 x0_32 x0_35 x0_36 x0_37 x0_44 x0_49 x0_50 a1 a2 a3 a4 a5 a6 a7 a8 a9 a10 a11 a12 F b1 _ _ _ _ _ _ _ _ _ _ _ _ _ _ _ _ _ hc_r_133_14) yk_X11_readColumn wd_1328 ⟨rfl, rfl, by decide, by decide⟩ ⟨Nat.le_refl _, Nat.le_refl _⟩ hX hK hP hD hS hA [0, 1, 2, 3, 4, 5, 6, 7, 8, 9, 10, 11, 12] [] [0, 1, 2, 3, 4, 5, 6, 7, 8, 9, 10, 11, 12] (va_recv hK hP (ci := 11) (q0 := 0) rfl rfl) rfl rfl (by decide) rfl rfl rfl rfl rfl hl.1 rfl (Nat.le_of_ble_eq_true rfl) dX11_readLine_133 (fun H locs hP hD hS => ?_)
            refine lv_goto (tgt := 161) hx hb dX11_readLine_136 (by decide) ?_
            cases hf
            exact ret_v hx hb hr hlk hK hP hD hS dX11_readLine_161
        · have hf := of_neg hf c8
          refine lv_aload_n hx hb dX11_readLine_97 rfl (lv_at hl 0 rfl) ?_
          refine lv_bipush (v := (6 : Int32)) hx hb dX11_readLine_98 (by decide) ?_
          obtain ⟨⟨r_100_15, r_100_15_x0_9, r_100_15_x0_10, r_100_15_x0_11, r_100_15_x0_12, r_100_15_x0_13, r_100_15_x0_14, r_100_15_x0_15, r_100_15_x0_19⟩, hc_r_100_15, hf⟩ := of_bnd hf
          refine cl_Vi (w2 := (wW_X11_readLine G h0 h1 h2 h3 h4 h5 h6 h7 h8 h9 h10 h11 h12 y0_0 y0_33 y0_34 y0_38 y0_39 y0_40 y0_41 y0_42 y0_43 y0_45 y0_46 y0_47 y0_48 x0_5 x0_7 x0_8 r_100_15_x0_9 r_100_15_x0_10 r_100_15_x0_11 r_100_15_x0_12 r_100_15_x0_13 r_100_15_x0_14 r_100_15_x0_15 x0_16 x0_17 r_100_15_x0_19 x0_20 x0_27 x0_28 x0_29 x0_30 x0_31 x0_32 x0_35 x0_36 x0_37 x0_44 x0_49 x0_50 a1 a2 a3 a4 a5 a6 a7 a8 a9 a10 a11 a12)) (As := [.int (6 : Int32)]) (rest := []) ⟨hx, hb, hml, hown, ht0⟩ (c_X11_isOnce l G h0 h5 h6 y0_0 h1 h2 h3 h4 h7 h8 h9 h10 h11 h12 y0_33 y0_34 y0_38 y0_39 y0_40 y0_41 y0_42 y0_43 y0_45 y0_46 y0_47 y0_48 _ x0_5 x0_7 x0_8 x0_9 x0_10 x0_11 x0_12 x0_13 x0_14 x0_15 x0_16 x0_17 x0_19 x0_20 x0_27 x0_28 x0_29 x0_30 x0_31 x0_32 x0_35 x0_36 x0_37 x0_44 x0_49 x0_50 a5 a6 F (6 : Int32) _ _ _ _ _ _ _ _ _ hc_r_100_15) yk_X11_isOnce wd_1309 ⟨rfl, rfl, by decide, by decide⟩ ⟨Nat.le_refl _, Nat.le_refl _⟩ hX hK hP hD hS hA [0, 5, 6] [1, 2, 3, 4, 7, 8, 9, 10, 11, 12] [10, 0, 1, 2, 3, 11, 12, 4, 5, 6, 7, 8, 9] (va_recv hK hP (ci := 11) (q0 := 0) rfl rfl) rfl rfl (by decide) rfl rfl rfl rfl rfl hl.1 rfl (Nat.le_of_ble_eq_true rfl) dX11_readLine_100 (fun H locs hP hD hS => ?_)
          refine lv_if_eq (tgt := 161) hx hb dX11_readLine_103 (by decide) (fun c17 => ?_) (fun c17 => ?_)
          · have hf := of_pos hf c17
            cases hf
            exact ret_v hx hb hr hlk hK hP hD hS dX11_readLine_161
          · have hf := of_neg hf c17
            refine lv_aload_n hx hb dX11_readLine_106 rfl (lv_at hl 0 rfl) ?_
            refine va_get (ci := 11) (v := .ref h4) (C := RX11) (T := TX11) (N := 51) hx hb ht0 iX11 hown hK hP 0 rfl rfl 4 (by decide) (ht0 _ wd_1410) (fun _ h9 => h9) rfl dX11_readLine_107 ?_
            refine lv_bipush (v := (121 : Int32)) hx hb dX11_readLine_110 (by decide) ?_
            refine lv_iload_n hx hb dX11_readLine_112 rfl (lv_at hl 1 rfl) ?_
            refine lv_imul hx hb dX11_readLine_113 ?_
            refine lv_bipush (v := (32 : Int32)) hx hb dX11_readLine_114 (by decide) ?_
            refine lv_iadd hx hb dX11_readLine_116 ?_
            refine lv_iconst (v := (1 : Int32)) hx hb dX11_readLine_117 (by decide) ?_
            obtain ⟨g18, hf⟩ := of_grd hf
            refine va_iast hx hb hK hP hD hS 4 0 rfl rfl g18 dX11_readLine_118 (fun H locs hP hD hS => ?_)
            have hP : va_P G.1 vwCl (wW_X11_readLine G h0 h1 h2 h3 h4 h5 h6 h7 h8 h9 h10 h11 h12 y0_0 y0_33 y0_34 y0_38 y0_39 y0_40 y0_41 y0_42 y0_43 y0_45 y0_46 y0_47 y0_48 x0_5 x0_7 x0_8 r_100_15_x0_9 r_100_15_x0_10 r_100_15_x0_11 r_100_15_x0_12 r_100_15_x0_13 r_100_15_x0_14 r_100_15_x0_15 x0_16 x0_17 r_100_15_x0_19 x0_20 x0_27 x0_28 x0_29 x0_30 x0_31 x0_32 x0_35 x0_36 x0_37 x0_44 x0_49 x0_50 a1 a2 a3 (upd a4 (((121 : Int32) * b1) + (32 : Int32)).toNatClampNeg (1 : Int32)) a5 a6 a7 a8 a9 a10 a11 a12) H := hP
            have hD : va_D A (wW_X11_readLine G h0 h1 h2 h3 h4 h5 h6 h7 h8 h9 h10 h11 h12 y0_0 y0_33 y0_34 y0_38 y0_39 y0_40 y0_41 y0_42 y0_43 y0_45 y0_46 y0_47 y0_48 x0_5 x0_7 x0_8 r_100_15_x0_9 r_100_15_x0_10 r_100_15_x0_11 r_100_15_x0_12 r_100_15_x0_13 r_100_15_x0_14 r_100_15_x0_15 x0_16 x0_17 r_100_15_x0_19 x0_20 x0_27 x0_28 x0_29 x0_30 x0_31 x0_32 x0_35 x0_36 x0_37 x0_44 x0_49 x0_50 a1 a2 a3 (upd a4 (((121 : Int32) * b1) + (32 : Int32)).toNatClampNeg (1 : Int32)) a5 a6 a7 a8 a9 a10 a11 a12) := hD
            refine lv_goto (tgt := 161) hx hb dX11_readLine_119 (by decide) ?_
            cases hf
            exact ret_v hx hb hr hlk hK hP hD hS dX11_readLine_161
      · have hf := of_neg hf c6
        refine lv_aload_n hx hb dX11_readLine_72 rfl (lv_at hl 0 rfl) ?_
        refine lv_iconst (v := (2 : Int32)) hx hb dX11_readLine_73 (by decide) ?_
        obtain ⟨⟨r_74_18, r_74_18_x0_9, r_74_18_x0_10, r_74_18_x0_11, r_74_18_x0_12, r_74_18_x0_13, r_74_18_x0_14, r_74_18_x0_15, r_74_18_x0_19⟩, hc_r_74_18, hf⟩ := of_bnd hf
        refine cl_Vi (w2 := (wW_X11_readLine G h0 h1 h2 h3 h4 h5 h6 h7 h8 h9 h10 h11 h12 y0_0 y0_33 y0_34 y0_38 y0_39 y0_40 y0_41 y0_42 y0_43 y0_45 y0_46 y0_47 y0_48 x0_5 x0_7 x0_8 r_74_18_x0_9 r_74_18_x0_10 r_74_18_x0_11 r_74_18_x0_12 r_74_18_x0_13 r_74_18_x0_14 r_74_18_x0_15 x0_16 x0_17 r_74_18_x0_19 x0_20 x0_27 x0_28 x0_29 x0_30 x0_31 x0_32 x0_35 x0_36 x0_37 x0_44 x0_49 x0_50 a1 a2 a3 a4 a5 a6 a7 a8 a9 a10 a11 a12)) (As := [.int (2 : Int32)]) (rest := []) ⟨hx, hb, hml, hown, ht0⟩ (c_X11_isOnce l G h0 h5 h6 y0_0 h1 h2 h3 h4 h7 h8 h9 h10 h11 h12 y0_33 y0_34 y0_38 y0_39 y0_40 y0_41 y0_42 y0_43 y0_45 y0_46 y0_47 y0_48 _ x0_5 x0_7 x0_8 x0_9 x0_10 x0_11 x0_12 x0_13 x0_14 x0_15 x0_16 x0_17 x0_19 x0_20 x0_27 x0_28 x0_29 x0_30 x0_31 x0_32 x0_35 x0_36 x0_37 x0_44 x0_49 x0_50 a5 a6 F (2 : Int32) _ _ _ _ _ _ _ _ _ hc_r_74_18) yk_X11_isOnce wd_1309 ⟨rfl, rfl, by decide, by decide⟩ ⟨Nat.le_refl _, Nat.le_refl _⟩ hX hK hP hD hS hA [0, 5, 6] [1, 2, 3, 4, 7, 8, 9, 10, 11, 12] [10, 0, 1, 2, 3, 11, 12, 4, 5, 6, 7, 8, 9] (va_recv hK hP (ci := 11) (q0 := 0) rfl rfl) rfl rfl (by decide) rfl rfl rfl rfl rfl hl.1 rfl (Nat.le_of_ble_eq_true rfl) dX11_readLine_74 (fun H locs hP hD hS => ?_)
        refine lv_if_eq (tgt := 161) hx hb dX11_readLine_77 (by decide) (fun c20 => ?_) (fun c20 => ?_)
        · have hf := of_pos hf c20
          cases hf
          exact ret_v hx hb hr hlk hK hP hD hS dX11_readLine_161
        · have hf := of_neg hf c20
          refine lv_aload_n hx hb dX11_readLine_80 rfl (lv_at hl 0 rfl) ?_
          refine lv_iload_n hx hb dX11_readLine_81 rfl (lv_at hl 1 rfl) ?_
          obtain ⟨⟨r_82_20_x0_9, r_82_20_x0_10, r_82_20_x0_11, r_82_20_x0_12, r_82_20_x0_13, r_82_20_x0_14, r_82_20_x0_15, r_82_20_a1⟩, hc_r_82_20, hf⟩ := of_bnd hf
          refine cl_Vv (w2 := (wW_X11_readLine G h0 h1 h2 h3 h4 h5 h6 h7 h8 h9 h10 h11 h12 y0_0 y0_33 y0_34 y0_38 y0_39 y0_40 y0_41 y0_42 y0_43 y0_45 y0_46 y0_47 y0_48 x0_5 x0_7 x0_8 r_82_20_x0_9 r_82_20_x0_10 r_82_20_x0_11 r_82_20_x0_12 r_82_20_x0_13 r_82_20_x0_14 r_82_20_x0_15 x0_16 x0_17 r_74_18_x0_19 x0_20 x0_27 x0_28 x0_29 x0_30 x0_31 x0_32 x0_35 x0_36 x0_37 x0_44 x0_49 x0_50 a1 a2 r_82_20_a1 a4 a5 a6 a7 a8 a9 a10 a11 a12)) (As := [.int b1]) (rest := []) ⟨hx, hb, hml, hown, ht0⟩ (c_X11_readWay l G h0 h3 h5 h6 y0_0 h1 h2 h4 h7 h8 h9 h10 h11 h12 y0_33 y0_34 y0_38 y0_39 y0_40 y0_41 y0_42 y0_43 y0_45 y0_46 y0_47 y0_48 _ x0_5 x0_7 x0_8 r_74_18_x0_9 r_74_18_x0_10 r_74_18_x0_11 r_74_18_x0_12 r_74_18_x0_13 r_74_18_x0_14 r_74_18_x0_15 x0_16 x0_17 r_74_18_x0_19 x0_20 x0_27 x0_28 x0_29 x0_30 x0_31 x0_32 x0_35 x0_36 x0_37 x0_44 x0_49 x0_50 a3 a5 a6 F b1 _ _ _ _ _ _ _ _ hc_r_82_20) yk_X11_readWay wd_1324 ⟨rfl, rfl, by decide, by decide⟩ ⟨Nat.le_refl _, Nat.le_refl _⟩ hX hK hP hD hS hA [0, 3, 5, 6] [1, 2, 4, 7, 8, 9, 10, 11, 12] [9, 0, 1, 10, 2, 11, 12, 3, 4, 5, 6, 7, 8] (va_recv hK hP (ci := 11) (q0 := 0) rfl rfl) rfl rfl (by decide) rfl rfl rfl rfl rfl hl.1 rfl (Nat.le_of_ble_eq_true rfl) dX11_readLine_82 (fun H locs hP hD hS => ?_)
          refine lv_goto (tgt := 161) hx hb dX11_readLine_85 (by decide) ?_
          cases hf
          exact ret_v hx hb hr hlk hK hP hD hS dX11_readLine_161
    · have hf := of_neg hf c4
      refine lv_aload_n hx hb dX11_readLine_40 rfl (lv_at hl 0 rfl) ?_
      refine lv_iconst (v := (1 : Int32)) hx hb dX11_readLine_41 (by decide) ?_
      obtain ⟨⟨r_42_21, r_42_21_x0_9, r_42_21_x0_10, r_42_21_x0_11, r_42_21_x0_12, r_42_21_x0_13, r_42_21_x0_14, r_42_21_x0_15, r_42_21_x0_19⟩, hc_r_42_21, hf⟩ := of_bnd hf
      refine cl_Vi (w2 := (wW_X11_readLine G h0 h1 h2 h3 h4 h5 h6 h7 h8 h9 h10 h11 h12 y0_0 y0_33 y0_34 y0_38 y0_39 y0_40 y0_41 y0_42 y0_43 y0_45 y0_46 y0_47 y0_48 x0_5 x0_7 x0_8 r_42_21_x0_9 r_42_21_x0_10 r_42_21_x0_11 r_42_21_x0_12 r_42_21_x0_13 r_42_21_x0_14 r_42_21_x0_15 x0_16 x0_17 r_42_21_x0_19 x0_20 x0_27 x0_28 x0_29 x0_30 x0_31 x0_32 x0_35 x0_36 x0_37 x0_44 x0_49 x0_50 a1 a2 a3 a4 a5 a6 a7 a8 a9 a10 a11 a12)) (As := [.int (1 : Int32)]) (rest := []) ⟨hx, hb, hml, hown, ht0⟩ (c_X11_isOnce l G h0 h5 h6 y0_0 h1 h2 h3 h4 h7 h8 h9 h10 h11 h12 y0_33 y0_34 y0_38 y0_39 y0_40 y0_41 y0_42 y0_43 y0_45 y0_46 y0_47 y0_48 _ x0_5 x0_7 x0_8 x0_9 x0_10 x0_11 x0_12 x0_13 x0_14 x0_15 x0_16 x0_17 x0_19 x0_20 x0_27 x0_28 x0_29 x0_30 x0_31 x0_32 x0_35 x0_36 x0_37 x0_44 x0_49 x0_50 a5 a6 F (1 : Int32) _ _ _ _ _ _ _ _ _ hc_r_42_21) yk_X11_isOnce wd_1309 ⟨rfl, rfl, by decide, by decide⟩ ⟨Nat.le_refl _, Nat.le_refl _⟩ hX hK hP hD hS hA [0, 5, 6] [1, 2, 3, 4, 7, 8, 9, 10, 11, 12] [10, 0, 1, 2, 3, 11, 12, 4, 5, 6, 7, 8, 9] (va_recv hK hP (ci := 11) (q0 := 0) rfl rfl) rfl rfl (by decide) rfl rfl rfl rfl rfl hl.1 rfl (Nat.le_of_ble_eq_true rfl) dX11_readLine_42 (fun H locs hP hD hS => ?_)
      refine lv_if_eq (tgt := 161) hx hb dX11_readLine_45 (by decide) (fun c23 => ?_) (fun c23 => ?_)
      · have hf := of_pos hf c23
        cases hf
        exact ret_v hx hb hr hlk hK hP hD hS dX11_readLine_161
      · have hf := of_neg hf c23
        refine lv_aload_n hx hb dX11_readLine_48 rfl (lv_at hl 0 rfl) ?_
        refine va_get (ci := 11) (v := .ref h2) (C := RX11) (T := TX11) (N := 51) hx hb ht0 iX11 hown hK hP 0 rfl rfl 2 (by decide) (ht0 _ wd_1408) (fun _ h9 => h9) rfl dX11_readLine_49 ?_
        refine lv_iload_n hx hb dX11_readLine_52 rfl (lv_at hl 1 rfl) ?_
        refine lv_aload_n hx hb dX11_readLine_53 rfl (lv_at hl 0 rfl) ?_
        refine lv_iconst (v := (4 : Int32)) hx hb dX11_readLine_54 (by decide) ?_
        refine lv_bipush (v := (8 : Int32)) hx hb dX11_readLine_55 (by decide) ?_
        obtain ⟨⟨r_57_23, r_57_23_x0_9, r_57_23_x0_10, r_57_23_x0_11, r_57_23_x0_12, r_57_23_x0_13, r_57_23_x0_14, r_57_23_x0_15⟩, hc_r_57_23, hf⟩ := of_bnd hf
        refine cl_Vi (w2 := (wW_X11_readLine G h0 h1 h2 h3 h4 h5 h6 h7 h8 h9 h10 h11 h12 y0_0 y0_33 y0_34 y0_38 y0_39 y0_40 y0_41 y0_42 y0_43 y0_45 y0_46 y0_47 y0_48 x0_5 x0_7 x0_8 r_57_23_x0_9 r_57_23_x0_10 r_57_23_x0_11 r_57_23_x0_12 r_57_23_x0_13 r_57_23_x0_14 r_57_23_x0_15 x0_16 x0_17 r_42_21_x0_19 x0_20 x0_27 x0_28 x0_29 x0_30 x0_31 x0_32 x0_35 x0_36 x0_37 x0_44 x0_49 x0_50 a1 a2 a3 a4 a5 a6 a7 a8 a9 a10 a11 a12)) (As := [.int (4 : Int32), .int (8 : Int32)]) (rest := [.int b1, .ref h2]) ⟨hx, hb, hml, hown, ht0⟩ (c_X11_numeral l G h0 h5 h6 y0_0 h1 h2 h3 h4 h7 h8 h9 h10 h11 h12 y0_33 y0_34 y0_38 y0_39 y0_40 y0_41 y0_42 y0_43 y0_45 y0_46 y0_47 y0_48 _ x0_5 x0_7 x0_8 r_42_21_x0_9 r_42_21_x0_10 r_42_21_x0_11 r_42_21_x0_12 r_42_21_x0_13 r_42_21_x0_14 r_42_21_x0_15 x0_16 x0_17 r_42_21_x0_19 x0_20 x0_27 x0_28 x0_29 x0_30 x0_31 x0_32 x0_35 x0_36 x0_37 x0_44 x0_49 x0_50 a5 a6 F (4 : Int32) (8 : Int32) _ _ _ _ _ _ _ _ hc_r_57_23) yk_X11_numeral wd_1317 ⟨rfl, rfl, by decide, by decide⟩ ⟨Nat.le_refl _, Nat.le_refl _⟩ hX hK hP hD hS hA [0, 5, 6] [1, 2, 3, 4, 7, 8, 9, 10, 11, 12] [10, 0, 1, 2, 3, 11, 12, 4, 5, 6, 7, 8, 9] (va_recv hK hP (ci := 11) (q0 := 0) rfl rfl) rfl rfl (by decide) rfl rfl rfl rfl rfl hl.1 rfl (Nat.le_of_ble_eq_true rfl) dX11_readLine_57 (fun H locs hP hD hS => ?_)
        obtain ⟨g25, hf⟩ := of_grd hf
        refine va_iast hx hb hK hP hD hS 2 0 rfl rfl g25 dX11_readLine_60 (fun H locs hP hD hS => ?_)
        have hP : va_P G.1 vwCl (wW_X11_readLine G h0 h1 h2 h3 h4 h5 h6 h7 h8 h9 h10 h11 h12 y0_0 y0_33 y0_34 y0_38 y0_39 y0_40 y0_41 y0_42 y0_43 y0_45 y0_46 y0_47 y0_48 x0_5 x0_7 x0_8 r_57_23_x0_9 r_57_23_x0_10 r_57_23_x0_11 r_57_23_x0_12 r_57_23_x0_13 r_57_23_x0_14 r_57_23_x0_15 x0_16 x0_17 r_42_21_x0_19 x0_20 x0_27 x0_28 x0_29 x0_30 x0_31 x0_32 x0_35 x0_36 x0_37 x0_44 x0_49 x0_50 a1 (upd a2 b1.toNatClampNeg r_57_23) a3 a4 a5 a6 a7 a8 a9 a10 a11 a12) H := hP
        have hD : va_D A (wW_X11_readLine G h0 h1 h2 h3 h4 h5 h6 h7 h8 h9 h10 h11 h12 y0_0 y0_33 y0_34 y0_38 y0_39 y0_40 y0_41 y0_42 y0_43 y0_45 y0_46 y0_47 y0_48 x0_5 x0_7 x0_8 r_57_23_x0_9 r_57_23_x0_10 r_57_23_x0_11 r_57_23_x0_12 r_57_23_x0_13 r_57_23_x0_14 r_57_23_x0_15 x0_16 x0_17 r_42_21_x0_19 x0_20 x0_27 x0_28 x0_29 x0_30 x0_31 x0_32 x0_35 x0_36 x0_37 x0_44 x0_49 x0_50 a1 (upd a2 b1.toNatClampNeg r_57_23) a3 a4 a5 a6 a7 a8 a9 a10 a11 a12) := hD
        refine lv_goto (tgt := 161) hx hb dX11_readLine_61 (by decide) ?_
        cases hf
        exact ret_v hx hb hr hlk hK hP hD hS dX11_readLine_161
  · have hf := of_neg hf c2
    refine lv_aload_n hx hb dX11_readLine_8 rfl (lv_at hl 0 rfl) ?_
    refine lv_iconst (v := (0 : Int32)) hx hb dX11_readLine_9 (by decide) ?_
    obtain ⟨⟨r_10_25, r_10_25_x0_9, r_10_25_x0_10, r_10_25_x0_11, r_10_25_x0_12, r_10_25_x0_13, r_10_25_x0_14, r_10_25_x0_15, r_10_25_x0_19⟩, hc_r_10_25, hf⟩ := of_bnd hf
    refine cl_Vi (w2 := (wW_X11_readLine G h0 h1 h2 h3 h4 h5 h6 h7 h8 h9 h10 h11 h12 y0_0 y0_33 y0_34 y0_38 y0_39 y0_40 y0_41 y0_42 y0_43 y0_45 y0_46 y0_47 y0_48 x0_5 x0_7 x0_8 r_10_25_x0_9 r_10_25_x0_10 r_10_25_x0_11 r_10_25_x0_12 r_10_25_x0_13 r_10_25_x0_14 r_10_25_x0_15 x0_16 x0_17 r_10_25_x0_19 x0_20 x0_27 x0_28 x0_29 x0_30 x0_31 x0_32 x0_35 x0_36 x0_37 x0_44 x0_49 x0_50 a1 a2 a3 a4 a5 a6 a7 a8 a9 a10 a11 a12)) (As := [.int (0 : Int32)]) (rest := []) ⟨hx, hb, hml, hown, ht0⟩ (c_X11_isOnce l G h0 h5 h6 y0_0 h1 h2 h3 h4 h7 h8 h9 h10 h11 h12 y0_33 y0_34 y0_38 y0_39 y0_40 y0_41 y0_42 y0_43 y0_45 y0_46 y0_47 y0_48 _ x0_5 x0_7 x0_8 x0_9 x0_10 x0_11 x0_12 x0_13 x0_14 x0_15 x0_16 x0_17 x0_19 x0_20 x0_27 x0_28 x0_29 x0_30 x0_31 x0_32 x0_35 x0_36 x0_37 x0_44 x0_49 x0_50 a5 a6 F (0 : Int32) _ _ _ _ _ _ _ _ _ hc_r_10_25) yk_X11_isOnce wd_1309 ⟨rfl, rfl, by decide, by decide⟩ ⟨Nat.le_refl _, Nat.le_refl _⟩ hX hK hP hD hS hA [0, 5, 6] [1, 2, 3, 4, 7, 8, 9, 10, 11, 12] [10, 0, 1, 2, 3, 11, 12, 4, 5, 6, 7, 8, 9] (va_recv hK hP (ci := 11) (q0 := 0) rfl rfl) rfl rfl (by decide) rfl rfl rfl rfl rfl hl.1 rfl (Nat.le_of_ble_eq_true rfl) dX11_readLine_10 (fun H locs hP hD hS => ?_)
    refine lv_if_eq (tgt := 161) hx hb dX11_readLine_13 (by decide) (fun c27 => ?_) (fun c27 => ?_)
    · have hf := of_pos hf c27
      cases hf
      exact ret_v hx hb hr hlk hK hP hD hS dX11_readLine_161
    · have hf := of_neg hf c27
      refine lv_aload_n hx hb dX11_readLine_16 rfl (lv_at hl 0 rfl) ?_
      refine va_get (ci := 11) (v := .ref h1) (C := RX11) (T := TX11) (N := 51) hx hb ht0 iX11 hown hK hP 0 rfl rfl 1 (by decide) (ht0 _ wd_1407) (fun _ h9 => h9) rfl dX11_readLine_17 ?_
      refine lv_iload_n hx hb dX11_readLine_20 rfl (lv_at hl 1 rfl) ?_
      refine lv_aload_n hx hb dX11_readLine_21 rfl (lv_at hl 0 rfl) ?_
      refine lv_iconst (v := (4 : Int32)) hx hb dX11_readLine_22 (by decide) ?_
      refine lv_bipush (v := (24 : Int32)) hx hb dX11_readLine_23 (by decide) ?_
      obtain ⟨⟨r_25_27, r_25_27_x0_9, r_25_27_x0_10, r_25_27_x0_11, r_25_27_x0_12, r_25_27_x0_13, r_25_27_x0_14, r_25_27_x0_15⟩, hc_r_25_27, hf⟩ := of_bnd hf
      refine cl_Vi (w2 := (wW_X11_readLine G h0 h1 h2 h3 h4 h5 h6 h7 h8 h9 h10 h11 h12 y0_0 y0_33 y0_34 y0_38 y0_39 y0_40 y0_41 y0_42 y0_43 y0_45 y0_46 y0_47 y0_48 x0_5 x0_7 x0_8 r_25_27_x0_9 r_25_27_x0_10 r_25_27_x0_11 r_25_27_x0_12 r_25_27_x0_13 r_25_27_x0_14 r_25_27_x0_15 x0_16 x0_17 r_10_25_x0_19 x0_20 x0_27 x0_28 x0_29 x0_30 x0_31 x0_32 x0_35 x0_36 x0_37 x0_44 x0_49 x0_50 a1 a2 a3 a4 a5 a6 a7 a8 a9 a10 a11 a12)) (As := [.int (4 : Int32), .int (24 : Int32)]) (rest := [.int b1, .ref h1]) ⟨hx, hb, hml, hown, ht0⟩ (c_X11_numeral l G h0 h5 h6 y0_0 h1 h2 h3 h4 h7 h8 h9 h10 h11 h12 y0_33 y0_34 y0_38 y0_39 y0_40 y0_41 y0_42 y0_43 y0_45 y0_46 y0_47 y0_48 _ x0_5 x0_7 x0_8 r_10_25_x0_9 r_10_25_x0_10 r_10_25_x0_11 r_10_25_x0_12 r_10_25_x0_13 r_10_25_x0_14 r_10_25_x0_15 x0_16 x0_17 r_10_25_x0_19 x0_20 x0_27 x0_28 x0_29 x0_30 x0_31 x0_32 x0_35 x0_36 x0_37 x0_44 x0_49 x0_50 a5 a6 F (4 : Int32) (24 : Int32) _ _ _ _ _ _ _ _ hc_r_25_27) yk_X11_numeral wd_1317 ⟨rfl, rfl, by decide, by decide⟩ ⟨Nat.le_refl _, Nat.le_refl _⟩ hX hK hP hD hS hA [0, 5, 6] [1, 2, 3, 4, 7, 8, 9, 10, 11, 12] [10, 0, 1, 2, 3, 11, 12, 4, 5, 6, 7, 8, 9] (va_recv hK hP (ci := 11) (q0 := 0) rfl rfl) rfl rfl (by decide) rfl rfl rfl rfl rfl hl.1 rfl (Nat.le_of_ble_eq_true rfl) dX11_readLine_25 (fun H locs hP hD hS => ?_)
      obtain ⟨g29, hf⟩ := of_grd hf
      refine va_iast hx hb hK hP hD hS 1 0 rfl rfl g29 dX11_readLine_28 (fun H locs hP hD hS => ?_)
      have hP : va_P G.1 vwCl (wW_X11_readLine G h0 h1 h2 h3 h4 h5 h6 h7 h8 h9 h10 h11 h12 y0_0 y0_33 y0_34 y0_38 y0_39 y0_40 y0_41 y0_42 y0_43 y0_45 y0_46 y0_47 y0_48 x0_5 x0_7 x0_8 r_25_27_x0_9 r_25_27_x0_10 r_25_27_x0_11 r_25_27_x0_12 r_25_27_x0_13 r_25_27_x0_14 r_25_27_x0_15 x0_16 x0_17 r_10_25_x0_19 x0_20 x0_27 x0_28 x0_29 x0_30 x0_31 x0_32 x0_35 x0_36 x0_37 x0_44 x0_49 x0_50 (upd a1 b1.toNatClampNeg r_25_27) a2 a3 a4 a5 a6 a7 a8 a9 a10 a11 a12) H := hP
      have hD : va_D A (wW_X11_readLine G h0 h1 h2 h3 h4 h5 h6 h7 h8 h9 h10 h11 h12 y0_0 y0_33 y0_34 y0_38 y0_39 y0_40 y0_41 y0_42 y0_43 y0_45 y0_46 y0_47 y0_48 x0_5 x0_7 x0_8 r_25_27_x0_9 r_25_27_x0_10 r_25_27_x0_11 r_25_27_x0_12 r_25_27_x0_13 r_25_27_x0_14 r_25_27_x0_15 x0_16 x0_17 r_10_25_x0_19 x0_20 x0_27 x0_28 x0_29 x0_30 x0_31 x0_32 x0_35 x0_36 x0_37 x0_44 x0_49 x0_50 (upd a1 b1.toNatClampNeg r_25_27) a2 a3 a4 a5 a6 a7 a8 a9 a10 a11 a12) := hD
      refine lv_goto (tgt := 161) hx hb dX11_readLine_29 (by decide) ?_
      cases hf
      exact ret_v hx hb hr hlk hK hP hD hS dX11_readLine_161
theorem yk_X11_readLine : ykV yX11_readLine RX11 cX11_readLine 2 none 1 := ⟨wd_1303, wd_47, wd_142, wd_1304, rfl, by decide +kernel, by decide +kernel, by decide +kernel⟩
theorem dX11_finish_0 : decode cX11_finish 0 = .ok (.aload_n 0, 1) := by decide +kernel
theorem dX11_finish_1 : decode cX11_finish 1 = .ok (.iconst 0, 1) := by decide +kernel
theorem dX11_finish_2 : decode cX11_finish 2 = .ok (.putfield 120, 3) := by decide +kernel
theorem dX11_finish_5 : decode cX11_finish 5 = .ok (.aload_n 0, 1) := by decide +kernel
theorem dX11_finish_6 : decode cX11_finish 6 = .ok (.invokevirtual 167, 3) := by decide +kernel
theorem dX11_finish_9 : decode cX11_finish 9 = .ok (.aload_n 0, 1) := by decide +kernel
theorem dX11_finish_10 : decode cX11_finish 10 = .ok (.getfield 111, 3) := by decide +kernel
theorem dX11_finish_13 : decode cX11_finish 13 = .ok (.ifCond .ne 37, 3) := by decide +kernel
theorem dX11_finish_16 : decode cX11_finish 16 = .ok (.aload_n 0, 1) := by decide +kernel
theorem dX11_finish_17 : decode cX11_finish 17 = .ok (.getfield 134, 3) := by decide +kernel
theorem dX11_finish_20 : decode cX11_finish 20 = .ok (.ifCond .eq 30, 3) := by decide +kernel
theorem dX11_finish_23 : decode cX11_finish 23 = .ok (.aload_n 0, 1) := by decide +kernel
theorem dX11_finish_24 : decode cX11_finish 24 = .ok (.iload_n 1, 1) := by decide +kernel
theorem dX11_finish_25 : decode cX11_finish 25 = .ok (.invokevirtual 204, 3) := by decide +kernel
theorem dX11_finish_28 : decode cX11_finish 28 = .ok (.aload_n 0, 1) := by decide +kernel
theorem dX11_finish_29 : decode cX11_finish 29 = .ok (.invokevirtual 207, 3) := by decide +kernel
theorem dX11_finish_32 : decode cX11_finish 32 = .ok (.ifCond .eq 10, 3) := by decide +kernel
theorem dX11_finish_35 : decode cX11_finish 35 = .ok (.aload_n 0, 1) := by decide +kernel
theorem dX11_finish_36 : decode cX11_finish 36 = .ok (.invokevirtual 167, 3) := by decide +kernel
theorem dX11_finish_39 : decode cX11_finish 39 = .ok (.goto (-30), 3) := by decide +kernel
theorem dX11_finish_42 : decode cX11_finish 42 = .ok (.aload_n 0, 1) := by decide +kernel
theorem dX11_finish_43 : decode cX11_finish 43 = .ok (.iconst 1, 1) := by decide +kernel
theorem dX11_finish_44 : decode cX11_finish 44 = .ok (.invokevirtual 160, 3) := by decide +kernel
theorem dX11_finish_47 : decode cX11_finish 47 = .ok (.goto (-38), 3) := by decide +kernel
theorem dX11_finish_50 : decode cX11_finish 50 = .ok (.aload_n 0, 1) := by decide +kernel
theorem dX11_finish_51 : decode cX11_finish 51 = .ok (.getfield 111, 3) := by decide +kernel
theorem dX11_finish_54 : decode cX11_finish 54 = .ok (.ifCond .ne 8, 3) := by decide +kernel
theorem dX11_finish_57 : decode cX11_finish 57 = .ok (.aload_n 0, 1) := by decide +kernel
theorem dX11_finish_58 : decode cX11_finish 58 = .ok (.iload_n 1, 1) := by decide +kernel
theorem dX11_finish_59 : decode cX11_finish 59 = .ok (.invokevirtual 195, 3) := by decide +kernel
theorem dX11_finish_62 : decode cX11_finish 62 = .ok (.iconst 0, 1) := by decide +kernel
theorem dX11_finish_63 : decode cX11_finish 63 = .ok (.istore_n 2, 1) := by decide +kernel
theorem dX11_finish_64 : decode cX11_finish 64 = .ok (.iload_n 2, 1) := by decide +kernel
theorem dX11_finish_65 : decode cX11_finish 65 = .ok (.bipush 16, 2) := by decide +kernel
theorem dX11_finish_67 : decode cX11_finish 67 = .ok (.if_icmp .ge 37, 3) := by decide +kernel
theorem dX11_finish_70 : decode cX11_finish 70 = .ok (.aload_n 0, 1) := by decide +kernel
theorem dX11_finish_71 : decode cX11_finish 71 = .ok (.getfield 22, 3) := by decide +kernel
theorem dX11_finish_74 : decode cX11_finish 74 = .ok (.bipush 121, 2) := by decide +kernel
theorem dX11_finish_76 : decode cX11_finish 76 = .ok (.iload_n 1, 1) := by decide +kernel
theorem dX11_finish_77 : decode cX11_finish 77 = .ok (.imul, 1) := by decide +kernel
theorem dX11_finish_78 : decode cX11_finish 78 = .ok (.bipush 33, 2) := by decide +kernel
theorem dX11_finish_80 : decode cX11_finish 80 = .ok (.iadd, 1) := by decide +kernel
theorem dX11_finish_81 : decode cX11_finish 81 = .ok (.iload_n 2, 1) := by decide +kernel
theorem dX11_finish_82 : decode cX11_finish 82 = .ok (.iadd, 1) := by decide +kernel
theorem dX11_finish_83 : decode cX11_finish 83 = .ok (.aload_n 0, 1) := by decide +kernel
theorem dX11_finish_84 : decode cX11_finish 84 = .ok (.getfield 22, 3) := by decide +kernel
theorem dX11_finish_87 : decode cX11_finish 87 = .ok (.bipush 121, 2) := by decide +kernel
theorem dX11_finish_89 : decode cX11_finish 89 = .ok (.iload_n 1, 1) := by decide +kernel
theorem dX11_finish_90 : decode cX11_finish 90 = .ok (.imul, 1) := by decide +kernel
theorem dX11_finish_91 : decode cX11_finish 91 = .ok (.bipush 65, 2) := by decide +kernel
theorem dX11_finish_93 : decode cX11_finish 93 = .ok (.iadd, 1) := by decide +kernel
theorem dX11_finish_94 : decode cX11_finish 94 = .ok (.iload_n 2, 1) := by decide +kernel
theorem dX11_finish_95 : decode cX11_finish 95 = .ok (.iadd, 1) := by decide +kernel
theorem dX11_finish_96 : decode cX11_finish 96 = .ok (.iaload, 1) := by decide +kernel
theorem dX11_finish_97 : decode cX11_finish 97 = .ok (.iastore, 1) := by decide +kernel
theorem dX11_finish_98 : decode cX11_finish 98 = .ok (.iinc 2 1, 3) := by decide +kernel
theorem dX11_finish_101 : decode cX11_finish 101 = .ok (.goto (-37), 3) := by decide +kernel
theorem dX11_finish_104 : decode cX11_finish 104 = .ok (.return_, 1) := by decide +kernel
def wW_X11_finish (G : GG) (h0 h1 h2 h3 h4 h5 h6 h7 h8 h9 h10 h11 h12 y0_0 y0_33 y0_34 y0_38 y0_39 y0_40 y0_41 y0_42 y0_43 y0_45 y0_46 y0_47 y0_48 : Nat) (x0_5 : Int32) (x0_7 : Int32) (x0_8 : Int32) (x0_9 : Int32) (x0_10 : Int32) (x0_11 : Int32) (x0_12 : Int32) (x0_13 : Int32) (x0_14 : Int32) (x0_15 : Int32) (x0_16 : Int32) (x0_17 : Int32) (x0_19 : Int32) (x0_20 : Int32) (x0_27 : Int32) (x0_28 : Int32) (x0_29 : Int32) (x0_30 : Int32) (x0_31 : Int32) (x0_32 : Int32) (x0_35 : Int32) (x0_36 : Int32) (x0_37 : Int32) (x0_44 : Int32) (x0_49 : Int32) (x0_50 : Int32) (a1 : Nat → Int32) (a2 : Nat → Int32) (a3 : Nat → Int32) (a4 : Nat → Int32) (a5 : Nat → Int32) (a6 : Nat → Int32) (a7 : Nat → Int32) (a8 : Nat → Int32) (a9 : Nat → Int32) (a10 : Nat → Int32) (a11 : Nat → Int32) (a12 : Nat → Int32) : va_W := [(h0, .inr (11, [.ref y0_0, .ref h1, .ref h2, .ref h3, .ref h4, .int x0_5, .ref h5, .int x0_7, .int x0_8, .int x0_9, .int x0_10, .int x0_11, .int x0_12, .int x0_13, .int x0_14, .int x0_15, .int x0_16, .int x0_17, .ref h6, .int x0_19, .int x0_20, .ref h7, .ref h8, .ref h9, .ref h10, .ref h11, .ref h12, .int x0_27, .int x0_28, .int x0_29, .int x0_30, .int x0_31, .int x0_32, .ref y0_33, .ref y0_34, .int x0_35, .int x0_36, .int x0_37, .ref y0_38, .ref y0_39, .ref y0_40, .ref y0_41, .ref y0_42, .ref y0_43, .int x0_44, .ref y0_45, .ref y0_46, .ref y0_47, .ref y0_48, .int x0_49, .int x0_50])), (h1, .inl (G.2.1, 2, .inl a1)), (h2, .inl (G.2.1, 2, .inl a2)), (h3, .inl (G.2.1, 2, .inl a3)), (h4, .inl (G.2.1, 242, .inl a4)), (h5, .inl (G.2.2.2.1, 600, .inl a5)), (h6, .inl (G.2.2.2.1, 56, .inl a6)), (h7, .inl (G.2.1, 128, .inl a7)), (h8, .inl (G.2.1, 32, .inl a8)), (h9, .inl (G.2.1, 32, .inl a9)), (h10, .inl (G.2.1, 8, .inl a10)), (h11, .inl (G.2.2.1, 256, .inl a11)), (h12, .inl (G.2.2.1, 256, .inl a12))]
set_option maxHeartbeats 4000000 in
set_option maxRecDepth 100000 in
theorem c_X11_finish (l : Launch) (G : GG) (h0 h1 h2 h3 h4 h5 h6 h7 h8 h9 h10 h11 h12 y0_0 y0_33 y0_34 y0_38 y0_39 y0_40 y0_41 y0_42 y0_43 y0_45 y0_46 y0_47 y0_48 : Nat) (sz : Nat) (x0_5 : Int32) (x0_7 : Int32) (x0_8 : Int32) (x0_9 : Int32) (x0_10 : Int32) (x0_11 : Int32) (x0_12 : Int32) (x0_13 : Int32) (x0_14 : Int32) (x0_15 : Int32) (x0_16 : Int32) (x0_17 : Int32) (x0_19 : Int32) (x0_20 : Int32) (x0_27 : Int32) (x0_28 : Int32) (x0_29 : Int32) (x0_30 : Int32) (x0_31 : Int32) (x0_32 : Int32) (x0_35 : Int32) (x0_36 : Int32) (x0_37 : Int32) (x0_44 : Int32) (x0_49 : Int32) (x0_50 : Int32) (a1 : Nat → Int32) (a2 : Nat → Int32) (a3 : Nat → Int32) (a4 : Nat → Int32) (a5 : Nat → Int32) (a6 : Nat → Int32) (a7 : Nat → Int32) (a8 : Nat → Int32) (a9 : Nat → Int32) (a10 : Nat → Int32) (a11 : Nat → Int32) (a12 : Nat → Int32) (F : Nat) (b1 : Int32)  (e_x0_9 : Int32) (e_x0_10 : Int32) (e_x0_11 : Int32) (e_x0_12 : Int32) (e_x0_13 : Int32) (e_x0_14 : Int32) (e_x0_15 : Int32) (e_x0_19 : Int32) (e_x0_20 : Int32) (e_x0_27 : Int32) (e_x0_28 : Int32) (e_a1 : Nat → Int32) (e_a2 : Nat → Int32) (e_a3 : Nat → Int32) (e_a4 : Nat → Int32) (e_a7 : Nat → Int32) (e_a8 : Nat → Int32) (e_a9 : Nat → Int32) (e_a10 : Nat → Int32) (e_a11 : Nat → Int32) (e_a12 : Nat → Int32) (hf : p_X11_finish F x0_8 x0_9 x0_10 x0_11 x0_12 x0_13 x0_14 x0_15 x0_19 x0_20 x0_27 x0_28 a1 a2 a3 a4 a5 a6 a7 a8 a9 a10 a11 a12 b1 = some (e_x0_9, e_x0_10, e_x0_11, e_x0_12, e_x0_13, e_x0_14, e_x0_15, e_x0_19, e_x0_20, e_x0_27, e_x0_28, e_a1, e_a2, e_a3, e_a4, e_a7, e_a8, e_a9, e_a10, e_a11, e_a12)) : Met l yX11_finish (.code yX11_finish cX11_finish 3 none :: gtbl) ({ frames := 6, cells := 0, slots := 0, locals := 139 } : Room) (PcS G [.ref h0, .int b1] (wW_X11_finish G h0 h1 h2 h3 h4 h5 h6 h7 h8 h9 h10 h11 h12 y0_0 y0_33 y0_34 y0_38 y0_39 y0_40 y0_41 y0_42 y0_43 y0_45 y0_46 y0_47 y0_48 x0_5 x0_7 x0_8 x0_9 x0_10 x0_11 x0_12 x0_13 x0_14 x0_15 x0_16 x0_17 x0_19 x0_20 x0_27 x0_28 x0_29 x0_30 x0_31 x0_32 x0_35 x0_36 x0_37 x0_44 x0_49 x0_50 a1 a2 a3 a4 a5 a6 a7 a8 a9 a10 a11 a12) sz) (QvS G (va_A (wW_X11_finish G h0 h1 h2 h3 h4 h5 h6 h7 h8 h9 h10 h11 h12 y0_0 y0_33 y0_34 y0_38 y0_39 y0_40 y0_41 y0_42 y0_43 y0_45 y0_46 y0_47 y0_48 x0_5 x0_7 x0_8 x0_9 x0_10 x0_11 x0_12 x0_13 x0_14 x0_15 x0_16 x0_17 x0_19 x0_20 x0_27 x0_28 x0_29 x0_30 x0_31 x0_32 x0_35 x0_36 x0_37 x0_44 x0_49 x0_50 a1 a2 a3 a4 a5 a6 a7 a8 a9 a10 a11 a12) sz) (wW_X11_finish G h0 h1 h2 h3 h4 h5 h6 h7 h8 h9 h10 h11 h12 y0_0 y0_33 y0_34 y0_38 y0_39 y0_40 y0_41 y0_42 y0_43 y0_45 y0_46 y0_47 y0_48 x0_5 x0_7 x0_8 e_x0_9 e_x0_10 e_x0_11 e_x0_12 e_x0_13 e_x0_14 e_x0_15 x0_16 x0_17 e_x0_19 e_x0_20 e_x0_27 e_x0_28 x0_29 x0_30 x0_31 x0_32 x0_35 x0_36 x0_37 x0_44 x0_49 x0_50 e_a1 e_a2 e_a3 e_a4 a5 a6 e_a7 e_a8 e_a9 e_a10 e_a11 e_a12)) 0 0 (va_A (wW_X11_finish G h0 h1 h2 h3 h4 h5 h6 h7 h8 h9 h10 h11 h12 y0_0 y0_33 y0_34 y0_38 y0_39 y0_40 y0_41 y0_42 y0_43 y0_45 y0_46 y0_47 y0_48 x0_5 x0_7 x0_8 x0_9 x0_10 x0_11 x0_12 x0_13 x0_14 x0_15 x0_16 x0_17 x0_19 x0_20 x0_27 x0_28 x0_29 x0_30 x0_31 x0_32 x0_35 x0_36 x0_37 x0_44 x0_49 x0_50 a1 a2 a3 a4 a5 a6 a7 a8 a9 a10 a11 a12) sz) := by
  refine met_start (by decide) (Nat.le_of_ble_eq_true rfl) ?_
  intro p e s m below meth c hC hr hlk hnm hK hP hD hA hS hX ls hl
  obtain ⟨hx, hb, hml, hown, ht0⟩ := hC
  have hown : s.vm.findClass RX11 = some m.cls := hown
  generalize va_A (wW_X11_finish G h0 h1 h2 h3 h4 h5 h6 h7 h8 h9 h10 h11 h12 y0_0 y0_33 y0_34 y0_38 y0_39 y0_40 y0_41 y0_42 y0_43 y0_45 y0_46 y0_47 y0_48 x0_5 x0_7 x0_8 x0_9 x0_10 x0_11 x0_12 x0_13 x0_14 x0_15 x0_16 x0_17 x0_19 x0_20 x0_27 x0_28 x0_29 x0_30 x0_31 x0_32 x0_35 x0_36 x0_37 x0_44 x0_49 x0_50 a1 a2 a3 a4 a5 a6 a7 a8 a9 a10 a11 a12) sz = A at hD hA hS hX ⊢
  have hl : lv_has ls 3 [(0, .ref h0), (1, .int b1)] := hl
  have hf : p_X11_finish F x0_8 x0_9 x0_10 x0_11 x0_12 x0_13 x0_14 x0_15 x0_19 x0_20 x0_27 x0_28 a1 a2 a3 a4 a5 a6 a7 a8 a9 a10 a11 a12 b1 = some (e_x0_9, e_x0_10, e_x0_11, e_x0_12, e_x0_13, e_x0_14, e_x0_15, e_x0_19, e_x0_20, e_x0_27, e_x0_28, e_a1, e_a2, e_a3, e_a4, e_a7, e_a8, e_a9, e_a10, e_a11, e_a12) := hf
  have kL64 : ∀ (c64_1 : Int32) (n64 : Nat) (u64_2 : Int32) (x0_9_64 : Int32) (x0_10_64 : Int32) (x0_11_64 : Int32) (x0_12_64 : Int32) (x0_13_64 : Int32) (x0_14_64 : Int32) (x0_15_64 : Int32) (x0_19_64 : Int32) (x0_20_64 : Int32) (x0_27_64 : Int32) (x0_28_64 : Int32) (a1_64 : Nat → Int32) (a2_64 : Nat → Int32) (a3_64 : Nat → Int32) (a4_64 : Nat → Int32) (a7_64 : Nat → Int32) (a8_64 : Nat → Int32) (a9_64 : Nat → Int32) (a10_64 : Nat → Int32) (a11_64 : Nat → Int32) (a12_64 : Nat → Int32), p_X11_finish_L64 F x0_8 a5 a6 c64_1 n64 u64_2 x0_9_64 x0_10_64 x0_11_64 x0_12_64 x0_13_64 x0_14_64 x0_15_64 x0_19_64 x0_20_64 x0_27_64 x0_28_64 a1_64 a2_64 a3_64 a4_64 a7_64 a8_64 a9_64 a10_64 a11_64 a12_64 = some (e_x0_9, e_x0_10, e_x0_11, e_x0_12, e_x0_13, e_x0_14, e_x0_15, e_x0_19, e_x0_20, e_x0_27, e_x0_28, e_a1, e_a2, e_a3, e_a4, e_a7, e_a8, e_a9, e_a10, e_a11, e_a12) → ∀ (H : Heap) (locs : List Loc), va_P G.1 vwCl (wW_X11_finish G h0 h1 h2 h3 h4 h5 h6 h7 h8 h9 h10 h11 h12 y0_0 y0_33 y0_34 y0_38 y0_39 y0_40 y0_41 y0_42 y0_43 y0_45 y0_46 y0_47 y0_48 x0_5 x0_7 x0_8 x0_9_64 x0_10_64 x0_11_64 x0_12_64 x0_13_64 x0_14_64 x0_15_64 x0_16 x0_17 x0_19_64 x0_20_64 x0_27_64 x0_28_64 x0_29 x0_30 x0_31 x0_32 x0_35 x0_36 x0_37 x0_44 x0_49 x0_50 a1_64 a2_64 a3_64 a4_64 a5 a6 a7_64 a8_64 a9_64 a10_64 a11_64 a12_64) H → va_D A (wW_X11_finish G h0 h1 h2 h3 h4 h5 h6 h7 h8 h9 h10 h11 h12 y0_0 y0_33 y0_34 y0_38 y0_39 y0_40 y0_41 y0_42 y0_43 y0_45 y0_46 y0_47 y0_48 x0_5 x0_7 x0_8 x0_9_64 x0_10_64 x0_11_64 x0_12_64 x0_13_64 x0_14_64 x0_15_64 x0_16 x0_17 x0_19_64 x0_20_64 x0_27_64 x0_28_64 x0_29 x0_30 x0_31 x0_32 x0_35 x0_36 x0_37 x0_44 x0_49 x0_50 a1_64 a2_64 a3_64 a4_64 a5 a6 a7_64 a8_64 a9_64 a10_64 a11_64 a12_64) → va_S A s.heap H locs → ∀ ls : Array Slot, lv_has ls 3 [(0, .ref h0), (1, .int c64_1), (2, .int u64_2)] → W p l e ({ frames := 6, cells := 0, slots := 0, locals := 139 } : Room) s m (List.toArray [.ref h0, .int b1]) below meth c H locs 0 0 (MQ below (QvS G A (wW_X11_finish G h0 h1 h2 h3 h4 h5 h6 h7 h8 h9 h10 h11 h12 y0_0 y0_33 y0_34 y0_38 y0_39 y0_40 y0_41 y0_42 y0_43 y0_45 y0_46 y0_47 y0_48 x0_5 x0_7 x0_8 e_x0_9 e_x0_10 e_x0_11 e_x0_12 e_x0_13 e_x0_14 e_x0_15 x0_16 x0_17 e_x0_19 e_x0_20 e_x0_27 e_x0_28 x0_29 x0_30 x0_31 x0_32 x0_35 x0_36 x0_37 x0_44 x0_49 x0_50 e_a1 e_a2 e_a3 e_a4 a5 a6 e_a7 e_a8 e_a9 e_a10 e_a11 e_a12)) (List.toArray [.ref h0, .int b1]) s 0 0 A) (F0 m 64 ls []) := by
    intro c64_1 n64
    induction n64 with
    | zero =>
      intro u64_2 x0_9_64 x0_10_64 x0_11_64 x0_12_64 x0_13_64 x0_14_64 x0_15_64 x0_19_64 x0_20_64 x0_27_64 x0_28_64 a1_64 a2_64 a3_64 a4_64 a7_64 a8_64 a9_64 a10_64 a11_64 a12_64 hf
      cases hf
    | succ n64 ih64 =>
      intro u64_2 x0_9_64 x0_10_64 x0_11_64 x0_12_64 x0_13_64 x0_14_64 x0_15_64 x0_19_64 x0_20_64 x0_27_64 x0_28_64 a1_64 a2_64 a3_64 a4_64 a7_64 a8_64 a9_64 a10_64 a11_64 a12_64 hf H locs hP hD hS ls hl
      have hf : p_X11_finish_L64b F x0_8 a5 a6 c64_1 (p_X11_finish_L64 F x0_8 a5 a6 c64_1 n64) u64_2 x0_9_64 x0_10_64 x0_11_64 x0_12_64 x0_13_64 x0_14_64 x0_15_64 x0_19_64 x0_20_64 x0_27_64 x0_28_64 a1_64 a2_64 a3_64 a4_64 a7_64 a8_64 a9_64 a10_64 a11_64 a12_64 = some (e_x0_9, e_x0_10, e_x0_11, e_x0_12, e_x0_13, e_x0_14, e_x0_15, e_x0_19, e_x0_20, e_x0_27, e_x0_28, e_a1, e_a2, e_a3, e_a4, e_a7, e_a8, e_a9, e_a10, e_a11, e_a12) := hf
      refine lv_iload_n hx hb dX11_finish_64 rfl (lv_at hl 2 rfl) ?_
      refine lv_bipush (v := (16 : Int32)) hx hb dX11_finish_65 (by decide) ?_
      refine lv_icmp_ge (tgt := 104) hx hb dX11_finish_67 (by decide) (fun c1 => ?_) (fun c1 => ?_)
      · have hf := of_pos hf c1
        cases hf
        exact ret_v hx hb hr hlk hK hP hD hS dX11_finish_104
      · have hf := of_neg hf c1
        refine lv_aload_n hx hb dX11_finish_70 rfl (lv_at hl 0 rfl) ?_
        refine va_get (ci := 11) (v := .ref h4) (C := RX11) (T := TX11) (N := 51) hx hb ht0 iX11 hown hK hP 0 rfl rfl 4 (by decide) (ht0 _ wd_1410) (fun _ h9 => h9) rfl dX11_finish_71 ?_
        refine lv_bipush (v := (121 : Int32)) hx hb dX11_finish_74 (by decide) ?_
        refine lv_iload_n hx hb dX11_finish_76 rfl (lv_at hl 1 rfl) ?_
        refine lv_imul hx hb dX11_finish_77 ?_
        refine lv_bipush (v := (33 : Int32)) hx hb dX11_finish_78 (by decide) ?_
        refine lv_iadd hx hb dX11_finish_80 ?_
        refine lv_iload_n hx hb dX11_finish_81 rfl (lv_at hl 2 rfl) ?_
        refine lv_iadd hx hb dX11_finish_82 ?_
        refine lv_aload_n hx hb dX11_finish_83 rfl (lv_at hl 0 rfl) ?_
        refine va_get (ci := 11) (v := .ref h4) (C := RX11) (T := TX11) (N := 51) hx hb ht0 iX11 hown hK hP 0 rfl rfl 4 (by decide) (ht0 _ wd_1410) (fun _ h9 => h9) rfl dX11_finish_84 ?_
        refine lv_bipush (v := (121 : Int32)) hx hb dX11_finish_87 (by decide) ?_
        refine lv_iload_n hx hb dX11_finish_89 rfl (lv_at hl 1 rfl) ?_
        refine lv_imul hx hb dX11_finish_90 ?_
        refine lv_bipush (v := (65 : Int32)) hx hb dX11_finish_91 (by decide) ?_
        refine lv_iadd hx hb dX11_finish_93 ?_
        refine lv_iload_n hx hb dX11_finish_94 rfl (lv_at hl 2 rfl) ?_
        refine lv_iadd hx hb dX11_finish_95 ?_
        obtain ⟨g2, hf⟩ := of_grd hf
        refine va_iald hx hb hK hP 4 0 rfl rfl g2 dX11_finish_96 ?_
        obtain ⟨g3, hf⟩ := of_grd hf
        refine va_iast hx hb hK hP hD hS 4 0 rfl rfl g3 dX11_finish_97 (fun H locs hP hD hS => ?_)
        have hP : va_P G.1 vwCl (wW_X11_finish G h0 h1 h2 h3 h4 h5 h6 h7 h8 h9 h10 h11 h12 y0_0 y0_33 y0_34 y0_38 y0_39 y0_40 y0_41 y0_42 y0_43 y0_45 y0_46 y0_47 y0_48 x0_5 x0_7 x0_8 x0_9_64 x0_10_64 x0_11_64 x0_12_64 x0_13_64 x0_14_64 x0_15_64 x0_16 x0_17 x0_19_64 x0_20_64 x0_27_64 x0_28_64 x0_29 x0_30 x0_31 x0_32 x0_35 x0_36 x0_37 x0_44 x0_49 x0_50 a1_64 a2_64 a3_64 (upd a4_64 ((((121 : Int32) * c64_1) + (33 : Int32)) + u64_2).toNatClampNeg (a4_64 ((((121 : Int32) * c64_1) + (65 : Int32)) + u64_2).toNatClampNeg)) a5 a6 a7_64 a8_64 a9_64 a10_64 a11_64 a12_64) H := hP
        have hD : va_D A (wW_X11_finish G h0 h1 h2 h3 h4 h5 h6 h7 h8 h9 h10 h11 h12 y0_0 y0_33 y0_34 y0_38 y0_39 y0_40 y0_41 y0_42 y0_43 y0_45 y0_46 y0_47 y0_48 x0_5 x0_7 x0_8 x0_9_64 x0_10_64 x0_11_64 x0_12_64 x0_13_64 x0_14_64 x0_15_64 x0_16 x0_17 x0_19_64 x0_20_64 x0_27_64 x0_28_64 x0_29 x0_30 x0_31 x0_32 x0_35 x0_36 x0_37 x0_44 x0_49 x0_50 a1_64 a2_64 a3_64 (upd a4_64 ((((121 : Int32) * c64_1) + (33 : Int32)) + u64_2).toNatClampNeg (a4_64 ((((121 : Int32) * c64_1) + (65 : Int32)) + u64_2).toNatClampNeg)) a5 a6 a7_64 a8_64 a9_64 a10_64 a11_64 a12_64) := hD
        refine lv_iinc (v := u64_2 + (1 : Int32)) (lv' := [(2, .int (u64_2 + (1 : Int32))), (0, .ref h0), (1, .int c64_1)]) hx hb dX11_finish_98 hl (k := 2) rfl (by rfl) (by decide) rfl (fun ls hl => ?_)
        refine lv_goto (tgt := 64) hx hb dX11_finish_101 (by decide) ?_
        exact ih64 _ _ _ _ _ _ _ _ _ _ _ _ _ _ _ _ _ _ _ _ _ _ hf _ _ hP hD hS _ (lv_sub hl [1, 2, 0] rfl)
  have kJ62 : ∀ (u62_1 : Int32) (x0_9_62 : Int32) (x0_10_62 : Int32) (x0_11_62 : Int32) (x0_12_62 : Int32) (x0_13_62 : Int32) (x0_14_62 : Int32) (x0_15_62 : Int32) (x0_19_62 : Int32) (x0_20_62 : Int32) (x0_27_62 : Int32) (x0_28_62 : Int32) (a1_62 : Nat → Int32) (a2_62 : Nat → Int32) (a3_62 : Nat → Int32) (a4_62 : Nat → Int32) (a7_62 : Nat → Int32) (a8_62 : Nat → Int32) (a9_62 : Nat → Int32) (a10_62 : Nat → Int32) (a11_62 : Nat → Int32) (a12_62 : Nat → Int32), p_X11_finish_J62 F x0_8 a5 a6 u62_1 x0_9_62 x0_10_62 x0_11_62 x0_12_62 x0_13_62 x0_14_62 x0_15_62 x0_19_62 x0_20_62 x0_27_62 x0_28_62 a1_62 a2_62 a3_62 a4_62 a7_62 a8_62 a9_62 a10_62 a11_62 a12_62 = some (e_x0_9, e_x0_10, e_x0_11, e_x0_12, e_x0_13, e_x0_14, e_x0_15, e_x0_19, e_x0_20, e_x0_27, e_x0_28, e_a1, e_a2, e_a3, e_a4, e_a7, e_a8, e_a9, e_a10, e_a11, e_a12) → ∀ (H : Heap) (locs : List Loc), va_P G.1 vwCl (wW_X11_finish G h0 h1 h2 h3 h4 h5 h6 h7 h8 h9 h10 h11 h12 y0_0 y0_33 y0_34 y0_38 y0_39 y0_40 y0_41 y0_42 y0_43 y0_45 y0_46 y0_47 y0_48 x0_5 x0_7 x0_8 x0_9_62 x0_10_62 x0_11_62 x0_12_62 x0_13_62 x0_14_62 x0_15_62 x0_16 x0_17 x0_19_62 x0_20_62 x0_27_62 x0_28_62 x0_29 x0_30 x0_31 x0_32 x0_35 x0_36 x0_37 x0_44 x0_49 x0_50 a1_62 a2_62 a3_62 a4_62 a5 a6 a7_62 a8_62 a9_62 a10_62 a11_62 a12_62) H → va_D A (wW_X11_finish G h0 h1 h2 h3 h4 h5 h6 h7 h8 h9 h10 h11 h12 y0_0 y0_33 y0_34 y0_38 y0_39 y0_40 y0_41 y0_42 y0_43 y0_45 y0_46 y0_47 y0_48 x0_5 x0_7 x0_8 x0_9_62 x0_10_62 x0_11_62 x0_12_62 x0_13_62 x0_14_62 x0_15_62 x0_16 x0_17 x0_19_62 x0_20_62 x0_27_62 x0_28_62 x0_29 x0_30 x0_31 x0_32 x0_35 x0_36 x0_37 x0_44 x0_49 x0_50 a1_62 a2_62 a3_62 a4_62 a5 a6 a7_62 a8_62 a9_62 a10_62 a11_62 a12_62) → va_S A s.heap H locs → ∀ ls : Array Slot, lv_has ls 3 [(0, .ref h0), (1, .int u62_1)] → W p l e ({ frames := 6, cells := 0, slots := 0, locals := 139 } : Room) s m (List.toArray [.ref h0, .int b1]) below meth c H locs 0 0 (MQ below (QvS G A (wW_X11_finish G h0 h1 h2 h3 h4 h5 h6 h7 h8 h9 h10 h11 h12 y0_0 y0_33 y0_34 y0_38 y0_39 y0_40 y0_41 y0_42 y0_43 y0_45 y0_46 y0_47 y0_48 x0_5 x0_7 x0_8 e_x0_9 e_x0_10 e_x0_11 e_x0_12 e_x0_13 e_x0_14 e_x0_15 x0_16 x0_17 e_x0_19 e_x0_20 e_x0_27 e_x0_28 x0_29 x0_30 x0_31 x0_32 x0_35 x0_36 x0_37 x0_44 x0_49 x0_50 e_a1 e_a2 e_a3 e_a4 a5 a6 e_a7 e_a8 e_a9 e_a10 e_a11 e_a12)) (List.toArray [.ref h0, .int b1]) s 0 0 A) (F0 m 62 ls []) := by
    intro u62_1 x0_9_62 x0_10_62 x0_11_62 x0_12_62 x0_13_62 x0_14_62 x0_15_62 x0_19_62 x0_20_62 x0_27_62 x0_28_62 a1_62 a2_62 a3_62 a4_62 a7_62 a8_62 a9_62 a10_62 a11_62 a12_62 hf H locs hP hD hS ls hl
    refine lv_iconst (v := (0 : Int32)) hx hb dX11_finish_62 (by decide) ?_
    refine lv_istore_n (lv' := [(2, .int (0 : Int32)), (0, .ref h0), (1, .int u62_1)]) hx hb dX11_finish_63 rfl hl (by decide) rfl (fun ls hl => ?_)
    exact kL64 _ _ _ _ _ _ _ _ _ _ _ _ _ _ _ _ _ _ _ _ _ _ _ _ hf _ _ hP hD hS _ (lv_sub hl [1, 2, 0] rfl)
  have kJ50 : ∀ (u50_1 : Int32) (x0_9_50 : Int32) (x0_10_50 : Int32) (x0_11_50 : Int32) (x0_12_50 : Int32) (x0_13_50 : Int32) (x0_14_50 : Int32) (x0_15_50 : Int32) (x0_19_50 : Int32) (x0_20_50 : Int32) (x0_27_50 : Int32) (x0_28_50 : Int32) (a1_50 : Nat → Int32) (a2_50 : Nat → Int32) (a3_50 : Nat → Int32) (a4_50 : Nat → Int32) (a7_50 : Nat → Int32) (a8_50 : Nat → Int32) (a9_50 : Nat → Int32) (a10_50 : Nat → Int32) (a11_50 : Nat → Int32) (a12_50 : Nat → Int32), p_X11_finish_J50 F x0_8 a5 a6 u50_1 x0_9_50 x0_10_50 x0_11_50 x0_12_50 x0_13_50 x0_14_50 x0_15_50 x0_19_50 x0_20_50 x0_27_50 x0_28_50 a1_50 a2_50 a3_50 a4_50 a7_50 a8_50 a9_50 a10_50 a11_50 a12_50 = some (e_x0_9, e_x0_10, e_x0_11, e_x0_12, e_x0_13, e_x0_14, e_x0_15, e_x0_19, e_x0_20, e_x0_27, e_x0_28, e_a1, e_a2, e_a3, e_a4, e_a7, e_a8, e_a9, e_a10, e_a11, e_a12) → ∀ (H : Heap) (locs : List Loc), va_P G.1 vwCl (wW_X11_finish G h0 h1 h2 h3 h4 h5 h6 h7 h8 h9 h10 h11 h12 y0_0 y0_33 y0_34 y0_38 y0_39 y0_40 y0_41 y0_42 y0_43 y0_45 y0_46 y0_47 y0_48 x0_5 x0_7 x0_8 x0_9_50 x0_10_50 x0_11_50 x0_12_50 x0_13_50 x0_14_50 x0_15_50 x0_16 x0_17 x0_19_50 x0_20_50 x0_27_50 x0_28_50 x0_29 x0_30 x0_31 x0_32 x0_35 x0_36 x0_37 x0_44 x0_49 x0_50 a1_50 a2_50 a3_50 a4_50 a5 a6 a7_50 a8_50 a9_50 a10_50 a11_50 a12_50) H → va_D A (wW_X11_finish G h0 h1 h2 h3 h4 h5 h6 h7 h8 h9 h10 h11 h12 y0_0 y0_33 y0_34 y0_38 y0_39 y0_40 y0_41 y0_42 y0_43 y0_45 y0_46 y0_47 y0_48 x0_5 x0_7 x0_8 x0_9_50 x0_10_50 x0_11_50 x0_12_50 x0_13_50 x0_14_50 x0_15_50 x0_16 x0_17 x0_19_50 x0_20_50 x0_27_50 x0_28_50 x0_29 x0_30 x0_31 x0_32 x0_35 x0_36 x0_37 x0_44 x0_49 x0_50 a1_50 a2_50 a3_50 a4_50 a5 a6 a7_50 a8_50 a9_50 a10_50 a11_50 a12_50) → va_S A s.heap H locs → ∀ ls : Array Slot, lv_has ls 3 [(0, .ref h0), (1, .int u50_1)] → W p l e ({ frames := 6, cells := 0, slots := 0, locals := 139 } : Room) s m (List.toArray [.ref h0, .int b1]) below meth c H locs 0 0 (MQ below (QvS G A (wW_X11_finish G h0 h1 h2 h3 h4 h5 h6 h7 h8 h9 h10 h11 h12 y0_0 y0_33 y0_34 y0_38 y0_39 y0_40 y0_41 y0_42 y0_43 y0_45 y0_46 y0_47 y0_48 x0_5 x0_7 x0_8 e_x0_9 e_x0_10 e_x0_11 e_x0_12 e_x0_13 e_x0_14 e_x0_15 x0_16 x0_17 e_x0_19 e_x0_20 e_x0_27 e_x0_28 x0_29 x0_30 x0_31 x0_32 x0_35 x0_36 x0_37 x0_44 x0_49 x0_50 e_a1 e_a2 e_a3 e_a4 a5 a6 e_a7 e_a8 e_a9 e_a10 e_a11 e_a12)) (List.toArray [.ref h0, .int b1]) s 0 0 A) (F0 m 50 ls []) := by
    intro u50_1 x0_9_50 x0_10_50 x0_11_50 x0_12_50 x0_13_50 x0_14_50 x0_15_50 x0_19_50 x0_20_50 x0_27_50 x0_28_50 a1_50 a2_50 a3_50 a4_50 a7_50 a8_50 a9_50 a10_50 a11_50 a12_50 hf H locs hP hD hS ls hl
    refine lv_aload_n hx hb dX11_finish_50 rfl (lv_at hl 0 rfl) ?_
    refine va_get (ci := 11) (v := .int x0_14_50) (C := RX11) (T := TX11) (N := 51) hx hb ht0 iX11 hown hK hP 0 rfl rfl 14 (by decide) (ht0 _ wd_1420) (fun _ h9 => h9) rfl dX11_finish_51 ?_
    refine lv_if_ne (tgt := 62) hx hb dX11_finish_54 (by decide) (fun c4 => ?_) (fun c4 => ?_)
    · have hf := of_neg hf c4
      exact kJ62 _ _ _ _ _ _ _ _ _ _ _ _ _ _ _ _ _ _ _ _ _ _ hf _ _ hP hD hS _ (lv_sub hl [0, 1] rfl)
    · have hf := of_pos hf c4
      refine lv_aload_n hx hb dX11_finish_57 rfl (lv_at hl 0 rfl) ?_
      refine lv_iload_n hx hb dX11_finish_58 rfl (lv_at hl 1 rfl) ?_
      obtain ⟨⟨r_59_4_x0_14, r_59_4_x0_15, r_59_4_x0_20, r_59_4_x0_27, r_59_4_x0_28, r_59_4_a4, r_59_4_a5, r_59_4_a6, r_59_4_a7, r_59_4_a8, r_59_4_a9, r_59_4_a10⟩, hc_r_59_4, hf⟩ := of_bnd hf
      refine cl_Vv (w2 := (wW_X11_finish G h0 h1 h2 h3 h4 h5 h6 h7 h8 h9 h10 h11 h12 y0_0 y0_33 y0_34 y0_38 y0_39 y0_40 y0_41 y0_42 y0_43 y0_45 y0_46 y0_47 y0_48 x0_5 x0_7 x0_8 x0_9_50 x0_10_50 x0_11_50 x0_12_50 x0_13_50 r_59_4_x0_14 r_59_4_x0_15 x0_16 x0_17 x0_19_50 r_59_4_x0_20 r_59_4_x0_27 r_59_4_x0_28 x0_29 x0_30 x0_31 x0_32 x0_35 x0_36 x0_37 x0_44 x0_49 x0_50 a1_50 a2_50 a3_50 r_59_4_a4 a5 a6 r_59_4_a5 r_59_4_a6 r_59_4_a7 r_59_4_a8 r_59_4_a9 r_59_4_a10)) (As := [.int u50_1]) (rest := []) ⟨hx, hb, hml, hown, ht0⟩ (c_X11_chooses l G h0 h1 h2 h3 h4 h7 h8 h9 h10 h11 h12 y0_0 h5 h6 y0_33 y0_34 y0_38 y0_39 y0_40 y0_41 y0_42 y0_43 y0_45 y0_46 y0_47 y0_48 _ x0_5 x0_7 x0_8 x0_9_50 x0_10_50 x0_11_50 x0_12_50 x0_13_50 x0_14_50 x0_15_50 x0_16 x0_17 x0_19_50 x0_20_50 x0_27_50 x0_28_50 x0_29 x0_30 x0_31 x0_32 x0_35 x0_36 x0_37 x0_44 x0_49 x0_50 a1_50 a2_50 a3_50 a4_50 a7_50 a8_50 a9_50 a10_50 a11_50 a12_50 F u50_1 _ _ _ _ _ _ _ _ _ _ _ _ hc_r_59_4) yk_X11_chooses wd_1332 ⟨rfl, rfl, by decide, by decide⟩ ⟨Nat.le_refl _, Nat.le_refl _⟩ hX hK hP hD hS hA [0, 1, 2, 3, 4, 7, 8, 9, 10, 11, 12] [5, 6] [2, 3, 4, 5, 6, 0, 1, 7, 8, 9, 10, 11, 12] (va_recv hK hP (ci := 11) (q0 := 0) rfl rfl) rfl rfl (by decide) rfl rfl rfl rfl rfl hl.1 rfl (Nat.le_of_ble_eq_true rfl) dX11_finish_59 (fun H locs hP hD hS => ?_)
      exact kJ62 _ _ _ _ _ _ _ _ _ _ _ _ _ _ _ _ _ _ _ _ _ _ hf _ _ hP hD hS _ (lv_sub hl [0, 1] rfl)
  have kL9 : ∀ (c9_1 : Int32) (n9 : Nat) (x0_9_9 : Int32) (x0_10_9 : Int32) (x0_11_9 : Int32) (x0_12_9 : Int32) (x0_13_9 : Int32) (x0_14_9 : Int32) (x0_15_9 : Int32) (x0_19_9 : Int32) (x0_20_9 : Int32) (x0_27_9 : Int32) (x0_28_9 : Int32) (a1_9 : Nat → Int32) (a2_9 : Nat → Int32) (a3_9 : Nat → Int32) (a4_9 : Nat → Int32) (a7_9 : Nat → Int32) (a8_9 : Nat → Int32) (a9_9 : Nat → Int32) (a10_9 : Nat → Int32) (a11_9 : Nat → Int32) (a12_9 : Nat → Int32), p_X11_finish_L9 F x0_8 a5 a6 c9_1 n9 x0_9_9 x0_10_9 x0_11_9 x0_12_9 x0_13_9 x0_14_9 x0_15_9 x0_19_9 x0_20_9 x0_27_9 x0_28_9 a1_9 a2_9 a3_9 a4_9 a7_9 a8_9 a9_9 a10_9 a11_9 a12_9 = some (e_x0_9, e_x0_10, e_x0_11, e_x0_12, e_x0_13, e_x0_14, e_x0_15, e_x0_19, e_x0_20, e_x0_27, e_x0_28, e_a1, e_a2, e_a3, e_a4, e_a7, e_a8, e_a9, e_a10, e_a11, e_a12) → ∀ (H : Heap) (locs : List Loc), va_P G.1 vwCl (wW_X11_finish G h0 h1 h2 h3 h4 h5 h6 h7 h8 h9 h10 h11 h12 y0_0 y0_33 y0_34 y0_38 y0_39 y0_40 y0_41 y0_42 y0_43 y0_45 y0_46 y0_47 y0_48 x0_5 x0_7 x0_8 x0_9_9 x0_10_9 x0_11_9 x0_12_9 x0_13_9 x0_14_9 x0_15_9 x0_16 x0_17 x0_19_9 x0_20_9 x0_27_9 x0_28_9 x0_29 x0_30 x0_31 x0_32 x0_35 x0_36 x0_37 x0_44 x0_49 x0_50 a1_9 a2_9 a3_9 a4_9 a5 a6 a7_9 a8_9 a9_9 a10_9 a11_9 a12_9) H → va_D A (wW_X11_finish G h0 h1 h2 h3 h4 h5 h6 h7 h8 h9 h10 h11 h12 y0_0 y0_33 y0_34 y0_38 y0_39 y0_40 y0_41 y0_42 y0_43 y0_45 y0_46 y0_47 y0_48 x0_5 x0_7 x0_8 x0_9_9 x0_10_9 x0_11_9 x0_12_9 x0_13_9 x0_14_9 x0_15_9 x0_16 x0_17 x0_19_9 x0_20_9 x0_27_9 x0_28_9 x0_29 x0_30 x0_31 x0_32 x0_35 x0_36 x0_37 x0_44 x0_49 x0_50 a1_9 a2_9 a3_9 a4_9 a5 a6 a7_9 a8_9 a9_9 a10_9 a11_9 a12_9) → va_S A s.heap H locs → ∀ ls : Array Slot, lv_has ls 3 [(0, .ref h0), (1, .int c9_1)] → W p l e ({ frames := 6, cells := 0, slots := 0, locals := 139 } : Room) s m (List.toArray [.ref h0, .int b1]) below meth c H locs 0 0 (MQ below (QvS G A (wW_X11_finish G h0 h1 h2 h3 h4 h5 h6 h7 h8 h9 h10 h11 h12 y0_0 y0_33 y0_34 y0_38 y0_39 y0_40 y0_41 y0_42 y0_43 y0_45 y0_46 y0_47 y0_48 x0_5 x0_7 x0_8 e_x0_9 e_x0_10 e_x0_11 e_x0_12 e_x0_13 e_x0_14 e_x0_15 x0_16 x0_17 e_x0_19 e_x0_20 e_x0_27 e_x0_28 x0_29 x0_30 x0_31 x0_32 x0_35 x0_36 x0_37 x0_44 x0_49 x0_50 e_a1 e_a2 e_a3 e_a4 a5 a6 e_a7 e_a8 e_a9 e_a10 e_a11 e_a12)) (List.toArray [.ref h0, .int b1]) s 0 0 A) (F0 m 9 ls []) := by
    intro c9_1 n9
    induction n9 with
    | zero =>
      intro x0_9_9 x0_10_9 x0_11_9 x0_12_9 x0_13_9 x0_14_9 x0_15_9 x0_19_9 x0_20_9 x0_27_9 x0_28_9 a1_9 a2_9 a3_9 a4_9 a7_9 a8_9 a9_9 a10_9 a11_9 a12_9 hf
      cases hf
    | succ n9 ih9 =>
      intro x0_9_9 x0_10_9 x0_11_9 x0_12_9 x0_13_9 x0_14_9 x0_15_9 x0_19_9 x0_20_9 x0_27_9 x0_28_9 a1_9 a2_9 a3_9 a4_9 a7_9 a8_9 a9_9 a10_9 a11_9 a12_9 hf H locs hP hD hS ls hl
      have hf : p_X11_finish_L9b F x0_8 a5 a6 c9_1 (p_X11_finish_L9 F x0_8 a5 a6 c9_1 n9) x0_9_9 x0_10_9 x0_11_9 x0_12_9 x0_13_9 x0_14_9 x0_15_9 x0_19_9 x0_20_9 x0_27_9 x0_28_9 a1_9 a2_9 a3_9 a4_9 a7_9 a8_9 a9_9 a10_9 a11_9 a12_9 = some (e_x0_9, e_x0_10, e_x0_11, e_x0_12, e_x0_13, e_x0_14, e_x0_15, e_x0_19, e_x0_20, e_x0_27, e_x0_28, e_a1, e_a2, e_a3, e_a4, e_a7, e_a8, e_a9, e_a10, e_a11, e_a12) := hf
      refine lv_aload_n hx hb dX11_finish_9 rfl (lv_at hl 0 rfl) ?_
      refine va_get (ci := 11) (v := .int x0_14_9) (C := RX11) (T := TX11) (N := 51) hx hb ht0 iX11 hown hK hP 0 rfl rfl 14 (by decide) (ht0 _ wd_1420) (fun _ h9 => h9) rfl dX11_finish_10 ?_
      refine lv_if_ne (tgt := 50) hx hb dX11_finish_13 (by decide) (fun c6 => ?_) (fun c6 => ?_)
      · have hf := of_neg hf c6
        exact kJ50 _ _ _ _ _ _ _ _ _ _ _ _ _ _ _ _ _ _ _ _ _ _ hf _ _ hP hD hS _ (lv_sub hl [0, 1] rfl)
      · have hf := of_pos hf c6
        refine lv_aload_n hx hb dX11_finish_16 rfl (lv_at hl 0 rfl) ?_
        refine va_get (ci := 11) (v := .int x0_11_9) (C := RX11) (T := TX11) (N := 51) hx hb ht0 iX11 hown hK hP 0 rfl rfl 11 (by decide) (ht0 _ wd_1417) (fun _ h9 => h9) rfl dX11_finish_17 ?_
        refine lv_if_eq (tgt := 50) hx hb dX11_finish_20 (by decide) (fun c7 => ?_) (fun c7 => ?_)
        · have hf := of_pos hf c7
          exact kJ50 _ _ _ _ _ _ _ _ _ _ _ _ _ _ _ _ _ _ _ _ _ _ hf _ _ hP hD hS _ (lv_sub hl [0, 1] rfl)
        · have hf := of_neg hf c7
          refine lv_aload_n hx hb dX11_finish_23 rfl (lv_at hl 0 rfl) ?_
          refine lv_iload_n hx hb dX11_finish_24 rfl (lv_at hl 1 rfl) ?_
          obtain ⟨⟨r_25_7_x0_9, r_25_7_x0_10, r_25_7_x0_11, r_25_7_x0_12, r_25_7_x0_13, r_25_7_x0_14, r_25_7_x0_15, r_25_7_x0_19, r_25_7_x0_20, r_25_7_x0_27, r_25_7_x0_28, r_25_7_a1, r_25_7_a2, r_25_7_a3, r_25_7_a4, r_25_7_a7, r_25_7_a8, r_25_7_a9, r_25_7_a10, r_25_7_a11, r_25_7_a12⟩, hc_r_25_7, hf⟩ := of_bnd hf
          refine cl_Vv (w2 := (wW_X11_finish G h0 h1 h2 h3 h4 h5 h6 h7 h8 h9 h10 h11 h12 y0_0 y0_33 y0_34 y0_38 y0_39 y0_40 y0_41 y0_42 y0_43 y0_45 y0_46 y0_47 y0_48 x0_5 x0_7 x0_8 r_25_7_x0_9 r_25_7_x0_10 r_25_7_x0_11 r_25_7_x0_12 r_25_7_x0_13 r_25_7_x0_14 r_25_7_x0_15 x0_16 x0_17 r_25_7_x0_19 r_25_7_x0_20 r_25_7_x0_27 r_25_7_x0_28 x0_29 x0_30 x0_31 x0_32 x0_35 x0_36 x0_37 x0_44 x0_49 x0_50 r_25_7_a1 r_25_7_a2 r_25_7_a3 r_25_7_a4 a5 a6 r_25_7_a7 r_25_7_a8 r_25_7_a9 r_25_7_a10 r_25_7_a11 r_25_7_a12)) (As := [.int c9_1]) (rest := []) ⟨hx, hb, hml, hown, ht0⟩ (c_X11_readLine l G h0 h1 h2 h3 h4 h5 h6 h7 h8 h9 h10 h11 h12 y0_0 y0_33 y0_34 y0_38 y0_39 y0_40 y0_41 y0_42 y0_43 y0_45 y0_46 y0_47 y0_48 _ x0_5 x0_7 x0_8 x0_9_9 x0_10_9 x0_11_9 x0_12_9 x0_13_9 x0_14_9 x0_15_9 x0_16 x0_17 x0_19_9 x0_20_9 x0_27_9 x0_28_9 x0_29 x0_30 x0_31 x0_32 x0_35 x0_36 x0_37 x0_44 x0_49 x0_50 a1_9 a2_9 a3_9 a4_9 a5 a6 a7_9 a8_9 a9_9 a10_9 a11_9 a12_9 F c9_1 _ _ _ _ _ _ _ _ _ _ _ _ _ _ _ _ _ _ _ _ _ hc_r_25_7) yk_X11_readLine wd_1301 ⟨rfl, rfl, by decide, by decide⟩ ⟨Nat.le_refl _, Nat.le_refl _⟩ hX hK hP hD hS hA [0, 1, 2, 3, 4, 5, 6, 7, 8, 9, 10, 11, 12] [] [0, 1, 2, 3, 4, 5, 6, 7, 8, 9, 10, 11, 12] (va_recv hK hP (ci := 11) (q0 := 0) rfl rfl) rfl rfl (by decide) rfl rfl rfl rfl rfl hl.1 rfl (Nat.le_of_ble_eq_true rfl) dX11_finish_25 (fun H locs hP hD hS => ?_)
          refine lv_aload_n hx hb dX11_finish_28 rfl (lv_at hl 0 rfl) ?_
          obtain ⟨r_29_8, hc_r_29_8, hf⟩ := of_bnd hf
          refine cl_Vi (w2 := (wW_X11_finish G h0 h1 h2 h3 h4 h5 h6 h7 h8 h9 h10 h11 h12 y0_0 y0_33 y0_34 y0_38 y0_39 y0_40 y0_41 y0_42 y0_43 y0_45 y0_46 y0_47 y0_48 x0_5 x0_7 x0_8 r_25_7_x0_9 r_25_7_x0_10 r_25_7_x0_11 r_25_7_x0_12 r_25_7_x0_13 r_25_7_x0_14 r_25_7_x0_15 x0_16 x0_17 r_25_7_x0_19 r_25_7_x0_20 r_25_7_x0_27 r_25_7_x0_28 x0_29 x0_30 x0_31 x0_32 x0_35 x0_36 x0_37 x0_44 x0_49 x0_50 r_25_7_a1 r_25_7_a2 r_25_7_a3 r_25_7_a4 a5 a6 r_25_7_a7 r_25_7_a8 r_25_7_a9 r_25_7_a10 r_25_7_a11 r_25_7_a12)) (As := []) (rest := []) ⟨hx, hb, hml, hown, ht0⟩ (c_X11_isStop l G h0 y0_0 h1 h2 h3 h4 h5 h6 h7 h8 h9 h10 h11 h12 y0_33 y0_34 y0_38 y0_39 y0_40 y0_41 y0_42 y0_43 y0_45 y0_46 y0_47 y0_48 _ x0_5 x0_7 x0_8 r_25_7_x0_9 r_25_7_x0_10 r_25_7_x0_11 r_25_7_x0_12 r_25_7_x0_13 r_25_7_x0_14 r_25_7_x0_15 x0_16 x0_17 r_25_7_x0_19 r_25_7_x0_20 r_25_7_x0_27 r_25_7_x0_28 x0_29 x0_30 x0_31 x0_32 x0_35 x0_36 x0_37 x0_44 x0_49 x0_50 F _ hc_r_29_8) yk_X11_isStop wd_1386 ⟨rfl, rfl, by decide, by decide⟩ ⟨Nat.le_refl _, Nat.le_refl _⟩ hX hK hP hD hS hA [0] [1, 2, 3, 4, 5, 6, 7, 8, 9, 10, 11, 12] [12, 0, 1, 2, 3, 4, 5, 6, 7, 8, 9, 10, 11] (va_recv hK hP (ci := 11) (q0 := 0) rfl rfl) rfl rfl (by decide) rfl rfl rfl rfl rfl hl.1 rfl (Nat.le_of_ble_eq_true rfl) dX11_finish_29 (fun H locs hP hD hS => ?_)
          refine lv_if_eq (tgt := 42) hx hb dX11_finish_32 (by decide) (fun c10 => ?_) (fun c10 => ?_)
          · have hf := of_pos hf c10
            refine lv_aload_n hx hb dX11_finish_42 rfl (lv_at hl 0 rfl) ?_
            refine lv_iconst (v := (1 : Int32)) hx hb dX11_finish_43 (by decide) ?_
            obtain ⟨⟨r_44_10_x0_14, r_44_10_x0_15⟩, hc_r_44_10, hf⟩ := of_bnd hf
            refine cl_Vv (w2 := (wW_X11_finish G h0 h1 h2 h3 h4 h5 h6 h7 h8 h9 h10 h11 h12 y0_0 y0_33 y0_34 y0_38 y0_39 y0_40 y0_41 y0_42 y0_43 y0_45 y0_46 y0_47 y0_48 x0_5 x0_7 x0_8 r_25_7_x0_9 r_25_7_x0_10 r_25_7_x0_11 r_25_7_x0_12 r_25_7_x0_13 r_44_10_x0_14 r_44_10_x0_15 x0_16 x0_17 r_25_7_x0_19 r_25_7_x0_20 r_25_7_x0_27 r_25_7_x0_28 x0_29 x0_30 x0_31 x0_32 x0_35 x0_36 x0_37 x0_44 x0_49 x0_50 r_25_7_a1 r_25_7_a2 r_25_7_a3 r_25_7_a4 a5 a6 r_25_7_a7 r_25_7_a8 r_25_7_a9 r_25_7_a10 r_25_7_a11 r_25_7_a12)) (As := [.int (1 : Int32)]) (rest := []) ⟨hx, hb, hml, hown, ht0⟩ (c_X11_fail l G h0 y0_0 h1 h2 h3 h4 h5 h6 h7 h8 h9 h10 h11 h12 y0_33 y0_34 y0_38 y0_39 y0_40 y0_41 y0_42 y0_43 y0_45 y0_46 y0_47 y0_48 _ x0_5 x0_7 x0_8 r_25_7_x0_9 r_25_7_x0_10 r_25_7_x0_11 r_25_7_x0_12 r_25_7_x0_13 r_25_7_x0_14 r_25_7_x0_15 x0_16 x0_17 r_25_7_x0_19 r_25_7_x0_20 r_25_7_x0_27 r_25_7_x0_28 x0_29 x0_30 x0_31 x0_32 x0_35 x0_36 x0_37 x0_44 x0_49 x0_50 F (1 : Int32) _ _ hc_r_44_10) yk_X11_fail wd_1313 ⟨rfl, rfl, by decide, by decide⟩ ⟨Nat.le_refl _, Nat.le_refl _⟩ hX hK hP hD hS hA [0] [1, 2, 3, 4, 5, 6, 7, 8, 9, 10, 11, 12] [12, 0, 1, 2, 3, 4, 5, 6, 7, 8, 9, 10, 11] (va_recv hK hP (ci := 11) (q0 := 0) rfl rfl) rfl rfl (by decide) rfl rfl rfl rfl rfl hl.1 rfl (Nat.le_of_ble_eq_true rfl) dX11_finish_44 (fun H locs hP hD hS => ?_)
            refine lv_goto (tgt := 9) hx hb dX11_finish_47 (by decide) ?_
            exact ih9 _ _ _ _ _ _ _ _ _ _ _ _ _ _ _ _ _ _ _ _ _ hf _ _ hP hD hS _ (lv_sub hl [0, 1] rfl)
          · have hf := of_neg hf c10
            refine lv_aload_n hx hb dX11_finish_35 rfl (lv_at hl 0 rfl) ?_
            obtain ⟨⟨r_36_11_x0_9, r_36_11_x0_10, r_36_11_x0_11, r_36_11_x0_12, r_36_11_x0_13⟩, hc_r_36_11, hf⟩ := of_bnd hf
            refine cl_Vv (w2 := (wW_X11_finish G h0 h1 h2 h3 h4 h5 h6 h7 h8 h9 h10 h11 h12 y0_0 y0_33 y0_34 y0_38 y0_39 y0_40 y0_41 y0_42 y0_43 y0_45 y0_46 y0_47 y0_48 x0_5 x0_7 x0_8 r_36_11_x0_9 r_36_11_x0_10 r_36_11_x0_11 r_36_11_x0_12 r_36_11_x0_13 r_25_7_x0_14 r_25_7_x0_15 x0_16 x0_17 r_25_7_x0_19 r_25_7_x0_20 r_25_7_x0_27 r_25_7_x0_28 x0_29 x0_30 x0_31 x0_32 x0_35 x0_36 x0_37 x0_44 x0_49 x0_50 r_25_7_a1 r_25_7_a2 r_25_7_a3 r_25_7_a4 a5 a6 r_25_7_a7 r_25_7_a8 r_25_7_a9 r_25_7_a10 r_25_7_a11 r_25_7_a12)) (As := []) (rest := []) ⟨hx, hb, hml, hown, ht0⟩ (c_X11_scan l G h0 h5 h6 y0_0 h1 h2 h3 h4 h7 h8 h9 h10 h11 h12 y0_33 y0_34 y0_38 y0_39 y0_40 y0_41 y0_42 y0_43 y0_45 y0_46 y0_47 y0_48 _ x0_5 x0_7 x0_8 r_25_7_x0_9 r_25_7_x0_10 r_25_7_x0_11 r_25_7_x0_12 r_25_7_x0_13 r_25_7_x0_14 r_25_7_x0_15 x0_16 x0_17 r_25_7_x0_19 r_25_7_x0_20 r_25_7_x0_27 r_25_7_x0_28 x0_29 x0_30 x0_31 x0_32 x0_35 x0_36 x0_37 x0_44 x0_49 x0_50 a5 a6 F _ _ _ _ _ hc_r_36_11) yk_X11_scan wd_1270 ⟨rfl, rfl, by decide, by decide⟩ ⟨Nat.le_refl _, Nat.le_refl _⟩ hX hK hP hD hS hA [0, 5, 6] [1, 2, 3, 4, 7, 8, 9, 10, 11, 12] [10, 0, 1, 2, 3, 11, 12, 4, 5, 6, 7, 8, 9] (va_recv hK hP (ci := 11) (q0 := 0) rfl rfl) rfl rfl (by decide) rfl rfl rfl rfl rfl hl.1 rfl (Nat.le_of_ble_eq_true rfl) dX11_finish_36 (fun H locs hP hD hS => ?_)
            refine lv_goto (tgt := 9) hx hb dX11_finish_39 (by decide) ?_
            exact ih9 _ _ _ _ _ _ _ _ _ _ _ _ _ _ _ _ _ _ _ _ _ hf _ _ hP hD hS _ (lv_sub hl [0, 1] rfl)
  refine lv_aload_n hx hb dX11_finish_0 rfl (lv_at hl 0 rfl) ?_
  refine lv_iconst (v := (0 : Int32)) hx hb dX11_finish_1 (by decide) ?_
  refine va_put (ci := 11) (v := .int (0 : Int32)) (ty := .int) (C := RX11) (T := TX11) (N := 51) hx hb ht0 iX11 tyX11 tyX11_ok nmX11 hown hK hP hD hS 0 rfl rfl 9 (by decide) (ht0 _ wd_1415) (fun _ h9 => h9) rfl rfl rfl rfl (Nat.le_of_ble_eq_true rfl) dX11_finish_2 (fun H locs hP hD hS => ?_)
  have hP : va_P G.1 vwCl (wW_X11_finish G h0 h1 h2 h3 h4 h5 h6 h7 h8 h9 h10 h11 h12 y0_0 y0_33 y0_34 y0_38 y0_39 y0_40 y0_41 y0_42 y0_43 y0_45 y0_46 y0_47 y0_48 x0_5 x0_7 x0_8 (0 : Int32) x0_10 x0_11 x0_12 x0_13 x0_14 x0_15 x0_16 x0_17 x0_19 x0_20 x0_27 x0_28 x0_29 x0_30 x0_31 x0_32 x0_35 x0_36 x0_37 x0_44 x0_49 x0_50 a1 a2 a3 a4 a5 a6 a7 a8 a9 a10 a11 a12) H := hP
  have hD : va_D A (wW_X11_finish G h0 h1 h2 h3 h4 h5 h6 h7 h8 h9 h10 h11 h12 y0_0 y0_33 y0_34 y0_38 y0_39 y0_40 y0_41 y0_42 y0_43 y0_45 y0_46 y0_47 y0_48 x0_5 x0_7 x0_8 (0 : Int32) x0_10 x0_11 x0_12 x0_13 x0_14 x0_15 x0_16 x0_17 x0_19 x0_20 x0_27 x0_28 x0_29 x0_30 x0_31 x0_32 x0_35 x0_36 x0_37 x0_44 x0_49 x0_50 a1 a2 a3 a4 a5 a6 a7 a8 a9 a10 a11 a12) := hD
  refine lv_aload_n hx hb dX11_finish_5 rfl (lv_at hl 0 rfl) ?_
  obtain ⟨⟨r_6_12_x0_9, r_6_12_x0_10, r_6_12_x0_11, r_6_12_x0_12, r_6_12_x0_13⟩, hc_r_6_12, hf⟩ := of_bnd hf
  refine cl_Vv (w2 := (wW_X11_finish G h0 h1 h2 h3 h4 h5 h6 h7 h8 h9 h10 h11 h12 y0_0 y0_33 y0_34 y0_38 y0_39 y0_40 y0_41 y0_42 y0_43 y0_45 y0_46 y0_47 y0_48 x0_5 x0_7 x0_8 r_6_12_x0_9 r_6_12_x0_10 r_6_12_x0_11 r_6_12_x0_12 r_6_12_x0_13 x0_14 x0_15 x0_16 x0_17 x0_19 x0_20 x0_27 x0_28 x0_29 x0_30 x0_31 x0_32 x0_35 x0_36 x0_37 x0_44 x0_49 x0_50 a1 a2 a3 a4 a5 a6 a7 a8 a9 a10 a11 a12)) (As := []) (rest := []) ⟨hx, hb, hml, hown, ht0⟩ (c_X11_scan l G h0 h5 h6 y0_0 h1 h2 h3 h4 h7 h8 h9 h10 h11 h12 y0_33 y0_34 y0_38 y0_39 y0_40 y0_41 y0_42 y0_43 y0_45 y0_46 y0_47 y0_48 _ x0_5 x0_7 x0_8 (0 : Int32) x0_10 x0_11 x0_12 x0_13 x0_14 x0_15 x0_16 x0_17 x0_19 x0_20 x0_27 x0_28 x0_29 x0_30 x0_31 x0_32 x0_35 x0_36 x0_37 x0_44 x0_49 x0_50 a5 a6 F _ _ _ _ _ hc_r_6_12) yk_X11_scan wd_1270 ⟨rfl, rfl, by decide, by decide⟩ ⟨Nat.le_refl _, Nat.le_refl _⟩ hX hK hP hD hS hA [0, 5, 6] [1, 2, 3, 4, 7, 8, 9, 10, 11, 12] [10, 0, 1, 2, 3, 11, 12, 4, 5, 6, 7, 8, 9] (va_recv hK hP (ci := 11) (q0 := 0) rfl rfl) rfl rfl (by decide) rfl rfl rfl rfl rfl hl.1 rfl (Nat.le_of_ble_eq_true rfl) dX11_finish_6 (fun H locs hP hD hS => ?_)
  exact kL9 _ _ _ _ _ _ _ _ _ _ _ _ _ _ _ _ _ _ _ _ _ _ _ hf _ _ hP hD hS _ (lv_sub hl [0, 1] rfl)
theorem yk_X11_finish : ykV yX11_finish RX11 cX11_finish 3 none 1 := ⟨wd_1268, wd_40, wd_142, wd_1269, rfl, by decide +kernel, by decide +kernel, by decide +kernel⟩
theorem dX11_dataNow_0 : decode cX11_dataNow 0 = .ok (.aload_n 0, 1) := by decide +kernel
theorem dX11_dataNow_1 : decode cX11_dataNow 1 = .ok (.getfield 13, 3) := by decide +kernel
theorem dX11_dataNow_4 : decode cX11_dataNow 4 = .ok (.aload_n 0, 1) := by decide +kernel
theorem dX11_dataNow_5 : decode cX11_dataNow 5 = .ok (.getfield 211, 3) := by decide +kernel
theorem dX11_dataNow_8 : decode cX11_dataNow 8 = .ok (.iaload, 1) := by decide +kernel
theorem dX11_dataNow_9 : decode cX11_dataNow 9 = .ok (.ireturn, 1) := by decide +kernel
def wW_X11_dataNow (G : GG) (h0 h1 y0_0 y0_2 y0_3 y0_4 y0_6 y0_18 y0_21 y0_22 y0_23 y0_24 y0_25 y0_26 y0_33 y0_34 y0_38 y0_39 y0_40 y0_41 y0_42 y0_43 y0_45 y0_46 y0_47 y0_48 : Nat) (x0_5 : Int32) (x0_7 : Int32) (x0_8 : Int32) (x0_9 : Int32) (x0_10 : Int32) (x0_11 : Int32) (x0_12 : Int32) (x0_13 : Int32) (x0_14 : Int32) (x0_15 : Int32) (x0_16 : Int32) (x0_17 : Int32) (x0_19 : Int32) (x0_20 : Int32) (x0_27 : Int32) (x0_28 : Int32) (x0_29 : Int32) (x0_30 : Int32) (x0_31 : Int32) (x0_32 : Int32) (x0_35 : Int32) (x0_36 : Int32) (x0_37 : Int32) (x0_44 : Int32) (x0_49 : Int32) (x0_50 : Int32) (a1 : Nat → Int32) : va_W := [(h0, .inr (11, [.ref y0_0, .ref h1, .ref y0_2, .ref y0_3, .ref y0_4, .int x0_5, .ref y0_6, .int x0_7, .int x0_8, .int x0_9, .int x0_10, .int x0_11, .int x0_12, .int x0_13, .int x0_14, .int x0_15, .int x0_16, .int x0_17, .ref y0_18, .int x0_19, .int x0_20, .ref y0_21, .ref y0_22, .ref y0_23, .ref y0_24, .ref y0_25, .ref y0_26, .int x0_27, .int x0_28, .int x0_29, .int x0_30, .int x0_31, .int x0_32, .ref y0_33, .ref y0_34, .int x0_35, .int x0_36, .int x0_37, .ref y0_38, .ref y0_39, .ref y0_40, .ref y0_41, .ref y0_42, .ref y0_43, .int x0_44, .ref y0_45, .ref y0_46, .ref y0_47, .ref y0_48, .int x0_49, .int x0_50])), (h1, .inl (G.2.1, 2, .inl a1))]
set_option maxHeartbeats 4000000 in
set_option maxRecDepth 100000 in
theorem c_X11_dataNow (l : Launch) (G : GG) (h0 h1 y0_0 y0_2 y0_3 y0_4 y0_6 y0_18 y0_21 y0_22 y0_23 y0_24 y0_25 y0_26 y0_33 y0_34 y0_38 y0_39 y0_40 y0_41 y0_42 y0_43 y0_45 y0_46 y0_47 y0_48 : Nat) (sz : Nat) (x0_5 : Int32) (x0_7 : Int32) (x0_8 : Int32) (x0_9 : Int32) (x0_10 : Int32) (x0_11 : Int32) (x0_12 : Int32) (x0_13 : Int32) (x0_14 : Int32) (x0_15 : Int32) (x0_16 : Int32) (x0_17 : Int32) (x0_19 : Int32) (x0_20 : Int32) (x0_27 : Int32) (x0_28 : Int32) (x0_29 : Int32) (x0_30 : Int32) (x0_31 : Int32) (x0_32 : Int32) (x0_35 : Int32) (x0_36 : Int32) (x0_37 : Int32) (x0_44 : Int32) (x0_49 : Int32) (x0_50 : Int32) (a1 : Nat → Int32) (F : Nat)   (r0 : Int32) (hf : p_X11_dataNow F x0_5 a1  = some r0) : Met l yX11_dataNow (.code yX11_dataNow cX11_dataNow 1 (some .int) :: gtbl) ({ frames := 0, cells := 0, slots := 0, locals := 0 } : Room) (PcS G [.ref h0] (wW_X11_dataNow G h0 h1 y0_0 y0_2 y0_3 y0_4 y0_6 y0_18 y0_21 y0_22 y0_23 y0_24 y0_25 y0_26 y0_33 y0_34 y0_38 y0_39 y0_40 y0_41 y0_42 y0_43 y0_45 y0_46 y0_47 y0_48 x0_5 x0_7 x0_8 x0_9 x0_10 x0_11 x0_12 x0_13 x0_14 x0_15 x0_16 x0_17 x0_19 x0_20 x0_27 x0_28 x0_29 x0_30 x0_31 x0_32 x0_35 x0_36 x0_37 x0_44 x0_49 x0_50 a1) sz) (QiS G r0 (va_A (wW_X11_dataNow G h0 h1 y0_0 y0_2 y0_3 y0_4 y0_6 y0_18 y0_21 y0_22 y0_23 y0_24 y0_25 y0_26 y0_33 y0_34 y0_38 y0_39 y0_40 y0_41 y0_42 y0_43 y0_45 y0_46 y0_47 y0_48 x0_5 x0_7 x0_8 x0_9 x0_10 x0_11 x0_12 x0_13 x0_14 x0_15 x0_16 x0_17 x0_19 x0_20 x0_27 x0_28 x0_29 x0_30 x0_31 x0_32 x0_35 x0_36 x0_37 x0_44 x0_49 x0_50 a1) sz) (wW_X11_dataNow G h0 h1 y0_0 y0_2 y0_3 y0_4 y0_6 y0_18 y0_21 y0_22 y0_23 y0_24 y0_25 y0_26 y0_33 y0_34 y0_38 y0_39 y0_40 y0_41 y0_42 y0_43 y0_45 y0_46 y0_47 y0_48 x0_5 x0_7 x0_8 x0_9 x0_10 x0_11 x0_12 x0_13 x0_14 x0_15 x0_16 x0_17 x0_19 x0_20 x0_27 x0_28 x0_29 x0_30 x0_31 x0_32 x0_35 x0_36 x0_37 x0_44 x0_49 x0_50 a1)) 0 0 (va_A (wW_X11_dataNow G h0 h1 y0_0 y0_2 y0_3 y0_4 y0_6 y0_18 y0_21 y0_22 y0_23 y0_24 y0_25 y0_26 y0_33 y0_34 y0_38 y0_39 y0_40 y0_41 y0_42 y0_43 y0_45 y0_46 y0_47 y0_48 x0_5 x0_7 x0_8 x0_9 x0_10 x0_11 x0_12 x0_13 x0_14 x0_15 x0_16 x0_17 x0_19 x0_20 x0_27 x0_28 x0_29 x0_30 x0_31 x0_32 x0_35 x0_36 x0_37 x0_44 x0_49 x0_50 a1) sz) := by
  refine met_start (by decide) (Nat.le_of_ble_eq_true rfl) ?_
  intro p e s m below meth c hC hr hlk hnm hK hP hD hA hS hX ls hl
  obtain ⟨hx, hb, hml, hown, ht0⟩ := hC
  have hown : s.vm.findClass RX11 = some m.cls := hown
  generalize va_A (wW_X11_dataNow G h0 h1 y0_0 y0_2 y0_3 y0_4 y0_6 y0_18 y0_21 y0_22 y0_23 y0_24 y0_25 y0_26 y0_33 y0_34 y0_38 y0_39 y0_40 y0_41 y0_42 y0_43 y0_45 y0_46 y0_47 y0_48 x0_5 x0_7 x0_8 x0_9 x0_10 x0_11 x0_12 x0_13 x0_14 x0_15 x0_16 x0_17 x0_19 x0_20 x0_27 x0_28 x0_29 x0_30 x0_31 x0_32 x0_35 x0_36 x0_37 x0_44 x0_49 x0_50 a1) sz = A at hD hA hS hX ⊢
  have hl : lv_has ls 1 [(0, .ref h0)] := hl
  have hf : p_X11_dataNow F x0_5 a1  = some r0 := hf
  refine lv_aload_n hx hb dX11_dataNow_0 rfl (lv_at hl 0 rfl) ?_
  refine va_get (ci := 11) (v := .ref h1) (C := RX11) (T := TX11) (N := 51) hx hb ht0 iX11 hown hK hP 0 rfl rfl 1 (by decide) (ht0 _ wd_1407) (fun _ h9 => h9) rfl dX11_dataNow_1 ?_
  refine lv_aload_n hx hb dX11_dataNow_4 rfl (lv_at hl 0 rfl) ?_
  refine va_get (ci := 11) (v := .int x0_5) (C := RX11) (T := TX11) (N := 51) hx hb ht0 iX11 hown hK hP 0 rfl rfl 5 (by decide) (ht0 _ wd_1411) (fun _ h9 => h9) rfl dX11_dataNow_5 ?_
  obtain ⟨g1, hf⟩ := of_grd hf
  refine va_iald hx hb hK hP 1 0 rfl rfl g1 dX11_dataNow_8 ?_
  cases hf
  exact ret_i hx hb hr hlk hK hP hD hS dX11_dataNow_9
theorem yk_X11_dataNow : ykV yX11_dataNow RX11 cX11_dataNow 1 (some .int) 0 := ⟨wd_1400, wd_68, wd_142, wd_1401, rfl, by decide +kernel, by decide +kernel, by decide +kernel⟩
theorem dX11_columnAt_0 : decode cX11_columnAt 0 = .ok (.aload_n 0, 1) := by decide +kernel
theorem dX11_columnAt_1 : decode cX11_columnAt 1 = .ok (.getfield 7, 3) := by decide +kernel
theorem dX11_columnAt_4 : decode cX11_columnAt 4 = .ok (.iconst 0, 1) := by decide +kernel
theorem dX11_columnAt_5 : decode cX11_columnAt 5 = .ok (.iload_n 1, 1) := by decide +kernel
theorem dX11_columnAt_6 : decode cX11_columnAt 6 = .ok (.iadd, 1) := by decide +kernel
theorem dX11_columnAt_7 : decode cX11_columnAt 7 = .ok (.iaload, 1) := by decide +kernel
theorem dX11_columnAt_8 : decode cX11_columnAt 8 = .ok (.ireturn, 1) := by decide +kernel
def wW_X11_columnAt (G : GG) (h0 h1 y0_1 y0_2 y0_3 y0_4 y0_6 y0_18 y0_21 y0_22 y0_23 y0_24 y0_25 y0_26 y0_33 y0_34 y0_38 y0_39 y0_40 y0_41 y0_42 y0_43 y0_45 y0_46 y0_47 y0_48 : Nat) (x0_5 : Int32) (x0_7 : Int32) (x0_8 : Int32) (x0_9 : Int32) (x0_10 : Int32) (x0_11 : Int32) (x0_12 : Int32) (x0_13 : Int32) (x0_14 : Int32) (x0_15 : Int32) (x0_16 : Int32) (x0_17 : Int32) (x0_19 : Int32) (x0_20 : Int32) (x0_27 : Int32) (x0_28 : Int32) (x0_29 : Int32) (x0_30 : Int32) (x0_31 : Int32) (x0_32 : Int32) (x0_35 : Int32) (x0_36 : Int32) (x0_37 : Int32) (x0_44 : Int32) (x0_49 : Int32) (x0_50 : Int32) (a1 : Nat → Int32) : va_W := [(h0, .inr (11, [.ref h1, .ref y0_1, .ref y0_2, .ref y0_3, .ref y0_4, .int x0_5, .ref y0_6, .int x0_7, .int x0_8, .int x0_9, .int x0_10, .int x0_11, .int x0_12, .int x0_13, .int x0_14, .int x0_15, .int x0_16, .int x0_17, .ref y0_18, .int x0_19, .int x0_20, .ref y0_21, .ref y0_22, .ref y0_23, .ref y0_24, .ref y0_25, .ref y0_26, .int x0_27, .int x0_28, .int x0_29, .int x0_30, .int x0_31, .int x0_32, .ref y0_33, .ref y0_34, .int x0_35, .int x0_36, .int x0_37, .ref y0_38, .ref y0_39, .ref y0_40, .ref y0_41, .ref y0_42, .ref y0_43, .int x0_44, .ref y0_45, .ref y0_46, .ref y0_47, .ref y0_48, .int x0_49, .int x0_50])), (h1, .inl (G.2.1, 121, .inl a1))]
set_option maxHeartbeats 4000000 in
set_option maxRecDepth 100000 in
theorem c_X11_columnAt (l : Launch) (G : GG) (h0 h1 y0_1 y0_2 y0_3 y0_4 y0_6 y0_18 y0_21 y0_22 y0_23 y0_24 y0_25 y0_26 y0_33 y0_34 y0_38 y0_39 y0_40 y0_41 y0_42 y0_43 y0_45 y0_46 y0_47 y0_48 : Nat) (sz : Nat) (x0_5 : Int32) (x0_7 : Int32) (x0_8 : Int32) (x0_9 : Int32) (x0_10 : Int32) (x0_11 : Int32) (x0_12 : Int32) (x0_13 : Int32) (x0_14 : Int32) (x0_15 : Int32) (x0_16 : Int32) (x0_17 : Int32) (x0_19 : Int32) (x0_20 : Int32) (x0_27 : Int32) (x0_28 : Int32) (x0_29 : Int32) (x0_30 : Int32) (x0_31 : Int32) (x0_32 : Int32) (x0_35 : Int32) (x0_36 : Int32) (x0_37 : Int32) (x0_44 : Int32) (x0_49 : Int32) (x0_50 : Int32) (a1 : Nat → Int32) (F : Nat) (b1 : Int32)  (r0 : Int32) (hf : p_X11_columnAt F a1 b1 = some r0) : Met l yX11_columnAt (.code yX11_columnAt cX11_columnAt 2 (some .int) :: gtbl) ({ frames := 0, cells := 0, slots := 0, locals := 0 } : Room) (PcS G [.ref h0, .int b1] (wW_X11_columnAt G h0 h1 y0_1 y0_2 y0_3 y0_4 y0_6 y0_18 y0_21 y0_22 y0_23 y0_24 y0_25 y0_26 y0_33 y0_34 y0_38 y0_39 y0_40 y0_41 y0_42 y0_43 y0_45 y0_46 y0_47 y0_48 x0_5 x0_7 x0_8 x0_9 x0_10 x0_11 x0_12 x0_13 x0_14 x0_15 x0_16 x0_17 x0_19 x0_20 x0_27 x0_28 x0_29 x0_30 x0_31 x0_32 x0_35 x0_36 x0_37 x0_44 x0_49 x0_50 a1) sz) (QiS G r0 (va_A (wW_X11_columnAt G h0 h1 y0_1 y0_2 y0_3 y0_4 y0_6 y0_18 y0_21 y0_22 y0_23 y0_24 y0_25 y0_26 y0_33 y0_34 y0_38 y0_39 y0_40 y0_41 y0_42 y0_43 y0_45 y0_46 y0_47 y0_48 x0_5 x0_7 x0_8 x0_9 x0_10 x0_11 x0_12 x0_13 x0_14 x0_15 x0_16 x0_17 x0_19 x0_20 x0_27 x0_28 x0_29 x0_30 x0_31 x0_32 x0_35 x0_36 x0_37 x0_44 x0_49 x0_50 a1) sz) (wW_X11_columnAt G h0 h1 y0_1 y0_2 y0_3 y0_4 y0_6 y0_18 y0_21 y0_22 y0_23 y0_24 y0_25 y0_26 y0_33 y0_34 y0_38 y0_39 y0_40 y0_41 y0_42 y0_43 y0_45 y0_46 y0_47 y0_48 x0_5 x0_7 x0_8 x0_9 x0_10 x0_11 x0_12 x0_13 x0_14 x0_15 x0_16 x0_17 x0_19 x0_20 x0_27 x0_28 x0_29 x0_30 x0_31 x0_32 x0_35 x0_36 x0_37 x0_44 x0_49 x0_50 a1)) 0 0 (va_A (wW_X11_columnAt G h0 h1 y0_1 y0_2 y0_3 y0_4 y0_6 y0_18 y0_21 y0_22 y0_23 y0_24 y0_25 y0_26 y0_33 y0_34 y0_38 y0_39 y0_40 y0_41 y0_42 y0_43 y0_45 y0_46 y0_47 y0_48 x0_5 x0_7 x0_8 x0_9 x0_10 x0_11 x0_12 x0_13 x0_14 x0_15 x0_16 x0_17 x0_19 x0_20 x0_27 x0_28 x0_29 x0_30 x0_31 x0_32 x0_35 x0_36 x0_37 x0_44 x0_49 x0_50 a1) sz) := by
  refine met_start (by decide) (Nat.le_of_ble_eq_true rfl) ?_
  intro p e s m below meth c hC hr hlk hnm hK hP hD hA hS hX ls hl
  obtain ⟨hx, hb, hml, hown, ht0⟩ := hC
  have hown : s.vm.findClass RX11 = some m.cls := hown
  generalize va_A (wW_X11_columnAt G h0 h1 y0_1 y0_2 y0_3 y0_4 y0_6 y0_18 y0_21 y0_22 y0_23 y0_24 y0_25 y0_26 y0_33 y0_34 y0_38 y0_39 y0_40 y0_41 y0_42 y0_43 y0_45 y0_46 y0_47 y0_48 x0_5 x0_7 x0_8 x0_9 x0_10 x0_11 x0_12 x0_13 x0_14 x0_15 x0_16 x0_17 x0_19 x0_20 x0_27 x0_28 x0_29 x0_30 x0_31 x0_32 x0_35 x0_36 x0_37 x0_44 x0_49 x0_50 a1) sz = A at hD hA hS hX ⊢
  have hl : lv_has ls 2 [(0, .ref h0), (1, .int b1)] := hl
  have hf : p_X11_columnAt F a1 b1 = some r0 := hf
  refine lv_aload_n hx hb dX11_columnAt_0 rfl (lv_at hl 0 rfl) ?_
  refine va_get (ci := 11) (v := .ref h1) (C := RX11) (T := TX11) (N := 51) hx hb ht0 iX11 hown hK hP 0 rfl rfl 0 (by decide) (ht0 _ wd_1406) (fun _ h9 => h9) rfl dX11_columnAt_1 ?_
  refine lv_iconst (v := (0 : Int32)) hx hb dX11_columnAt_4 (by decide) ?_
  refine lv_iload_n hx hb dX11_columnAt_5 rfl (lv_at hl 1 rfl) ?_
  refine lv_iadd hx hb dX11_columnAt_6 ?_
  obtain ⟨g1, hf⟩ := of_grd hf
  refine va_iald hx hb hK hP 1 0 rfl rfl g1 dX11_columnAt_7 ?_
  cases hf
  exact ret_i hx hb hr hlk hK hP hD hS dX11_columnAt_8
theorem yk_X11_columnAt : ykV yX11_columnAt RX11 cX11_columnAt 2 (some .int) 1 := ⟨wd_1404, wd_69, wd_142, wd_1405, rfl, by decide +kernel, by decide +kernel, by decide +kernel⟩
theorem dX11_checksOf_0 : decode cX11_checksOf 0 = .ok (.iconst 0, 1) := by decide +kernel
theorem dX11_checksOf_1 : decode cX11_checksOf 1 = .ok (.istore_n 2, 1) := by decide +kernel
theorem dX11_checksOf_2 : decode cX11_checksOf 2 = .ok (.iconst 0, 1) := by decide +kernel
theorem dX11_checksOf_3 : decode cX11_checksOf 3 = .ok (.istore_n 3, 1) := by decide +kernel
theorem dX11_checksOf_4 : decode cX11_checksOf 4 = .ok (.iload_n 3, 1) := by decide +kernel
theorem dX11_checksOf_5 : decode cX11_checksOf 5 = .ok (.aload_n 0, 1) := by decide +kernel
theorem dX11_checksOf_6 : decode cX11_checksOf 6 = .ok (.invokevirtual 221, 3) := by decide +kernel
theorem dX11_checksOf_9 : decode cX11_checksOf 9 = .ok (.if_icmp .ge 26, 3) := by decide +kernel
theorem dX11_checksOf_12 : decode cX11_checksOf 12 = .ok (.iload_n 1, 1) := by decide +kernel
theorem dX11_checksOf_13 : decode cX11_checksOf 13 = .ok (.iload_n 3, 1) := by decide +kernel
theorem dX11_checksOf_14 : decode cX11_checksOf 14 = .ok (.ishr, 1) := by decide +kernel
theorem dX11_checksOf_15 : decode cX11_checksOf 15 = .ok (.iconst 1, 1) := by decide +kernel
theorem dX11_checksOf_16 : decode cX11_checksOf 16 = .ok (.iand, 1) := by decide +kernel
theorem dX11_checksOf_17 : decode cX11_checksOf 17 = .ok (.iconst 1, 1) := by decide +kernel
theorem dX11_checksOf_18 : decode cX11_checksOf 18 = .ok (.if_icmp .ne 11, 3) := by decide +kernel
theorem dX11_checksOf_21 : decode cX11_checksOf 21 = .ok (.iload_n 2, 1) := by decide +kernel
theorem dX11_checksOf_22 : decode cX11_checksOf 22 = .ok (.aload_n 0, 1) := by decide +kernel
theorem dX11_checksOf_23 : decode cX11_checksOf 23 = .ok (.iload_n 3, 1) := by decide +kernel
theorem dX11_checksOf_24 : decode cX11_checksOf 24 = .ok (.invokevirtual 269, 3) := by decide +kernel
theorem dX11_checksOf_27 : decode cX11_checksOf 27 = .ok (.ixor, 1) := by decide +kernel
theorem dX11_checksOf_28 : decode cX11_checksOf 28 = .ok (.istore_n 2, 1) := by decide +kernel
theorem dX11_checksOf_29 : decode cX11_checksOf 29 = .ok (.iinc 3 1, 3) := by decide +kernel
theorem dX11_checksOf_32 : decode cX11_checksOf 32 = .ok (.goto (-28), 3) := by decide +kernel
theorem dX11_checksOf_35 : decode cX11_checksOf 35 = .ok (.iload_n 2, 1) := by decide +kernel
theorem dX11_checksOf_36 : decode cX11_checksOf 36 = .ok (.ireturn, 1) := by decide +kernel
def wW_X11_checksOf (G : GG) (h0 h1 h2 y0_2 y0_3 y0_4 y0_6 y0_18 y0_21 y0_22 y0_23 y0_24 y0_25 y0_26 y0_33 y0_34 y0_38 y0_39 y0_40 y0_41 y0_42 y0_43 y0_45 y0_46 y0_47 y0_48 : Nat) (x0_5 : Int32) (x0_7 : Int32) (x0_8 : Int32) (x0_9 : Int32) (x0_10 : Int32) (x0_11 : Int32) (x0_12 : Int32) (x0_13 : Int32) (x0_14 : Int32) (x0_15 : Int32) (x0_16 : Int32) (x0_17 : Int32) (x0_19 : Int32) (x0_20 : Int32) (x0_27 : Int32) (x0_28 : Int32) (x0_29 : Int32) (x0_30 : Int32) (x0_31 : Int32) (x0_32 : Int32) (x0_35 : Int32) (x0_36 : Int32) (x0_37 : Int32) (x0_44 : Int32) (x0_49 : Int32) (x0_50 : Int32) (a1 : Nat → Int32) (a2 : Nat → Int32) : va_W := [(h0, .inr (11, [.ref h1, .ref h2, .ref y0_2, .ref y0_3, .ref y0_4, .int x0_5, .ref y0_6, .int x0_7, .int x0_8, .int x0_9, .int x0_10, .int x0_11, .int x0_12, .int x0_13, .int x0_14, .int x0_15, .int x0_16, .int x0_17, .ref y0_18, .int x0_19, .int x0_20, .ref y0_21, .ref y0_22, .ref y0_23, .ref y0_24, .ref y0_25, .ref y0_26, .int x0_27, .int x0_28, .int x0_29, .int x0_30, .int x0_31, .int x0_32, .ref y0_33, .ref y0_34, .int x0_35, .int x0_36, .int x0_37, .ref y0_38, .ref y0_39, .ref y0_40, .ref y0_41, .ref y0_42, .ref y0_43, .int x0_44, .ref y0_45, .ref y0_46, .ref y0_47, .ref y0_48, .int x0_49, .int x0_50])), (h1, .inl (G.2.1, 121, .inl a1)), (h2, .inl (G.2.1, 2, .inl a2))]
set_option maxHeartbeats 4000000 in
set_option maxRecDepth 100000 in
theorem c_X11_checksOf (l : Launch) (G : GG) (h0 h1 h2 y0_2 y0_3 y0_4 y0_6 y0_18 y0_21 y0_22 y0_23 y0_24 y0_25 y0_26 y0_33 y0_34 y0_38 y0_39 y0_40 y0_41 y0_42 y0_43 y0_45 y0_46 y0_47 y0_48 : Nat) (sz : Nat) (x0_5 : Int32) (x0_7 : Int32) (x0_8 : Int32) (x0_9 : Int32) (x0_10 : Int32) (x0_11 : Int32) (x0_12 : Int32) (x0_13 : Int32) (x0_14 : Int32) (x0_15 : Int32) (x0_16 : Int32) (x0_17 : Int32) (x0_19 : Int32) (x0_20 : Int32) (x0_27 : Int32) (x0_28 : Int32) (x0_29 : Int32) (x0_30 : Int32) (x0_31 : Int32) (x0_32 : Int32) (x0_35 : Int32) (x0_36 : Int32) (x0_37 : Int32) (x0_44 : Int32) (x0_49 : Int32) (x0_50 : Int32) (a1 : Nat → Int32) (a2 : Nat → Int32) (F : Nat) (b1 : Int32)  (r0 : Int32) (hf : p_X11_checksOf F x0_5 a1 a2 b1 = some r0) : Met l yX11_checksOf (.code yX11_checksOf cX11_checksOf 4 (some .int) :: gtbl) ({ frames := 1, cells := 0, slots := 0, locals := 21 } : Room) (PcS G [.ref h0, .int b1] (wW_X11_checksOf G h0 h1 h2 y0_2 y0_3 y0_4 y0_6 y0_18 y0_21 y0_22 y0_23 y0_24 y0_25 y0_26 y0_33 y0_34 y0_38 y0_39 y0_40 y0_41 y0_42 y0_43 y0_45 y0_46 y0_47 y0_48 x0_5 x0_7 x0_8 x0_9 x0_10 x0_11 x0_12 x0_13 x0_14 x0_15 x0_16 x0_17 x0_19 x0_20 x0_27 x0_28 x0_29 x0_30 x0_31 x0_32 x0_35 x0_36 x0_37 x0_44 x0_49 x0_50 a1 a2) sz) (QiS G r0 (va_A (wW_X11_checksOf G h0 h1 h2 y0_2 y0_3 y0_4 y0_6 y0_18 y0_21 y0_22 y0_23 y0_24 y0_25 y0_26 y0_33 y0_34 y0_38 y0_39 y0_40 y0_41 y0_42 y0_43 y0_45 y0_46 y0_47 y0_48 x0_5 x0_7 x0_8 x0_9 x0_10 x0_11 x0_12 x0_13 x0_14 x0_15 x0_16 x0_17 x0_19 x0_20 x0_27 x0_28 x0_29 x0_30 x0_31 x0_32 x0_35 x0_36 x0_37 x0_44 x0_49 x0_50 a1 a2) sz) (wW_X11_checksOf G h0 h1 h2 y0_2 y0_3 y0_4 y0_6 y0_18 y0_21 y0_22 y0_23 y0_24 y0_25 y0_26 y0_33 y0_34 y0_38 y0_39 y0_40 y0_41 y0_42 y0_43 y0_45 y0_46 y0_47 y0_48 x0_5 x0_7 x0_8 x0_9 x0_10 x0_11 x0_12 x0_13 x0_14 x0_15 x0_16 x0_17 x0_19 x0_20 x0_27 x0_28 x0_29 x0_30 x0_31 x0_32 x0_35 x0_36 x0_37 x0_44 x0_49 x0_50 a1 a2)) 0 0 (va_A (wW_X11_checksOf G h0 h1 h2 y0_2 y0_3 y0_4 y0_6 y0_18 y0_21 y0_22 y0_23 y0_24 y0_25 y0_26 y0_33 y0_34 y0_38 y0_39 y0_40 y0_41 y0_42 y0_43 y0_45 y0_46 y0_47 y0_48 x0_5 x0_7 x0_8 x0_9 x0_10 x0_11 x0_12 x0_13 x0_14 x0_15 x0_16 x0_17 x0_19 x0_20 x0_27 x0_28 x0_29 x0_30 x0_31 x0_32 x0_35 x0_36 x0_37 x0_44 x0_49 x0_50 a1 a2) sz) := by
  refine met_start (by decide) (Nat.le_of_ble_eq_true rfl) ?_
  intro p e s m below meth c hC hr hlk hnm hK hP hD hA hS hX ls hl
  obtain ⟨hx, hb, hml, hown, ht0⟩ := hC
  have hown : s.vm.findClass RX11 = some m.cls := hown
  generalize va_A (wW_X11_checksOf G h0 h1 h2 y0_2 y0_3 y0_4 y0_6 y0_18 y0_21 y0_22 y0_23 y0_24 y0_25 y0_26 y0_33 y0_34 y0_38 y0_39 y0_40 y0_41 y0_42 y0_43 y0_45 y0_46 y0_47 y0_48 x0_5 x0_7 x0_8 x0_9 x0_10 x0_11 x0_12 x0_13 x0_14 x0_15 x0_16 x0_17 x0_19 x0_20 x0_27 x0_28 x0_29 x0_30 x0_31 x0_32 x0_35 x0_36 x0_37 x0_44 x0_49 x0_50 a1 a2) sz = A at hD hA hS hX ⊢
  have hl : lv_has ls 4 [(0, .ref h0), (1, .int b1)] := hl
  have hf : p_X11_checksOf F x0_5 a1 a2 b1 = some r0 := hf
  have kL4 : ∀ (c4_1 : Int32) (n4 : Nat) (u4_2 : Int32) (u4_3 : Int32), p_X11_checksOf_L4 F x0_5 a1 a2 c4_1 n4 u4_2 u4_3 = some r0 → ∀ (H : Heap) (locs : List Loc), va_P G.1 vwCl (wW_X11_checksOf G h0 h1 h2 y0_2 y0_3 y0_4 y0_6 y0_18 y0_21 y0_22 y0_23 y0_24 y0_25 y0_26 y0_33 y0_34 y0_38 y0_39 y0_40 y0_41 y0_42 y0_43 y0_45 y0_46 y0_47 y0_48 x0_5 x0_7 x0_8 x0_9 x0_10 x0_11 x0_12 x0_13 x0_14 x0_15 x0_16 x0_17 x0_19 x0_20 x0_27 x0_28 x0_29 x0_30 x0_31 x0_32 x0_35 x0_36 x0_37 x0_44 x0_49 x0_50 a1 a2) H → va_D A (wW_X11_checksOf G h0 h1 h2 y0_2 y0_3 y0_4 y0_6 y0_18 y0_21 y0_22 y0_23 y0_24 y0_25 y0_26 y0_33 y0_34 y0_38 y0_39 y0_40 y0_41 y0_42 y0_43 y0_45 y0_46 y0_47 y0_48 x0_5 x0_7 x0_8 x0_9 x0_10 x0_11 x0_12 x0_13 x0_14 x0_15 x0_16 x0_17 x0_19 x0_20 x0_27 x0_28 x0_29 x0_30 x0_31 x0_32 x0_35 x0_36 x0_37 x0_44 x0_49 x0_50 a1 a2) → va_S A s.heap H locs → ∀ ls : Array Slot, lv_has ls 4 [(0, .ref h0), (1, .int c4_1), (2, .int u4_2), (3, .int u4_3)] → W p l e ({ frames := 1, cells := 0, slots := 0, locals := 21 } : Room) s m (List.toArray [.ref h0, .int b1]) below meth c H locs 0 0 (MQ below (QiS G r0 A (wW_X11_checksOf G h0 h1 h2 y0_2 y0_3 y0_4 y0_6 y0_18 y0_21 y0_22 y0_23 y0_24 y0_25 y0_26 y0_33 y0_34 y0_38 y0_39 y0_40 y0_41 y0_42 y0_43 y0_45 y0_46 y0_47 y0_48 x0_5 x0_7 x0_8 x0_9 x0_10 x0_11 x0_12 x0_13 x0_14 x0_15 x0_16 x0_17 x0_19 x0_20 x0_27 x0_28 x0_29 x0_30 x0_31 x0_32 x0_35 x0_36 x0_37 x0_44 x0_49 x0_50 a1 a2)) (List.toArray [.ref h0, .int b1]) s 0 0 A) (F0 m 4 ls []) := by
    intro c4_1 n4
    induction n4 with
    | zero =>
      intro u4_2 u4_3 hf
      cases hf
    | succ n4 ih4 =>
      have kJ29 : ∀ (u29_2 : Int32) (u29_3 : Int32), p_X11_checksOf_J29 F x0_5 a1 a2 c4_1 (p_X11_checksOf_L4 F x0_5 a1 a2 c4_1 n4) u29_2 u29_3 = some r0 → ∀ (H : Heap) (locs : List Loc), va_P G.1 vwCl (wW_X11_checksOf G h0 h1 h2 y0_2 y0_3 y0_4 y0_6 y0_18 y0_21 y0_22 y0_23 y0_24 y0_25 y0_26 y0_33 y0_34 y0_38 y0_39 y0_40 y0_41 y0_42 y0_43 y0_45 y0_46 y0_47 y0_48 x0_5 x0_7 x0_8 x0_9 x0_10 x0_11 x0_12 x0_13 x0_14 x0_15 x0_16 x0_17 x0_19 x0_20 x0_27 x0_28 x0_29 x0_30 x0_31 x0_32 x0_35 x0_36 x0_37 x0_44 x0_49 x0_50 a1 a2) H → va_D A (wW_X11_checksOf G h0 h1 h2 y0_2 y0_3 y0_4 y0_6 y0_18 y0_21 y0_22 y0_23 y0_24 y0_25 y0_26 y0_33 y0_34 y0_38 y0_39 y0_40 y0_41 y0_42 y0_43 y0_45 y0_46 y0_47 y0_48 x0_5 x0_7 x0_8 x0_9 x0_10 x0_11 x0_12 x0_13 x0_14 x0_15 x0_16 x0_17 x0_19 x0_20 x0_27 x0_28 x0_29 x0_30 x0_31 x0_32 x0_35 x0_36 x0_37 x0_44 x0_49 x0_50 a1 a2) → va_S A s.heap H locs → ∀ ls : Array Slot, lv_has ls 4 [(0, .ref h0), (1, .int c4_1), (2, .int u29_2), (3, .int u29_3)] → W p l e ({ frames := 1, cells := 0, slots := 0, locals := 21 } : Room) s m (List.toArray [.ref h0, .int b1]) below meth c H locs 0 0 (MQ below (QiS G r0 A (wW_X11_checksOf G h0 h1 h2 y0_2 y0_3 y0_4 y0_6 y0_18 y0_21 y0_22 y0_23 y0_24 y0_25 y0_26 y0_33 y0_34 y0_38 y0_39 y0_40 y0_41 y0_42 y0_43 y0_45 y0_46 y0_47 y0_48 x0_5 x0_7 x0_8 x0_9 x0_10 x0_11 x0_12 x0_13 x0_14 x0_15 x0_16 x0_17 x0_19 x0_20 x0_27 x0_28 x0_29 x0_30 x0_31 x0_32 x0_35 x0_36 x0_37 x0_44 x0_49 x0_50 a1 a2)) (List.toArray [.ref h0, .int b1]) s 0 0 A) (F0 m 29 ls []) := by
        intro u29_2 u29_3 hf H locs hP hD hS ls hl
        refine lv_iinc (v := u29_3 + (1 : Int32)) (lv' := [(3, .int (u29_3 + (1 : Int32))), (0, .ref h0), (1, .int c4_1), (2, .int u29_2)]) hx hb dX11_checksOf_29 hl (k := 3) rfl (by rfl) (by decide) rfl (fun ls hl => ?_)
        refine lv_goto (tgt := 4) hx hb dX11_checksOf_32 (by decide) ?_
        exact ih4 _ _ hf _ _ hP hD hS _ (lv_sub hl [1, 2, 3, 0] rfl)
      intro u4_2 u4_3 hf H locs hP hD hS ls hl
      have hf : p_X11_checksOf_L4b F x0_5 a1 a2 c4_1 (p_X11_checksOf_L4 F x0_5 a1 a2 c4_1 n4) u4_2 u4_3 = some r0 := hf
      refine lv_iload_n hx hb dX11_checksOf_4 rfl (lv_at hl 3 rfl) ?_
      refine lv_aload_n hx hb dX11_checksOf_5 rfl (lv_at hl 0 rfl) ?_
      obtain ⟨r_6_0, hc_r_6_0, hf⟩ := of_bnd hf
      refine cl_Vi (w2 := (wW_X11_checksOf G h0 h1 h2 y0_2 y0_3 y0_4 y0_6 y0_18 y0_21 y0_22 y0_23 y0_24 y0_25 y0_26 y0_33 y0_34 y0_38 y0_39 y0_40 y0_41 y0_42 y0_43 y0_45 y0_46 y0_47 y0_48 x0_5 x0_7 x0_8 x0_9 x0_10 x0_11 x0_12 x0_13 x0_14 x0_15 x0_16 x0_17 x0_19 x0_20 x0_27 x0_28 x0_29 x0_30 x0_31 x0_32 x0_35 x0_36 x0_37 x0_44 x0_49 x0_50 a1 a2)) (As := []) (rest := [.int u4_3]) ⟨hx, hb, hml, hown, ht0⟩ (c_X11_dataNow l G h0 h2 h1 y0_2 y0_3 y0_4 y0_6 y0_18 y0_21 y0_22 y0_23 y0_24 y0_25 y0_26 y0_33 y0_34 y0_38 y0_39 y0_40 y0_41 y0_42 y0_43 y0_45 y0_46 y0_47 y0_48 _ x0_5 x0_7 x0_8 x0_9 x0_10 x0_11 x0_12 x0_13 x0_14 x0_15 x0_16 x0_17 x0_19 x0_20 x0_27 x0_28 x0_29 x0_30 x0_31 x0_32 x0_35 x0_36 x0_37 x0_44 x0_49 x0_50 a2 F _ hc_r_6_0) yk_X11_dataNow wd_1398 ⟨rfl, rfl, by decide, by decide⟩ ⟨Nat.le_refl _, Nat.le_refl _⟩ hX hK hP hD hS hA [0, 2] [1] [1, 0, 2] (va_recv hK hP (ci := 11) (q0 := 0) rfl rfl) rfl rfl (by decide) rfl rfl rfl rfl rfl hl.1 rfl (Nat.le_of_ble_eq_true rfl) dX11_checksOf_6 (fun H locs hP hD hS => ?_)
      refine lv_icmp_ge (tgt := 35) hx hb dX11_checksOf_9 (by decide) (fun c2 => ?_) (fun c2 => ?_)
      · have hf := of_pos hf c2
        refine lv_iload_n hx hb dX11_checksOf_35 rfl (lv_at hl 2 rfl) ?_
        cases hf
        exact ret_i hx hb hr hlk hK hP hD hS dX11_checksOf_36
      · have hf := of_neg hf c2
        refine lv_iload_n hx hb dX11_checksOf_12 rfl (lv_at hl 1 rfl) ?_
        refine lv_iload_n hx hb dX11_checksOf_13 rfl (lv_at hl 3 rfl) ?_
        refine lv_ishr hx hb dX11_checksOf_14 ?_
        refine lv_iconst (v := (1 : Int32)) hx hb dX11_checksOf_15 (by decide) ?_
        refine lv_iand hx hb dX11_checksOf_16 ?_
        refine lv_iconst (v := (1 : Int32)) hx hb dX11_checksOf_17 (by decide) ?_
        refine lv_icmp_ne (tgt := 29) hx hb dX11_checksOf_18 (by decide) (fun c3 => ?_) (fun c3 => ?_)
        · have hf := of_neg hf c3
          exact kJ29 _ _ hf _ _ hP hD hS _ (lv_sub hl [0, 1, 2, 3] rfl)
        · have hf := of_pos hf c3
          refine lv_iload_n hx hb dX11_checksOf_21 rfl (lv_at hl 2 rfl) ?_
          refine lv_aload_n hx hb dX11_checksOf_22 rfl (lv_at hl 0 rfl) ?_
          refine lv_iload_n hx hb dX11_checksOf_23 rfl (lv_at hl 3 rfl) ?_
          obtain ⟨r_24_3, hc_r_24_3, hf⟩ := of_bnd hf
          refine cl_Vi (w2 := (wW_X11_checksOf G h0 h1 h2 y0_2 y0_3 y0_4 y0_6 y0_18 y0_21 y0_22 y0_23 y0_24 y0_25 y0_26 y0_33 y0_34 y0_38 y0_39 y0_40 y0_41 y0_42 y0_43 y0_45 y0_46 y0_47 y0_48 x0_5 x0_7 x0_8 x0_9 x0_10 x0_11 x0_12 x0_13 x0_14 x0_15 x0_16 x0_17 x0_19 x0_20 x0_27 x0_28 x0_29 x0_30 x0_31 x0_32 x0_35 x0_36 x0_37 x0_44 x0_49 x0_50 a1 a2)) (As := [.int u4_3]) (rest := [.int u4_2]) ⟨hx, hb, hml, hown, ht0⟩ (c_X11_columnAt l G h0 h1 h2 y0_2 y0_3 y0_4 y0_6 y0_18 y0_21 y0_22 y0_23 y0_24 y0_25 y0_26 y0_33 y0_34 y0_38 y0_39 y0_40 y0_41 y0_42 y0_43 y0_45 y0_46 y0_47 y0_48 _ x0_5 x0_7 x0_8 x0_9 x0_10 x0_11 x0_12 x0_13 x0_14 x0_15 x0_16 x0_17 x0_19 x0_20 x0_27 x0_28 x0_29 x0_30 x0_31 x0_32 x0_35 x0_36 x0_37 x0_44 x0_49 x0_50 a1 F u4_3 _ hc_r_24_3) yk_X11_columnAt wd_1402 ⟨rfl, rfl, by decide, by decide⟩ ⟨Nat.le_refl _, Nat.le_refl _⟩ hX hK hP hD hS hA [0, 1] [2] [1, 2, 0] (va_recv hK hP (ci := 11) (q0 := 0) rfl rfl) rfl rfl (by decide) rfl rfl rfl rfl rfl hl.1 rfl (Nat.le_of_ble_eq_true rfl) dX11_checksOf_24 (fun H locs hP hD hS => ?_)
          refine lv_ixor hx hb dX11_checksOf_27 ?_
          refine lv_istore_n (lv' := [(2, .int (u4_2 ^^^ r_24_3)), (0, .ref h0), (1, .int c4_1), (3, .int u4_3)]) hx hb dX11_checksOf_28 rfl hl (by decide) rfl (fun ls hl => ?_)
          exact kJ29 _ _ hf _ _ hP hD hS _ (lv_sub hl [1, 2, 0, 3] rfl)
  refine lv_iconst (v := (0 : Int32)) hx hb dX11_checksOf_0 (by decide) ?_
  refine lv_istore_n (lv' := [(2, .int (0 : Int32)), (0, .ref h0), (1, .int b1)]) hx hb dX11_checksOf_1 rfl hl (by decide) rfl (fun ls hl => ?_)
  refine lv_iconst (v := (0 : Int32)) hx hb dX11_checksOf_2 (by decide) ?_
  refine lv_istore_n (lv' := [(3, .int (0 : Int32)), (2, .int (0 : Int32)), (0, .ref h0), (1, .int b1)]) hx hb dX11_checksOf_3 rfl hl (by decide) rfl (fun ls hl => ?_)
  exact kL4 _ _ _ _ hf _ _ hP hD hS _ (lv_sub hl [2, 3, 1, 0] rfl)
theorem yk_X11_checksOf : ykV yX11_checksOf RX11 cX11_checksOf 4 (some .int) 1 := ⟨wd_1396, wd_67, wd_142, wd_1397, rfl, by decide +kernel, by decide +kernel, by decide +kernel⟩
theorem dX11_startAnew_0 : decode cX11_startAnew 0 = .ok (.iconst 0, 1) := by decide +kernel
theorem dX11_startAnew_1 : decode cX11_startAnew 1 = .ok (.istore_n 1, 1) := by decide +kernel
theorem dX11_startAnew_2 : decode cX11_startAnew 2 = .ok (.iload_n 1, 1) := by decide +kernel
theorem dX11_startAnew_3 : decode cX11_startAnew 3 = .ok (.bipush 121, 2) := by decide +kernel
theorem dX11_startAnew_5 : decode cX11_startAnew 5 = .ok (.if_icmp .ge 29, 3) := by decide +kernel
theorem dX11_startAnew_8 : decode cX11_startAnew 8 = .ok (.aload_n 0, 1) := by decide +kernel
theorem dX11_startAnew_9 : decode cX11_startAnew 9 = .ok (.getfield 7, 3) := by decide +kernel
theorem dX11_startAnew_12 : decode cX11_startAnew 12 = .ok (.iload_n 1, 1) := by decide +kernel
theorem dX11_startAnew_13 : decode cX11_startAnew 13 = .ok (.aload_n 0, 1) := by decide +kernel
theorem dX11_startAnew_14 : decode cX11_startAnew 14 = .ok (.getfield 22, 3) := by decide +kernel
theorem dX11_startAnew_17 : decode cX11_startAnew 17 = .ok (.bipush 121, 2) := by decide +kernel
theorem dX11_startAnew_19 : decode cX11_startAnew 19 = .ok (.aload_n 0, 1) := by decide +kernel
theorem dX11_startAnew_20 : decode cX11_startAnew 20 = .ok (.getfield 211, 3) := by decide +kernel
theorem dX11_startAnew_23 : decode cX11_startAnew 23 = .ok (.imul, 1) := by decide +kernel
theorem dX11_startAnew_24 : decode cX11_startAnew 24 = .ok (.iload_n 1, 1) := by decide +kernel
theorem dX11_startAnew_25 : decode cX11_startAnew 25 = .ok (.iadd, 1) := by decide +kernel
theorem dX11_startAnew_26 : decode cX11_startAnew 26 = .ok (.iaload, 1) := by decide +kernel
theorem dX11_startAnew_27 : decode cX11_startAnew 27 = .ok (.iastore, 1) := by decide +kernel
theorem dX11_startAnew_28 : decode cX11_startAnew 28 = .ok (.iinc 1 1, 3) := by decide +kernel
theorem dX11_startAnew_31 : decode cX11_startAnew 31 = .ok (.goto (-29), 3) := by decide +kernel
theorem dX11_startAnew_34 : decode cX11_startAnew 34 = .ok (.iconst 0, 1) := by decide +kernel
theorem dX11_startAnew_35 : decode cX11_startAnew 35 = .ok (.istore_n 1, 1) := by decide +kernel
theorem dX11_startAnew_36 : decode cX11_startAnew 36 = .ok (.iload_n 1, 1) := by decide +kernel
theorem dX11_startAnew_37 : decode cX11_startAnew 37 = .ok (.bipush 16, 2) := by decide +kernel
theorem dX11_startAnew_39 : decode cX11_startAnew 39 = .ok (.if_icmp .ge 31, 3) := by decide +kernel
theorem dX11_startAnew_42 : decode cX11_startAnew 42 = .ok (.aload_n 0, 1) := by decide +kernel
theorem dX11_startAnew_43 : decode cX11_startAnew 43 = .ok (.getfield 7, 3) := by decide +kernel
theorem dX11_startAnew_46 : decode cX11_startAnew 46 = .ok (.bipush 49, 2) := by decide +kernel
theorem dX11_startAnew_48 : decode cX11_startAnew 48 = .ok (.iload_n 1, 1) := by decide +kernel
theorem dX11_startAnew_49 : decode cX11_startAnew 49 = .ok (.iadd, 1) := by decide +kernel
theorem dX11_startAnew_50 : decode cX11_startAnew 50 = .ok (.aload_n 0, 1) := by decide +kernel
theorem dX11_startAnew_51 : decode cX11_startAnew 51 = .ok (.aload_n 0, 1) := by decide +kernel
theorem dX11_startAnew_52 : decode cX11_startAnew 52 = .ok (.getfield 7, 3) := by decide +kernel
theorem dX11_startAnew_55 : decode cX11_startAnew 55 = .ok (.bipush 33, 2) := by decide +kernel
theorem dX11_startAnew_57 : decode cX11_startAnew 57 = .ok (.iload_n 1, 1) := by decide +kernel
theorem dX11_startAnew_58 : decode cX11_startAnew 58 = .ok (.iadd, 1) := by decide +kernel
theorem dX11_startAnew_59 : decode cX11_startAnew 59 = .ok (.iaload, 1) := by decide +kernel
theorem dX11_startAnew_60 : decode cX11_startAnew 60 = .ok (.invokevirtual 227, 3) := by decide +kernel
theorem dX11_startAnew_63 : decode cX11_startAnew 63 = .ok (.iastore, 1) := by decide +kernel
theorem dX11_startAnew_64 : decode cX11_startAnew 64 = .ok (.iinc 1 1, 3) := by decide +kernel
theorem dX11_startAnew_67 : decode cX11_startAnew 67 = .ok (.goto (-31), 3) := by decide +kernel
theorem dX11_startAnew_70 : decode cX11_startAnew 70 = .ok (.aload_n 0, 1) := by decide +kernel
theorem dX11_startAnew_71 : decode cX11_startAnew 71 = .ok (.iconst 0, 1) := by decide +kernel
theorem dX11_startAnew_72 : decode cX11_startAnew 72 = .ok (.putfield 230, 3) := by decide +kernel
theorem dX11_startAnew_75 : decode cX11_startAnew 75 = .ok (.aload_n 0, 1) := by decide +kernel
theorem dX11_startAnew_76 : decode cX11_startAnew 76 = .ok (.iconst 0, 1) := by decide +kernel
theorem dX11_startAnew_77 : decode cX11_startAnew 77 = .ok (.putfield 233, 3) := by decide +kernel
theorem dX11_startAnew_80 : decode cX11_startAnew 80 = .ok (.iconst 0, 1) := by decide +kernel
theorem dX11_startAnew_81 : decode cX11_startAnew 81 = .ok (.istore_n 1, 1) := by decide +kernel
theorem dX11_startAnew_82 : decode cX11_startAnew 82 = .ok (.iload_n 1, 1) := by decide +kernel
theorem dX11_startAnew_83 : decode cX11_startAnew 83 = .ok (.iconst 2, 1) := by decide +kernel
theorem dX11_startAnew_84 : decode cX11_startAnew 84 = .ok (.if_icmp .ge 16, 3) := by decide +kernel
theorem dX11_startAnew_87 : decode cX11_startAnew 87 = .ok (.aload_n 0, 1) := by decide +kernel
theorem dX11_startAnew_88 : decode cX11_startAnew 88 = .ok (.getfield 88, 3) := by decide +kernel
theorem dX11_startAnew_91 : decode cX11_startAnew 91 = .ok (.iload_n 1, 1) := by decide +kernel
theorem dX11_startAnew_92 : decode cX11_startAnew 92 = .ok (.iconst 0, 1) := by decide +kernel
theorem dX11_startAnew_93 : decode cX11_startAnew 93 = .ok (.bastore, 1) := by decide +kernel
theorem dX11_startAnew_94 : decode cX11_startAnew 94 = .ok (.iinc 1 1, 3) := by decide +kernel
theorem dX11_startAnew_97 : decode cX11_startAnew 97 = .ok (.goto (-15), 3) := by decide +kernel
theorem dX11_startAnew_100 : decode cX11_startAnew 100 = .ok (.return_, 1) := by decide +kernel
def wW_X11_startAnew (G : GG) (h0 h1 h2 h3 h4 y0_2 y0_3 y0_6 y0_18 y0_21 y0_22 y0_23 y0_24 y0_25 y0_26 y0_33 y0_34 y0_38 y0_39 y0_40 y0_41 y0_42 y0_43 y0_45 y0_46 y0_47 : Nat) (x0_5 : Int32) (x0_7 : Int32) (x0_8 : Int32) (x0_9 : Int32) (x0_10 : Int32) (x0_11 : Int32) (x0_12 : Int32) (x0_13 : Int32) (x0_14 : Int32) (x0_15 : Int32) (x0_16 : Int32) (x0_17 : Int32) (x0_19 : Int32) (x0_20 : Int32) (x0_27 : Int32) (x0_28 : Int32) (x0_29 : Int32) (x0_30 : Int32) (x0_31 : Int32) (x0_32 : Int32) (x0_35 : Int32) (x0_36 : Int32) (x0_37 : Int32) (x0_44 : Int32) (x0_49 : Int32) (x0_50 : Int32) (a1 : Nat → Int32) (a2 : Nat → Int32) (a3 : Nat → Int32) (a4 : Nat → Int32) : va_W := [(h0, .inr (11, [.ref h1, .ref h2, .ref y0_2, .ref y0_3, .ref h3, .int x0_5, .ref y0_6, .int x0_7, .int x0_8, .int x0_9, .int x0_10, .int x0_11, .int x0_12, .int x0_13, .int x0_14, .int x0_15, .int x0_16, .int x0_17, .ref y0_18, .int x0_19, .int x0_20, .ref y0_21, .ref y0_22, .ref y0_23, .ref y0_24, .ref y0_25, .ref y0_26, .int x0_27, .int x0_28, .int x0_29, .int x0_30, .int x0_31, .int x0_32, .ref y0_33, .ref y0_34, .int x0_35, .int x0_36, .int x0_37, .ref y0_38, .ref y0_39, .ref y0_40, .ref y0_41, .ref y0_42, .ref y0_43, .int x0_44, .ref y0_45, .ref y0_46, .ref y0_47, .ref h4, .int x0_49, .int x0_50])), (h1, .inl (G.2.1, 121, .inl a1)), (h2, .inl (G.2.1, 2, .inl a2)), (h3, .inl (G.2.1, 242, .inl a3)), (h4, .inl (G.2.2.1, 2, .inl a4))]
set_option maxHeartbeats 4000000 in
set_option maxRecDepth 100000 in
theorem c_X11_startAnew (l : Launch) (G : GG) (h0 h1 h2 h3 h4 y0_2 y0_3 y0_6 y0_18 y0_21 y0_22 y0_23 y0_24 y0_25 y0_26 y0_33 y0_34 y0_38 y0_39 y0_40 y0_41 y0_42 y0_43 y0_45 y0_46 y0_47 : Nat) (sz : Nat) (x0_5 : Int32) (x0_7 : Int32) (x0_8 : Int32) (x0_9 : Int32) (x0_10 : Int32) (x0_11 : Int32) (x0_12 : Int32) (x0_13 : Int32) (x0_14 : Int32) (x0_15 : Int32) (x0_16 : Int32) (x0_17 : Int32) (x0_19 : Int32) (x0_20 : Int32) (x0_27 : Int32) (x0_28 : Int32) (x0_29 : Int32) (x0_30 : Int32) (x0_31 : Int32) (x0_32 : Int32) (x0_35 : Int32) (x0_36 : Int32) (x0_37 : Int32) (x0_44 : Int32) (x0_49 : Int32) (x0_50 : Int32) (a1 : Nat → Int32) (a2 : Nat → Int32) (a3 : Nat → Int32) (a4 : Nat → Int32) (F : Nat)   (e_x0_49 : Int32) (e_x0_50 : Int32) (e_a1 : Nat → Int32) (e_a4 : Nat → Int32) (hf : p_X11_startAnew F x0_5 x0_49 x0_50 a1 a2 a3 a4  = some (e_x0_49, e_x0_50, e_a1, e_a4)) : Met l yX11_startAnew (.code yX11_startAnew cX11_startAnew 2 none :: gtbl) ({ frames := 2, cells := 0, slots := 0, locals := 44 } : Room) (PcS G [.ref h0] (wW_X11_startAnew G h0 h1 h2 h3 h4 y0_2 y0_3 y0_6 y0_18 y0_21 y0_22 y0_23 y0_24 y0_25 y0_26 y0_33 y0_34 y0_38 y0_39 y0_40 y0_41 y0_42 y0_43 y0_45 y0_46 y0_47 x0_5 x0_7 x0_8 x0_9 x0_10 x0_11 x0_12 x0_13 x0_14 x0_15 x0_16 x0_17 x0_19 x0_20 x0_27 x0_28 x0_29 x0_30 x0_31 x0_32 x0_35 x0_36 x0_37 x0_44 x0_49 x0_50 a1 a2 a3 a4) sz) (QvS G (va_A (wW_X11_startAnew G h0 h1 h2 h3 h4 y0_2 y0_3 y0_6 y0_18 y0_21 y0_22 y0_23 y0_24 y0_25 y0_26 y0_33 y0_34 y0_38 y0_39 y0_40 y0_41 y0_42 y0_43 y0_45 y0_46 y0_47 x0_5 x0_7 x0_8 x0_9 x0_10 x0_11 x0_12 x0_13 x0_14 x0_15 x0_16 x0_17 x0_19 x0_20 x0_27 x0_28 x0_29 x0_30 x0_31 x0_32 x0_35 x0_36 x0_37 x0_44 x0_49 x0_50 a1 a2 a3 a4) sz) (wW_X11_startAnew G h0 h1 h2 h3 h4 y0_2 y0_3 y0_6 y0_18 y0_21 y0_22 y0_23 y0_24 y0_25 y0_26 y0_33 y0_34 y0_38 y0_39 y0_40 y0_41 y0_42 y0_43 y0_45 y0_46 y0_47 x0_5 x0_7 x0_8 x0_9 x0_10 x0_11 x0_12 x0_13 x0_14 x0_15 x0_16 x0_17 x0_19 x0_20 x0_27 x0_28 x0_29 x0_30 x0_31 x0_32 x0_35 x0_36 x0_37 x0_44 e_x0_49 e_x0_50 e_a1 a2 a3 e_a4)) 0 0 (va_A (wW_X11_startAnew G h0 h1 h2 h3 h4 y0_2 y0_3 y0_6 y0_18 y0_21 y0_22 y0_23 y0_24 y0_25 y0_26 y0_33 y0_34 y0_38 y0_39 y0_40 y0_41 y0_42 y0_43 y0_45 y0_46 y0_47 x0_5 x0_7 x0_8 x0_9 x0_10 x0_11 x0_12 x0_13 x0_14 x0_15 x0_16 x0_17 x0_19 x0_20 x0_27 x0_28 x0_29 x0_30 x0_31 x0_32 x0_35 x0_36 x0_37 x0_44 x0_49 x0_50 a1 a2 a3 a4) sz) := by
  refine met_start (by decide) (Nat.le_of_ble_eq_true rfl) ?_
  intro p e s m below meth c hC hr hlk hnm hK hP hD hA hS hX ls hl
  obtain ⟨hx, hb, hml, hown, ht0⟩ := hC
  have hown : s.vm.findClass RX11 = some m.cls := hown
  generalize va_A (wW_X11_startAnew G h0 h1 h2 h3 h4 y0_2 y0_3 y0_6 y0_18 y0_21 y0_22 y0_23 y0_24 y0_25 y0_26 y0_33 y0_34 y0_38 y0_39 y0_40 y0_41 y0_42 y0_43 y0_45 y0_46 y0_47 x0_5 x0_7 x0_8 x0_9 x0_10 x0_11 x0_12 x0_13 x0_14 x0_15 x0_16 x0_17 x0_19 x0_20 x0_27 x0_28 x0_29 x0_30 x0_31 x0_32 x0_35 x0_36 x0_37 x0_44 x0_49 x0_50 a1 a2 a3 a4) sz = A at hD hA hS hX ⊢
  have hl : lv_has ls 2 [(0, .ref h0)] := hl
  have hf : p_X11_startAnew F x0_5 x0_49 x0_50 a1 a2 a3 a4  = some (e_x0_49, e_x0_50, e_a1, e_a4) := hf
  have kL82 : ∀ (n82 : Nat) (u82_1 : Int32) (x0_49_82 : Int32) (x0_50_82 : Int32) (a1_82 : Nat → Int32) (a4_82 : Nat → Int32), p_X11_startAnew_L82 F x0_5 a2 a3 n82 u82_1 x0_49_82 x0_50_82 a1_82 a4_82 = some (e_x0_49, e_x0_50, e_a1, e_a4) → ∀ (H : Heap) (locs : List Loc), va_P G.1 vwCl (wW_X11_startAnew G h0 h1 h2 h3 h4 y0_2 y0_3 y0_6 y0_18 y0_21 y0_22 y0_23 y0_24 y0_25 y0_26 y0_33 y0_34 y0_38 y0_39 y0_40 y0_41 y0_42 y0_43 y0_45 y0_46 y0_47 x0_5 x0_7 x0_8 x0_9 x0_10 x0_11 x0_12 x0_13 x0_14 x0_15 x0_16 x0_17 x0_19 x0_20 x0_27 x0_28 x0_29 x0_30 x0_31 x0_32 x0_35 x0_36 x0_37 x0_44 x0_49_82 x0_50_82 a1_82 a2 a3 a4_82) H → va_D A (wW_X11_startAnew G h0 h1 h2 h3 h4 y0_2 y0_3 y0_6 y0_18 y0_21 y0_22 y0_23 y0_24 y0_25 y0_26 y0_33 y0_34 y0_38 y0_39 y0_40 y0_41 y0_42 y0_43 y0_45 y0_46 y0_47 x0_5 x0_7 x0_8 x0_9 x0_10 x0_11 x0_12 x0_13 x0_14 x0_15 x0_16 x0_17 x0_19 x0_20 x0_27 x0_28 x0_29 x0_30 x0_31 x0_32 x0_35 x0_36 x0_37 x0_44 x0_49_82 x0_50_82 a1_82 a2 a3 a4_82) → va_S A s.heap H locs → ∀ ls : Array Slot, lv_has ls 2 [(0, .ref h0), (1, .int u82_1)] → W p l e ({ frames := 2, cells := 0, slots := 0, locals := 44 } : Room) s m (List.toArray [.ref h0]) below meth c H locs 0 0 (MQ below (QvS G A (wW_X11_startAnew G h0 h1 h2 h3 h4 y0_2 y0_3 y0_6 y0_18 y0_21 y0_22 y0_23 y0_24 y0_25 y0_26 y0_33 y0_34 y0_38 y0_39 y0_40 y0_41 y0_42 y0_43 y0_45 y0_46 y0_47 x0_5 x0_7 x0_8 x0_9 x0_10 x0_11 x0_12 x0_13 x0_14 x0_15 x0_16 x0_17 x0_19 x0_20 x0_27 x0_28 x0_29 x0_30 x0_31 x0_32 x0_35 x0_36 x0_37 x0_44 e_x0_49 e_x0_50 e_a1 a2 a3 e_a4)) (List.toArray [.ref h0]) s 0 0 A) (F0 m 82 ls []) := by
    intro n82
    induction n82 with
    | zero =>
      intro u82_1 x0_49_82 x0_50_82 a1_82 a4_82 hf
      cases hf
    | succ n82 ih82 =>
      intro u82_1 x0_49_82 x0_50_82 a1_82 a4_82 hf H locs hP hD hS ls hl
      have hf : p_X11_startAnew_L82b F x0_5 a2 a3 (p_X11_startAnew_L82 F x0_5 a2 a3 n82) u82_1 x0_49_82 x0_50_82 a1_82 a4_82 = some (e_x0_49, e_x0_50, e_a1, e_a4) := hf
      refine lv_iload_n hx hb dX11_startAnew_82 rfl (lv_at hl 1 rfl) ?_
      refine lv_iconst (v := (2 : Int32)) hx hb dX11_startAnew_83 (by decide) ?_
      refine lv_icmp_ge (tgt := 100) hx hb dX11_startAnew_84 (by decide) (fun c1 => ?_) (fun c1 => ?_)
      · have hf := of_pos hf c1
        cases hf
        exact ret_v hx hb hr hlk hK hP hD hS dX11_startAnew_100
      · have hf := of_neg hf c1
        refine lv_aload_n hx hb dX11_startAnew_87 rfl (lv_at hl 0 rfl) ?_
        refine va_get (ci := 11) (v := .ref h4) (C := RX11) (T := TX11) (N := 51) hx hb ht0 iX11 hown hK hP 0 rfl rfl 48 (by decide) (ht0 _ wd_1454) (fun _ h9 => h9) rfl dX11_startAnew_88 ?_
        refine lv_iload_n hx hb dX11_startAnew_91 rfl (lv_at hl 1 rfl) ?_
        refine lv_iconst (v := (0 : Int32)) hx hb dX11_startAnew_92 (by decide) ?_
        obtain ⟨g2, hf⟩ := of_grd hf
        refine va_zast hx hb hK hP hD hS 4 1 rfl rfl g2 dX11_startAnew_93 (fun H locs hP hD hS => ?_)
        have hP : va_P G.1 vwCl (wW_X11_startAnew G h0 h1 h2 h3 h4 y0_2 y0_3 y0_6 y0_18 y0_21 y0_22 y0_23 y0_24 y0_25 y0_26 y0_33 y0_34 y0_38 y0_39 y0_40 y0_41 y0_42 y0_43 y0_45 y0_46 y0_47 x0_5 x0_7 x0_8 x0_9 x0_10 x0_11 x0_12 x0_13 x0_14 x0_15 x0_16 x0_17 x0_19 x0_20 x0_27 x0_28 x0_29 x0_30 x0_31 x0_32 x0_35 x0_36 x0_37 x0_44 x0_49_82 x0_50_82 a1_82 a2 a3 (upd a4_82 u82_1.toNatClampNeg (vp_nar .boolean (0 : Int32)))) H := hP
        have hD : va_D A (wW_X11_startAnew G h0 h1 h2 h3 h4 y0_2 y0_3 y0_6 y0_18 y0_21 y0_22 y0_23 y0_24 y0_25 y0_26 y0_33 y0_34 y0_38 y0_39 y0_40 y0_41 y0_42 y0_43 y0_45 y0_46 y0_47 x0_5 x0_7 x0_8 x0_9 x0_10 x0_11 x0_12 x0_13 x0_14 x0_15 x0_16 x0_17 x0_19 x0_20 x0_27 x0_28 x0_29 x0_30 x0_31 x0_32 x0_35 x0_36 x0_37 x0_44 x0_49_82 x0_50_82 a1_82 a2 a3 (upd a4_82 u82_1.toNatClampNeg (vp_nar .boolean (0 : Int32)))) := hD
        refine lv_iinc (v := u82_1 + (1 : Int32)) (lv' := [(1, .int (u82_1 + (1 : Int32))), (0, .ref h0)]) hx hb dX11_startAnew_94 hl (k := 1) rfl (by rfl) (by decide) rfl (fun ls hl => ?_)
        refine lv_goto (tgt := 82) hx hb dX11_startAnew_97 (by decide) ?_
        exact ih82 _ _ _ _ _ hf _ _ hP hD hS _ (lv_sub hl [1, 0] rfl)
  have kL36 : ∀ (n36 : Nat) (u36_1 : Int32) (x0_49_36 : Int32) (x0_50_36 : Int32) (a1_36 : Nat → Int32) (a4_36 : Nat → Int32), p_X11_startAnew_L36 F x0_5 a2 a3 n36 u36_1 x0_49_36 x0_50_36 a1_36 a4_36 = some (e_x0_49, e_x0_50, e_a1, e_a4) → ∀ (H : Heap) (locs : List Loc), va_P G.1 vwCl (wW_X11_startAnew G h0 h1 h2 h3 h4 y0_2 y0_3 y0_6 y0_18 y0_21 y0_22 y0_23 y0_24 y0_25 y0_26 y0_33 y0_34 y0_38 y0_39 y0_40 y0_41 y0_42 y0_43 y0_45 y0_46 y0_47 x0_5 x0_7 x0_8 x0_9 x0_10 x0_11 x0_12 x0_13 x0_14 x0_15 x0_16 x0_17 x0_19 x0_20 x0_27 x0_28 x0_29 x0_30 x0_31 x0_32 x0_35 x0_36 x0_37 x0_44 x0_49_36 x0_50_36 a1_36 a2 a3 a4_36) H → va_D A (wW_X11_startAnew G h0 h1 h2 h3 h4 y0_2 y0_3 y0_6 y0_18 y0_21 y0_22 y0_23 y0_24 y0_25 y0_26 y0_33 y0_34 y0_38 y0_39 y0_40 y0_41 y0_42 y0_43 y0_45 y0_46 y0_47 x0_5 x0_7 x0_8 x0_9 x0_10 x0_11 x0_12 x0_13 x0_14 x0_15 x0_16 x0_17 x0_19 x0_20 x0_27 x0_28 x0_29 x0_30 x0_31 x0_32 x0_35 x0_36 x0_37 x0_44 x0_49_36 x0_50_36 a1_36 a2 a3 a4_36) → va_S A s.heap H locs → ∀ ls : Array Slot, lv_has ls 2 [(0, .ref h0), (1, .int u36_1)] → W p l e ({ frames := 2, cells := 0, slots := 0, locals := 44 } : Room) s m (List.toArray [.ref h0]) below meth c H locs 0 0 (MQ below (QvS G A (wW_X11_startAnew G h0 h1 h2 h3 h4 y0_2 y0_3 y0_6 y0_18 y0_21 y0_22 y0_23 y0_24 y0_25 y0_26 y0_33 y0_34 y0_38 y0_39 y0_40 y0_41 y0_42 y0_43 y0_45 y0_46 y0_47 x0_5 x0_7 x0_8 x0_9 x0_10 x0_11 x0_12 x0_13 x0_14 x0_15 x0_16 x0_17 x0_19 x0_20 x0_27 x0_28 x0_29 x0_30 x0_31 x0_32 x0_35 x0_36 x0_37 x0_44 e_x0_49 e_x0_50 e_a1 a2 a3 e_a4)) (List.toArray [.ref h0]) s 0 0 A) (F0 m 36 ls []) := by
    intro n36
    induction n36 with
    | zero =>
      intro u36_1 x0_49_36 x0_50_36 a1_36 a4_36 hf
      cases hf
    | succ n36 ih36 =>
      intro u36_1 x0_49_36 x0_50_36 a1_36 a4_36 hf H locs hP hD hS ls hl
      have hf : p_X11_startAnew_L36b F x0_5 a2 a3 (p_X11_startAnew_L36 F x0_5 a2 a3 n36) u36_1 x0_49_36 x0_50_36 a1_36 a4_36 = some (e_x0_49, e_x0_50, e_a1, e_a4) := hf
      refine lv_iload_n hx hb dX11_startAnew_36 rfl (lv_at hl 1 rfl) ?_
      refine lv_bipush (v := (16 : Int32)) hx hb dX11_startAnew_37 (by decide) ?_
      refine lv_icmp_ge (tgt := 70) hx hb dX11_startAnew_39 (by decide) (fun c3 => ?_) (fun c3 => ?_)
      · have hf := of_pos hf c3
        refine lv_aload_n hx hb dX11_startAnew_70 rfl (lv_at hl 0 rfl) ?_
        refine lv_iconst (v := (0 : Int32)) hx hb dX11_startAnew_71 (by decide) ?_
        refine va_put (ci := 11) (v := .int (0 : Int32)) (ty := .int) (C := RX11) (T := TX11) (N := 51) hx hb ht0 iX11 tyX11 tyX11_ok nmX11 hown hK hP hD hS 0 rfl rfl 49 (by decide) (ht0 _ wd_1455) (fun _ h9 => h9) rfl rfl rfl rfl (Nat.le_of_ble_eq_true rfl) dX11_startAnew_72 (fun H locs hP hD hS => ?_)
        have hP : va_P G.1 vwCl (wW_X11_startAnew G h0 h1 h2 h3 h4 y0_2 y0_3 y0_6 y0_18 y0_21 y0_22 y0_23 y0_24 y0_25 y0_26 y0_33 y0_34 y0_38 y0_39 y0_40 y0_41 y0_42 y0_43 y0_45 y0_46 y0_47 x0_5 x0_7 x0_8 x0_9 x0_10 x0_11 x0_12 x0_13 x0_14 x0_15 x0_16 x0_17 x0_19 x0_20 x0_27 x0_28 x0_29 x0_30 x0_31 x0_32 x0_35 x0_36 x0_37 x0_44 (0 : Int32) x0_50_36 a1_36 a2 a3 a4_36) H := hP
        have hD : va_D A (wW_X11_startAnew G h0 h1 h2 h3 h4 y0_2 y0_3 y0_6 y0_18 y0_21 y0_22 y0_23 y0_24 y0_25 y0_26 y0_33 y0_34 y0_38 y0_39 y0_40 y0_41 y0_42 y0_43 y0_45 y0_46 y0_47 x0_5 x0_7 x0_8 x0_9 x0_10 x0_11 x0_12 x0_13 x0_14 x0_15 x0_16 x0_17 x0_19 x0_20 x0_27 x0_28 x0_29 x0_30 x0_31 x0_32 x0_35 x0_36 x0_37 x0_44 (0 : Int32) x0_50_36 a1_36 a2 a3 a4_36) := hD
        refine lv_aload_n hx hb dX11_startAnew_75 rfl (lv_at hl 0 rfl) ?_
        refine lv_iconst (v := (0 : Int32)) hx hb dX11_startAnew_76 (by decide) ?_
        refine va_put (ci := 11) (v := .int (0 : Int32)) (ty := .int) (C := RX11) (T := TX11) (N := 51) hx hb ht0 iX11 tyX11 tyX11_ok nmX11 hown hK hP hD hS 0 rfl rfl 50 (by decide) (ht0 _ wd_1456) (fun _ h9 => h9) rfl rfl rfl rfl (Nat.le_of_ble_eq_true rfl) dX11_startAnew_77 (fun H locs hP hD hS => ?_)
        have hP : va_P G.1 vwCl (wW_X11_startAnew G h0 h1 h2 h3 h4 y0_2 y0_3 y0_6 y0_18 y0_21 y0_22 y0_23 y0_24 y0_25 y0_26 y0_33 y0_34 y0_38 y0_39 y0_40 y0_41 y0_42 y0_43 y0_45 y0_46 y0_47 x0_5 x0_7 x0_8 x0_9 x0_10 x0_11 x0_12 x0_13 x0_14 x0_15 x0_16 x0_17 x0_19 x0_20 x0_27 x0_28 x0_29 x0_30 x0_31 x0_32 x0_35 x0_36 x0_37 x0_44 (0 : Int32) (0 : Int32) a1_36 a2 a3 a4_36) H := hP
        have hD : va_D A (wW_X11_startAnew G h0 h1 h2 h3 h4 y0_2 y0_3 y0_6 y0_18 y0_21 y0_22 y0_23 y0_24 y0_25 y0_26 y0_33 y0_34 y0_38 y0_39 y0_40 y0_41 y0_42 y0_43 y0_45 y0_46 y0_47 x0_5 x0_7 x0_8 x0_9 x0_10 x0_11 x0_12 x0_13 x0_14 x0_15 x0_16 x0_17 x0_19 x0_20 x0_27 x0_28 x0_29 x0_30 x0_31 x0_32 x0_35 x0_36 x0_37 x0_44 (0 : Int32) (0 : Int32) a1_36 a2 a3 a4_36) := hD
        refine lv_iconst (v := (0 : Int32)) hx hb dX11_startAnew_80 (by decide) ?_
        refine lv_istore_n (lv' := [(1, .int (0 : Int32)), (0, .ref h0)]) hx hb dX11_startAnew_81 rfl hl (by decide) rfl (fun ls hl => ?_)
        exact kL82 _ _ _ _ _ _ hf _ _ hP hD hS _ (lv_sub hl [1, 0] rfl)
      · have hf := of_neg hf c3
        refine lv_aload_n hx hb dX11_startAnew_42 rfl (lv_at hl 0 rfl) ?_
        refine va_get (ci := 11) (v := .ref h1) (C := RX11) (T := TX11) (N := 51) hx hb ht0 iX11 hown hK hP 0 rfl rfl 0 (by decide) (ht0 _ wd_1406) (fun _ h9 => h9) rfl dX11_startAnew_43 ?_
        refine lv_bipush (v := (49 : Int32)) hx hb dX11_startAnew_46 (by decide) ?_
        refine lv_iload_n hx hb dX11_startAnew_48 rfl (lv_at hl 1 rfl) ?_
        refine lv_iadd hx hb dX11_startAnew_49 ?_
        refine lv_aload_n hx hb dX11_startAnew_50 rfl (lv_at hl 0 rfl) ?_
        refine lv_aload_n hx hb dX11_startAnew_51 rfl (lv_at hl 0 rfl) ?_
        refine va_get (ci := 11) (v := .ref h1) (C := RX11) (T := TX11) (N := 51) hx hb ht0 iX11 hown hK hP 0 rfl rfl 0 (by decide) (ht0 _ wd_1406) (fun _ h9 => h9) rfl dX11_startAnew_52 ?_
        refine lv_bipush (v := (33 : Int32)) hx hb dX11_startAnew_55 (by decide) ?_
        refine lv_iload_n hx hb dX11_startAnew_57 rfl (lv_at hl 1 rfl) ?_
        refine lv_iadd hx hb dX11_startAnew_58 ?_
        obtain ⟨g4, hf⟩ := of_grd hf
        refine va_iald hx hb hK hP 1 0 rfl rfl g4 dX11_startAnew_59 ?_
        obtain ⟨r_60_4, hc_r_60_4, hf⟩ := of_bnd hf
        refine cl_Vi (w2 := (wW_X11_startAnew G h0 h1 h2 h3 h4 y0_2 y0_3 y0_6 y0_18 y0_21 y0_22 y0_23 y0_24 y0_25 y0_26 y0_33 y0_34 y0_38 y0_39 y0_40 y0_41 y0_42 y0_43 y0_45 y0_46 y0_47 x0_5 x0_7 x0_8 x0_9 x0_10 x0_11 x0_12 x0_13 x0_14 x0_15 x0_16 x0_17 x0_19 x0_20 x0_27 x0_28 x0_29 x0_30 x0_31 x0_32 x0_35 x0_36 x0_37 x0_44 x0_49_36 x0_50_36 a1_36 a2 a3 a4_36)) (As := [.int (a1_36 ((33 : Int32) + u36_1).toNatClampNeg)]) (rest := [.int ((49 : Int32) + u36_1), .ref h1]) ⟨hx, hb, hml, hown, ht0⟩ (c_X11_checksOf l G h0 h1 h2 y0_2 y0_3 h3 y0_6 y0_18 y0_21 y0_22 y0_23 y0_24 y0_25 y0_26 y0_33 y0_34 y0_38 y0_39 y0_40 y0_41 y0_42 y0_43 y0_45 y0_46 y0_47 h4 _ x0_5 x0_7 x0_8 x0_9 x0_10 x0_11 x0_12 x0_13 x0_14 x0_15 x0_16 x0_17 x0_19 x0_20 x0_27 x0_28 x0_29 x0_30 x0_31 x0_32 x0_35 x0_36 x0_37 x0_44 x0_49_36 x0_50_36 a1_36 a2 F (a1_36 ((33 : Int32) + u36_1).toNatClampNeg) _ hc_r_60_4) yk_X11_checksOf wd_1394 ⟨rfl, rfl, by decide, by decide⟩ ⟨Nat.le_refl _, Nat.le_refl _⟩ hX hK hP hD hS hA [0, 1, 2] [3, 4] [2, 3, 4, 0, 1] (va_recv hK hP (ci := 11) (q0 := 0) rfl rfl) rfl rfl (by decide) rfl rfl rfl rfl rfl hl.1 rfl (Nat.le_of_ble_eq_true rfl) dX11_startAnew_60 (fun H locs hP hD hS => ?_)
        obtain ⟨g6, hf⟩ := of_grd hf
        refine va_iast hx hb hK hP hD hS 1 0 rfl rfl g6 dX11_startAnew_63 (fun H locs hP hD hS => ?_)
        have hP : va_P G.1 vwCl (wW_X11_startAnew G h0 h1 h2 h3 h4 y0_2 y0_3 y0_6 y0_18 y0_21 y0_22 y0_23 y0_24 y0_25 y0_26 y0_33 y0_34 y0_38 y0_39 y0_40 y0_41 y0_42 y0_43 y0_45 y0_46 y0_47 x0_5 x0_7 x0_8 x0_9 x0_10 x0_11 x0_12 x0_13 x0_14 x0_15 x0_16 x0_17 x0_19 x0_20 x0_27 x0_28 x0_29 x0_30 x0_31 x0_32 x0_35 x0_36 x0_37 x0_44 x0_49_36 x0_50_36 (upd a1_36 ((49 : Int32) + u36_1).toNatClampNeg r_60_4) a2 a3 a4_36) H := hP
        have hD : va_D A (wW_X11_startAnew G h0 h1 h2 h3 h4 y0_2 y0_3 y0_6 y0_18 y0_21 y0_22 y0_23 y0_24 y0_25 y0_26 y0_33 y0_34 y0_38 y0_39 y0_40 y0_41 y0_42 y0_43 y0_45 y0_46 y0_47 x0_5 x0_7 x0_8 x0_9 x0_10 x0_11 x0_12 x0_13 x0_14 x0_15 x0_16 x0_17 x0_19 x0_20 x0_27 x0_28 x0_29 x0_30 x0_31 x0_32 x0_35 x0_36 x0_37 x0_44 x0_49_36 x0_50_36 (upd a1_36 ((49 : Int32) + u36_1).toNatClampNeg r_60_4) a2 a3 a4_36) := hD
        refine lv_iinc (v := u36_1 + (1 : Int32)) (lv' := [(1, .int (u36_1 + (1 : Int32))), (0, .ref h0)]) hx hb dX11_startAnew_64 hl (k := 1) rfl (by rfl) (by decide) rfl (fun ls hl => ?_)
        refine lv_goto (tgt := 36) hx hb dX11_startAnew_67 (by decide) ?_
        exact ih36 _ _ _ _ _ hf _ _ hP hD hS _ (lv_sub hl [1, 0] rfl)
  have kL2 : ∀ (n2 : Nat) (u2_1 : Int32) (x0_49_2 : Int32) (x0_50_2 : Int32) (a1_2 : Nat → Int32) (a4_2 : Nat → Int32), p_X11_startAnew_L2 F x0_5 a2 a3 n2 u2_1 x0_49_2 x0_50_2 a1_2 a4_2 = some (e_x0_49, e_x0_50, e_a1, e_a4) → ∀ (H : Heap) (locs : List Loc), va_P G.1 vwCl (wW_X11_startAnew G h0 h1 h2 h3 h4 y0_2 y0_3 y0_6 y0_18 y0_21 y0_22 y0_23 y0_24 y0_25 y0_26 y0_33 y0_34 y0_38 y0_39 y0_40 y0_41 y0_42 y0_43 y0_45 y0_46 y0_47 x0_5 x0_7 x0_8 x0_9 x0_10 x0_11 x0_12 x0_13 x0_14 x0_15 x0_16 x0_17 x0_19 x0_20 x0_27 x0_28 x0_29 x0_30 x0_31 x0_32 x0_35 x0_36 x0_37 x0_44 x0_49_2 x0_50_2 a1_2 a2 a3 a4_2) H → va_D A (wW_X11_startAnew G h0 h1 h2 h3 h4 y0_2 y0_3 y0_6 y0_18 y0_21 y0_22 y0_23 y0_24 y0_25 y0_26 y0_33 y0_34 y0_38 y0_39 y0_40 y0_41 y0_42 y0_43 y0_45 y0_46 y0_47 x0_5 x0_7 x0_8 x0_9 x0_10 x0_11 x0_12 x0_13 x0_14 x0_15 x0_16 x0_17 x0_19 x0_20 x0_27 x0_28 x0_29 x0_30 x0_31 x0_32 x0_35 x0_36 x0_37 x0_44 x0_49_2 x0_50_2 a1_2 a2 a3 a4_2) → va_S A s.heap H locs → ∀ ls : Array Slot, lv_has ls 2 [(0, .ref h0), (1, .int u2_1)] → W p l e ({ frames := 2, cells := 0, slots := 0, locals := 44 } : Room) s m (List.toArray [.ref h0]) below meth c H locs 0 0 (MQ below (QvS G A (wW_X11_startAnew G h0 h1 h2 h3 h4 y0_2 y0_3 y0_6 y0_18 y0_21 y0_22 y0_23 y0_24 y0_25 y0_26 y0_33 y0_34 y0_38 y0_39 y0_40 y0_41 y0_42 y0_43 y0_45 y0_46 y0_47 x0_5 x0_7 x0_8 x0_9 x0_10 x0_11 x0_12 x0_13 x0_14 x0_15 x0_16 x0_17 x0_19 x0_20 x0_27 x0_28 x0_29 x0_30 x0_31 x0_32 x0_35 x0_36 x0_37 x0_44 e_x0_49 e_x0_50 e_a1 a2 a3 e_a4)) (List.toArray [.ref h0]) s 0 0 A) (F0 m 2 ls []) := by
    intro n2
    induction n2 with
    | zero =>
      intro u2_1 x0_49_2 x0_50_2 a1_2 a4_2 hf
      cases hf
    | succ n2 ih2 =>
      intro u2_1 x0_49_2 x0_50_2 a1_2 a4_2 hf H locs hP hD hS ls hl
      have hf : p_X11_startAnew_L2b F x0_5 a2 a3 (p_X11_startAnew_L2 F x0_5 a2 a3 n2) u2_1 x0_49_2 x0_50_2 a1_2 a4_2 = some (e_x0_49, e_x0_50, e_a1, e_a4) := hf
      refine lv_iload_n hx hb dX11_startAnew_2 rfl (lv_at hl 1 rfl) ?_
      refine lv_bipush (v := (121 : Int32)) hx hb dX11_startAnew_3 (by decide) ?_
      refine lv_icmp_ge (tgt := 34) hx hb dX11_startAnew_5 (by decide) (fun c7 => ?_) (fun c7 => ?_)
      · have hf := of_pos hf c7
        refine lv_iconst (v := (0 : Int32)) hx hb dX11_startAnew_34 (by decide) ?_
        refine lv_istore_n (lv' := [(1, .int (0 : Int32)), (0, .ref h0)]) hx hb dX11_startAnew_35 rfl hl (by decide) rfl (fun ls hl => ?_)
        exact kL36 _ _ _ _ _ _ hf _ _ hP hD hS _ (lv_sub hl [1, 0] rfl)
      · have hf := of_neg hf c7
        refine lv_aload_n hx hb dX11_startAnew_8 rfl (lv_at hl 0 rfl) ?_
        refine va_get (ci := 11) (v := .ref h1) (C := RX11) (T := TX11) (N := 51) hx hb ht0 iX11 hown hK hP 0 rfl rfl 0 (by decide) (ht0 _ wd_1406) (fun _ h9 => h9) rfl dX11_startAnew_9 ?_
        refine lv_iload_n hx hb dX11_startAnew_12 rfl (lv_at hl 1 rfl) ?_
        refine lv_aload_n hx hb dX11_startAnew_13 rfl (lv_at hl 0 rfl) ?_
        refine va_get (ci := 11) (v := .ref h3) (C := RX11) (T := TX11) (N := 51) hx hb ht0 iX11 hown hK hP 0 rfl rfl 4 (by decide) (ht0 _ wd_1410) (fun _ h9 => h9) rfl dX11_startAnew_14 ?_
        refine lv_bipush (v := (121 : Int32)) hx hb dX11_startAnew_17 (by decide) ?_
        refine lv_aload_n hx hb dX11_startAnew_19 rfl (lv_at hl 0 rfl) ?_
        refine va_get (ci := 11) (v := .int x0_5) (C := RX11) (T := TX11) (N := 51) hx hb ht0 iX11 hown hK hP 0 rfl rfl 5 (by decide) (ht0 _ wd_1411) (fun _ h9 => h9) rfl dX11_startAnew_20 ?_
        refine lv_imul hx hb dX11_startAnew_23 ?_
        refine lv_iload_n hx hb dX11_startAnew_24 rfl (lv_at hl 1 rfl) ?_
        refine lv_iadd hx hb dX11_startAnew_25 ?_
        obtain ⟨g8, hf⟩ := of_grd hf
        refine va_iald hx hb hK hP 3 0 rfl rfl g8 dX11_startAnew_26 ?_
        obtain ⟨g9, hf⟩ := of_grd hf
        refine va_iast hx hb hK hP hD hS 1 0 rfl rfl g9 dX11_startAnew_27 (fun H locs hP hD hS => ?_)
        have hP : va_P G.1 vwCl (wW_X11_startAnew G h0 h1 h2 h3 h4 y0_2 y0_3 y0_6 y0_18 y0_21 y0_22 y0_23 y0_24 y0_25 y0_26 y0_33 y0_34 y0_38 y0_39 y0_40 y0_41 y0_42 y0_43 y0_45 y0_46 y0_47 x0_5 x0_7 x0_8 x0_9 x0_10 x0_11 x0_12 x0_13 x0_14 x0_15 x0_16 x0_17 x0_19 x0_20 x0_27 x0_28 x0_29 x0_30 x0_31 x0_32 x0_35 x0_36 x0_37 x0_44 x0_49_2 x0_50_2 (upd a1_2 u2_1.toNatClampNeg (a3 (((121 : Int32) * x0_5) + u2_1).toNatClampNeg)) a2 a3 a4_2) H := hP
        have hD : va_D A (wW_X11_startAnew G h0 h1 h2 h3 h4 y0_2 y0_3 y0_6 y0_18 y0_21 y0_22 y0_23 y0_24 y0_25 y0_26 y0_33 y0_34 y0_38 y0_39 y0_40 y0_41 y0_42 y0_43 y0_45 y0_46 y0_47 x0_5 x0_7 x0_8 x0_9 x0_10 x0_11 x0_12 x0_13 x0_14 x0_15 x0_16 x0_17 x0_19 x0_20 x0_27 x0_28 x0_29 x0_30 x0_31 x0_32 x0_35 x0_36 x0_37 x0_44 x0_49_2 x0_50_2 (upd a1_2 u2_1.toNatClampNeg (a3 (((121 : Int32) * x0_5) + u2_1).toNatClampNeg)) a2 a3 a4_2) := hD
        refine lv_iinc (v := u2_1 + (1 : Int32)) (lv' := [(1, .int (u2_1 + (1 : Int32))), (0, .ref h0)]) hx hb dX11_startAnew_28 hl (k := 1) rfl (by rfl) (by decide) rfl (fun ls hl => ?_)
        refine lv_goto (tgt := 2) hx hb dX11_startAnew_31 (by decide) ?_
        exact ih2 _ _ _ _ _ hf _ _ hP hD hS _ (lv_sub hl [1, 0] rfl)
  refine lv_iconst (v := (0 : Int32)) hx hb dX11_startAnew_0 (by decide) ?_
  refine lv_istore_n (lv' := [(1, .int (0 : Int32)), (0, .ref h0)]) hx hb dX11_startAnew_1 rfl hl (by decide) rfl (fun ls hl => ?_)
  exact kL2 _ _ _ _ _ _ hf _ _ hP hD hS _ (lv_sub hl [1, 0] rfl)
theorem yk_X11_startAnew : ykV yX11_startAnew RX11 cX11_startAnew 2 none 0 := ⟨wd_1392, wd_66, wd_142, wd_1393, rfl, by decide +kernel, by decide +kernel, by decide +kernel⟩
theorem dX11_checksNow_0 : decode cX11_checksNow 0 = .ok (.aload_n 0, 1) := by decide +kernel
theorem dX11_checksNow_1 : decode cX11_checksNow 1 = .ok (.getfield 16, 3) := by decide +kernel
theorem dX11_checksNow_4 : decode cX11_checksNow 4 = .ok (.aload_n 0, 1) := by decide +kernel
theorem dX11_checksNow_5 : decode cX11_checksNow 5 = .ok (.getfield 211, 3) := by decide +kernel
theorem dX11_checksNow_8 : decode cX11_checksNow 8 = .ok (.iaload, 1) := by decide +kernel
theorem dX11_checksNow_9 : decode cX11_checksNow 9 = .ok (.ireturn, 1) := by decide +kernel
def wW_X11_checksNow (G : GG) (h0 h1 y0_0 y0_1 y0_3 y0_4 y0_6 y0_18 y0_21 y0_22 y0_23 y0_24 y0_25 y0_26 y0_33 y0_34 y0_38 y0_39 y0_40 y0_41 y0_42 y0_43 y0_45 y0_46 y0_47 y0_48 : Nat) (x0_5 : Int32) (x0_7 : Int32) (x0_8 : Int32) (x0_9 : Int32) (x0_10 : Int32) (x0_11 : Int32) (x0_12 : Int32) (x0_13 : Int32) (x0_14 : Int32) (x0_15 : Int32) (x0_16 : Int32) (x0_17 : Int32) (x0_19 : Int32) (x0_20 : Int32) (x0_27 : Int32) (x0_28 : Int32) (x0_29 : Int32) (x0_30 : Int32) (x0_31 : Int32) (x0_32 : Int32) (x0_35 : Int32) (x0_36 : Int32) (x0_37 : Int32) (x0_44 : Int32) (x0_49 : Int32) (x0_50 : Int32) (a1 : Nat → Int32) : va_W := [(h0, .inr (11, [.ref y0_0, .ref y0_1, .ref h1, .ref y0_3, .ref y0_4, .int x0_5, .ref y0_6, .int x0_7, .int x0_8, .int x0_9, .int x0_10, .int x0_11, .int x0_12, .int x0_13, .int x0_14, .int x0_15, .int x0_16, .int x0_17, .ref y0_18, .int x0_19, .int x0_20, .ref y0_21, .ref y0_22, .ref y0_23, .ref y0_24, .ref y0_25, .ref y0_26, .int x0_27, .int x0_28, .int x0_29, .int x0_30, .int x0_31, .int x0_32, .ref y0_33, .ref y0_34, .int x0_35, .int x0_36, .int x0_37, .ref y0_38, .ref y0_39, .ref y0_40, .ref y0_41, .ref y0_42, .ref y0_43, .int x0_44, .ref y0_45, .ref y0_46, .ref y0_47, .ref y0_48, .int x0_49, .int x0_50])), (h1, .inl (G.2.1, 2, .inl a1))]
set_option maxHeartbeats 4000000 in
set_option maxRecDepth 100000 in
theorem c_X11_checksNow (l : Launch) (G : GG) (h0 h1 y0_0 y0_1 y0_3 y0_4 y0_6 y0_18 y0_21 y0_22 y0_23 y0_24 y0_25 y0_26 y0_33 y0_34 y0_38 y0_39 y0_40 y0_41 y0_42 y0_43 y0_45 y0_46 y0_47 y0_48 : Nat) (sz : Nat) (x0_5 : Int32) (x0_7 : Int32) (x0_8 : Int32) (x0_9 : Int32) (x0_10 : Int32) (x0_11 : Int32) (x0_12 : Int32) (x0_13 : Int32) (x0_14 : Int32) (x0_15 : Int32) (x0_16 : Int32) (x0_17 : Int32) (x0_19 : Int32) (x0_20 : Int32) (x0_27 : Int32) (x0_28 : Int32) (x0_29 : Int32) (x0_30 : Int32) (x0_31 : Int32) (x0_32 : Int32) (x0_35 : Int32) (x0_36 : Int32) (x0_37 : Int32) (x0_44 : Int32) (x0_49 : Int32) (x0_50 : Int32) (a1 : Nat → Int32) (F : Nat)   (r0 : Int32) (hf : p_X11_checksNow F x0_5 a1  = some r0) : Met l yX11_checksNow (.code yX11_checksNow cX11_checksNow 1 (some .int) :: gtbl) ({ frames := 0, cells := 0, slots := 0, locals := 0 } : Room) (PcS G [.ref h0] (wW_X11_checksNow G h0 h1 y0_0 y0_1 y0_3 y0_4 y0_6 y0_18 y0_21 y0_22 y0_23 y0_24 y0_25 y0_26 y0_33 y0_34 y0_38 y0_39 y0_40 y0_41 y0_42 y0_43 y0_45 y0_46 y0_47 y0_48 x0_5 x0_7 x0_8 x0_9 x0_10 x0_11 x0_12 x0_13 x0_14 x0_15 x0_16 x0_17 x0_19 x0_20 x0_27 x0_28 x0_29 x0_30 x0_31 x0_32 x0_35 x0_36 x0_37 x0_44 x0_49 x0_50 a1) sz) (QiS G r0 (va_A (wW_X11_checksNow G h0 h1 y0_0 y0_1 y0_3 y0_4 y0_6 y0_18 y0_21 y0_22 y0_23 y0_24 y0_25 y0_26 y0_33 y0_34 y0_38 y0_39 y0_40 y0_41 y0_42 y0_43 y0_45 y0_46 y0_47 y0_48 x0_5 x0_7 x0_8 x0_9 x0_10 x0_11 x0_12 x0_13 x0_14 x0_15 x0_16 x0_17 x0_19 x0_20 x0_27 x0_28 x0_29 x0_30 x0_31 x0_32 x0_35 x0_36 x0_37 x0_44 x0_49 x0_50 a1) sz) (wW_X11_checksNow G h0 h1 y0_0 y0_1 y0_3 y0_4 y0_6 y0_18 y0_21 y0_22 y0_23 y0_24 y0_25 y0_26 y0_33 y0_34 y0_38 y0_39 y0_40 y0_41 y0_42 y0_43 y0_45 y0_46 y0_47 y0_48 x0_5 x0_7 x0_8 x0_9 x0_10 x0_11 x0_12 x0_13 x0_14 x0_15 x0_16 x0_17 x0_19 x0_20 x0_27 x0_28 x0_29 x0_30 x0_31 x0_32 x0_35 x0_36 x0_37 x0_44 x0_49 x0_50 a1)) 0 0 (va_A (wW_X11_checksNow G h0 h1 y0_0 y0_1 y0_3 y0_4 y0_6 y0_18 y0_21 y0_22 y0_23 y0_24 y0_25 y0_26 y0_33 y0_34 y0_38 y0_39 y0_40 y0_41 y0_42 y0_43 y0_45 y0_46 y0_47 y0_48 x0_5 x0_7 x0_8 x0_9 x0_10 x0_11 x0_12 x0_13 x0_14 x0_15 x0_16 x0_17 x0_19 x0_20 x0_27 x0_28 x0_29 x0_30 x0_31 x0_32 x0_35 x0_36 x0_37 x0_44 x0_49 x0_50 a1) sz) := by
  refine met_start (by decide) (Nat.le_of_ble_eq_true rfl) ?_
  intro p e s m below meth c hC hr hlk hnm hK hP hD hA hS hX ls hl
  obtain ⟨hx, hb, hml, hown, ht0⟩ := hC
  have hown : s.vm.findClass RX11 = some m.cls := hown
  generalize va_A (wW_X11_checksNow G h0 h1 y0_0 y0_1 y0_3 y0_4 y0_6 y0_18 y0_21 y0_22 y0_23 y0_24 y0_25 y0_26 y0_33 y0_34 y0_38 y0_39 y0_40 y0_41 y0_42 y0_43 y0_45 y0_46 y0_47 y0_48 x0_5 x0_7 x0_8 x0_9 x0_10 x0_11 x0_12 x0_13 x0_14 x0_15 x0_16 x0_17 x0_19 x0_20 x0_27 x0_28 x0_29 x0_30 x0_31 x0_32 x0_35 x0_36 x0_37 x0_44 x0_49 x0_50 a1) sz = A at hD hA hS hX ⊢
  have hl : lv_has ls 1 [(0, .ref h0)] := hl
  have hf : p_X11_checksNow F x0_5 a1  = some r0 := hf
  refine lv_aload_n hx hb dX11_checksNow_0 rfl (lv_at hl 0 rfl) ?_
  refine va_get (ci := 11) (v := .ref h1) (C := RX11) (T := TX11) (N := 51) hx hb ht0 iX11 hown hK hP 0 rfl rfl 2 (by decide) (ht0 _ wd_1408) (fun _ h9 => h9) rfl dX11_checksNow_1 ?_
  refine lv_aload_n hx hb dX11_checksNow_4 rfl (lv_at hl 0 rfl) ?_
  refine va_get (ci := 11) (v := .int x0_5) (C := RX11) (T := TX11) (N := 51) hx hb ht0 iX11 hown hK hP 0 rfl rfl 5 (by decide) (ht0 _ wd_1411) (fun _ h9 => h9) rfl dX11_checksNow_5 ?_
  obtain ⟨g1, hf⟩ := of_grd hf
  refine va_iald hx hb hK hP 1 0 rfl rfl g1 dX11_checksNow_8 ?_
  cases hf
  exact ret_i hx hb hr hlk hK hP hD hS dX11_checksNow_9
theorem yk_X11_checksNow : ykV yX11_checksNow RX11 cX11_checksNow 1 (some .int) 0 := ⟨wd_1578, wd_71, wd_142, wd_1579, rfl, by decide +kernel, by decide +kernel, by decide +kernel⟩
theorem dX11_places_0 : decode cX11_places 0 = .ok (.aload_n 0, 1) := by decide +kernel
theorem dX11_places_1 : decode cX11_places 1 = .ok (.invokevirtual 221, 3) := by decide +kernel
theorem dX11_places_4 : decode cX11_places 4 = .ok (.aload_n 0, 1) := by decide +kernel
theorem dX11_places_5 : decode cX11_places 5 = .ok (.invokevirtual 224, 3) := by decide +kernel
theorem dX11_places_8 : decode cX11_places 8 = .ok (.iadd, 1) := by decide +kernel
theorem dX11_places_9 : decode cX11_places 9 = .ok (.ireturn, 1) := by decide +kernel
def wW_X11_places (G : GG) (h0 h1 h2 y0_0 y0_3 y0_4 y0_6 y0_18 y0_21 y0_22 y0_23 y0_24 y0_25 y0_26 y0_33 y0_34 y0_38 y0_39 y0_40 y0_41 y0_42 y0_43 y0_45 y0_46 y0_47 y0_48 : Nat) (x0_5 : Int32) (x0_7 : Int32) (x0_8 : Int32) (x0_9 : Int32) (x0_10 : Int32) (x0_11 : Int32) (x0_12 : Int32) (x0_13 : Int32) (x0_14 : Int32) (x0_15 : Int32) (x0_16 : Int32) (x0_17 : Int32) (x0_19 : Int32) (x0_20 : Int32) (x0_27 : Int32) (x0_28 : Int32) (x0_29 : Int32) (x0_30 : Int32) (x0_31 : Int32) (x0_32 : Int32) (x0_35 : Int32) (x0_36 : Int32) (x0_37 : Int32) (x0_44 : Int32) (x0_49 : Int32) (x0_50 : Int32) (a1 : Nat → Int32) (a2 : Nat → Int32) : va_W := [(h0, .inr (11, [.ref y0_0, .ref h1, .ref h2, .ref y0_3, .ref y0_4, .int x0_5, .ref y0_6, .int x0_7, .int x0_8, .int x0_9, .int x0_10, .int x0_11, .int x0_12, .int x0_13, .int x0_14, .int x0_15, .int x0_16, .int x0_17, .ref y0_18, .int x0_19, .int x0_20, .ref y0_21, .ref y0_22, .ref y0_23, .ref y0_24, .ref y0_25, .ref y0_26, .int x0_27, .int x0_28, .int x0_29, .int x0_30, .int x0_31, .int x0_32, .ref y0_33, .ref y0_34, .int x0_35, .int x0_36, .int x0_37, .ref y0_38, .ref y0_39, .ref y0_40, .ref y0_41, .ref y0_42, .ref y0_43, .int x0_44, .ref y0_45, .ref y0_46, .ref y0_47, .ref y0_48, .int x0_49, .int x0_50])), (h1, .inl (G.2.1, 2, .inl a1)), (h2, .inl (G.2.1, 2, .inl a2))]
set_option maxHeartbeats 4000000 in
set_option maxRecDepth 100000 in
theorem c_X11_places (l : Launch) (G : GG) (h0 h1 h2 y0_0 y0_3 y0_4 y0_6 y0_18 y0_21 y0_22 y0_23 y0_24 y0_25 y0_26 y0_33 y0_34 y0_38 y0_39 y0_40 y0_41 y0_42 y0_43 y0_45 y0_46 y0_47 y0_48 : Nat) (sz : Nat) (x0_5 : Int32) (x0_7 : Int32) (x0_8 : Int32) (x0_9 : Int32) (x0_10 : Int32) (x0_11 : Int32) (x0_12 : Int32) (x0_13 : Int32) (x0_14 : Int32) (x0_15 : Int32) (x0_16 : Int32) (x0_17 : Int32) (x0_19 : Int32) (x0_20 : Int32) (x0_27 : Int32) (x0_28 : Int32) (x0_29 : Int32) (x0_30 : Int32) (x0_31 : Int32) (x0_32 : Int32) (x0_35 : Int32) (x0_36 : Int32) (x0_37 : Int32) (x0_44 : Int32) (x0_49 : Int32) (x0_50 : Int32) (a1 : Nat → Int32) (a2 : Nat → Int32) (F : Nat)   (r0 : Int32) (hf : p_X11_places F x0_5 a1 a2  = some r0) : Met l yX11_places (.code yX11_places cX11_places 1 (some .int) :: gtbl) ({ frames := 1, cells := 0, slots := 0, locals := 20 } : Room) (PcS G [.ref h0] (wW_X11_places G h0 h1 h2 y0_0 y0_3 y0_4 y0_6 y0_18 y0_21 y0_22 y0_23 y0_24 y0_25 y0_26 y0_33 y0_34 y0_38 y0_39 y0_40 y0_41 y0_42 y0_43 y0_45 y0_46 y0_47 y0_48 x0_5 x0_7 x0_8 x0_9 x0_10 x0_11 x0_12 x0_13 x0_14 x0_15 x0_16 x0_17 x0_19 x0_20 x0_27 x0_28 x0_29 x0_30 x0_31 x0_32 x0_35 x0_36 x0_37 x0_44 x0_49 x0_50 a1 a2) sz) (QiS G r0 (va_A (wW_X11_places G h0 h1 h2 y0_0 y0_3 y0_4 y0_6 y0_18 y0_21 y0_22 y0_23 y0_24 y0_25 y0_26 y0_33 y0_34 y0_38 y0_39 y0_40 y0_41 y0_42 y0_43 y0_45 y0_46 y0_47 y0_48 x0_5 x0_7 x0_8 x0_9 x0_10 x0_11 x0_12 x0_13 x0_14 x0_15 x0_16 x0_17 x0_19 x0_20 x0_27 x0_28 x0_29 x0_30 x0_31 x0_32 x0_35 x0_36 x0_37 x0_44 x0_49 x0_50 a1 a2) sz) (wW_X11_places G h0 h1 h2 y0_0 y0_3 y0_4 y0_6 y0_18 y0_21 y0_22 y0_23 y0_24 y0_25 y0_26 y0_33 y0_34 y0_38 y0_39 y0_40 y0_41 y0_42 y0_43 y0_45 y0_46 y0_47 y0_48 x0_5 x0_7 x0_8 x0_9 x0_10 x0_11 x0_12 x0_13 x0_14 x0_15 x0_16 x0_17 x0_19 x0_20 x0_27 x0_28 x0_29 x0_30 x0_31 x0_32 x0_35 x0_36 x0_37 x0_44 x0_49 x0_50 a1 a2)) 0 0 (va_A (wW_X11_places G h0 h1 h2 y0_0 y0_3 y0_4 y0_6 y0_18 y0_21 y0_22 y0_23 y0_24 y0_25 y0_26 y0_33 y0_34 y0_38 y0_39 y0_40 y0_41 y0_42 y0_43 y0_45 y0_46 y0_47 y0_48 x0_5 x0_7 x0_8 x0_9 x0_10 x0_11 x0_12 x0_13 x0_14 x0_15 x0_16 x0_17 x0_19 x0_20 x0_27 x0_28 x0_29 x0_30 x0_31 x0_32 x0_35 x0_36 x0_37 x0_44 x0_49 x0_50 a1 a2) sz) := by
  refine met_start (by decide) (Nat.le_of_ble_eq_true rfl) ?_
  intro p e s m below meth c hC hr hlk hnm hK hP hD hA hS hX ls hl
  obtain ⟨hx, hb, hml, hown, ht0⟩ := hC
  have hown : s.vm.findClass RX11 = some m.cls := hown
  generalize va_A (wW_X11_places G h0 h1 h2 y0_0 y0_3 y0_4 y0_6 y0_18 y0_21 y0_22 y0_23 y0_24 y0_25 y0_26 y0_33 y0_34 y0_38 y0_39 y0_40 y0_41 y0_42 y0_43 y0_45 y0_46 y0_47 y0_48 x0_5 x0_7 x0_8 x0_9 x0_10 x0_11 x0_12 x0_13 x0_14 x0_15 x0_16 x0_17 x0_19 x0_20 x0_27 x0_28 x0_29 x0_30 x0_31 x0_32 x0_35 x0_36 x0_37 x0_44 x0_49 x0_50 a1 a2) sz = A at hD hA hS hX ⊢
  have hl : lv_has ls 1 [(0, .ref h0)] := hl
  have hf : p_X11_places F x0_5 a1 a2  = some r0 := hf
  refine lv_aload_n hx hb dX11_places_0 rfl (lv_at hl 0 rfl) ?_
  obtain ⟨r_1_0, hc_r_1_0, hf⟩ := of_bnd hf
  refine cl_Vi (w2 := (wW_X11_places G h0 h1 h2 y0_0 y0_3 y0_4 y0_6 y0_18 y0_21 y0_22 y0_23 y0_24 y0_25 y0_26 y0_33 y0_34 y0_38 y0_39 y0_40 y0_41 y0_42 y0_43 y0_45 y0_46 y0_47 y0_48 x0_5 x0_7 x0_8 x0_9 x0_10 x0_11 x0_12 x0_13 x0_14 x0_15 x0_16 x0_17 x0_19 x0_20 x0_27 x0_28 x0_29 x0_30 x0_31 x0_32 x0_35 x0_36 x0_37 x0_44 x0_49 x0_50 a1 a2)) (As := []) (rest := []) ⟨hx, hb, hml, hown, ht0⟩ (c_X11_dataNow l G h0 h1 y0_0 h2 y0_3 y0_4 y0_6 y0_18 y0_21 y0_22 y0_23 y0_24 y0_25 y0_26 y0_33 y0_34 y0_38 y0_39 y0_40 y0_41 y0_42 y0_43 y0_45 y0_46 y0_47 y0_48 _ x0_5 x0_7 x0_8 x0_9 x0_10 x0_11 x0_12 x0_13 x0_14 x0_15 x0_16 x0_17 x0_19 x0_20 x0_27 x0_28 x0_29 x0_30 x0_31 x0_32 x0_35 x0_36 x0_37 x0_44 x0_49 x0_50 a1 F _ hc_r_1_0) yk_X11_dataNow wd_1398 ⟨rfl, rfl, by decide, by decide⟩ ⟨Nat.le_refl _, Nat.le_refl _⟩ hX hK hP hD hS hA [0, 1] [2] [1, 2, 0] (va_recv hK hP (ci := 11) (q0 := 0) rfl rfl) rfl rfl (by decide) rfl rfl rfl rfl rfl hl.1 rfl (Nat.le_of_ble_eq_true rfl) dX11_places_1 (fun H locs hP hD hS => ?_)
  refine lv_aload_n hx hb dX11_places_4 rfl (lv_at hl 0 rfl) ?_
  obtain ⟨r_5_1, hc_r_5_1, hf⟩ := of_bnd hf
  refine cl_Vi (w2 := (wW_X11_places G h0 h1 h2 y0_0 y0_3 y0_4 y0_6 y0_18 y0_21 y0_22 y0_23 y0_24 y0_25 y0_26 y0_33 y0_34 y0_38 y0_39 y0_40 y0_41 y0_42 y0_43 y0_45 y0_46 y0_47 y0_48 x0_5 x0_7 x0_8 x0_9 x0_10 x0_11 x0_12 x0_13 x0_14 x0_15 x0_16 x0_17 x0_19 x0_20 x0_27 x0_28 x0_29 x0_30 x0_31 x0_32 x0_35 x0_36 x0_37 x0_44 x0_49 x0_50 a1 a2)) (As := []) (rest := [.int r_1_0]) ⟨hx, hb, hml, hown, ht0⟩ (c_X11_checksNow l G h0 h2 y0_0 h1 y0_3 y0_4 y0_6 y0_18 y0_21 y0_22 y0_23 y0_24 y0_25 y0_26 y0_33 y0_34 y0_38 y0_39 y0_40 y0_41 y0_42 y0_43 y0_45 y0_46 y0_47 y0_48 _ x0_5 x0_7 x0_8 x0_9 x0_10 x0_11 x0_12 x0_13 x0_14 x0_15 x0_16 x0_17 x0_19 x0_20 x0_27 x0_28 x0_29 x0_30 x0_31 x0_32 x0_35 x0_36 x0_37 x0_44 x0_49 x0_50 a2 F _ hc_r_5_1) yk_X11_checksNow wd_1576 ⟨rfl, rfl, by decide, by decide⟩ ⟨Nat.le_refl _, Nat.le_refl _⟩ hX hK hP hD hS hA [0, 2] [1] [1, 0, 2] (va_recv hK hP (ci := 11) (q0 := 0) rfl rfl) rfl rfl (by decide) rfl rfl rfl rfl rfl hl.1 rfl (Nat.le_of_ble_eq_true rfl) dX11_places_5 (fun H locs hP hD hS => ?_)
  refine lv_iadd hx hb dX11_places_8 ?_
  cases hf
  exact ret_i hx hb hr hlk hK hP hD hS dX11_places_9
theorem yk_X11_places : ykV yX11_places RX11 cX11_places 1 (some .int) 0 := ⟨wd_1574, wd_70, wd_142, wd_1575, rfl, by decide +kernel, by decide +kernel, by decide +kernel⟩
theorem dX11_code_0 : decode cX11_code 0 = .ok (.iconst 1, 1) := by decide +kernel
theorem dX11_code_1 : decode cX11_code 1 = .ok (.aload_n 0, 1) := by decide +kernel
theorem dX11_code_2 : decode cX11_code 2 = .ok (.getfield 211, 3) := by decide +kernel
theorem dX11_code_5 : decode cX11_code 5 = .ok (.isub, 1) := by decide +kernel
theorem dX11_code_6 : decode cX11_code 6 = .ok (.istore_n 1, 1) := by decide +kernel
theorem dX11_code_7 : decode cX11_code 7 = .ok (.aload_n 0, 1) := by decide +kernel
theorem dX11_code_8 : decode cX11_code 8 = .ok (.aload_n 0, 1) := by decide +kernel
theorem dX11_code_9 : decode cX11_code 9 = .ok (.getfield 117, 3) := by decide +kernel
theorem dX11_code_12 : decode cX11_code 12 = .ok (.putfield 95, 3) := by decide +kernel
theorem dX11_code_15 : decode cX11_code 15 = .ok (.aload_n 0, 1) := by decide +kernel
theorem dX11_code_16 : decode cX11_code 16 = .ok (.iconst 0, 1) := by decide +kernel
theorem dX11_code_17 : decode cX11_code 17 = .ok (.putfield 117, 3) := by decide +kernel
theorem dX11_code_20 : decode cX11_code 20 = .ok (.aload_n 0, 1) := by decide +kernel
theorem dX11_code_21 : decode cX11_code 21 = .ok (.iload_n 1, 1) := by decide +kernel
theorem dX11_code_22 : decode cX11_code 22 = .ok (.invokevirtual 91, 3) := by decide +kernel
theorem dX11_code_25 : decode cX11_code 25 = .ok (.aload_n 0, 1) := by decide +kernel
theorem dX11_code_26 : decode cX11_code 26 = .ok (.iload_n 1, 1) := by decide +kernel
theorem dX11_code_27 : decode cX11_code 27 = .ok (.invokevirtual 98, 3) := by decide +kernel
theorem dX11_code_30 : decode cX11_code 30 = .ok (.aload_n 0, 1) := by decide +kernel
theorem dX11_code_31 : decode cX11_code 31 = .ok (.aload_n 0, 1) := by decide +kernel
theorem dX11_code_32 : decode cX11_code 32 = .ok (.getfield 111, 3) := by decide +kernel
theorem dX11_code_35 : decode cX11_code 35 = .ok (.putfield 214, 3) := by decide +kernel
theorem dX11_code_38 : decode cX11_code 38 = .ok (.aload_n 0, 1) := by decide +kernel
theorem dX11_code_39 : decode cX11_code 39 = .ok (.aload_n 0, 1) := by decide +kernel
theorem dX11_code_40 : decode cX11_code 40 = .ok (.getfield 114, 3) := by decide +kernel
theorem dX11_code_43 : decode cX11_code 43 = .ok (.putfield 29, 3) := by decide +kernel
theorem dX11_code_46 : decode cX11_code 46 = .ok (.aload_n 0, 1) := by decide +kernel
theorem dX11_code_47 : decode cX11_code 47 = .ok (.getfield 214, 3) := by decide +kernel
theorem dX11_code_50 : decode cX11_code 50 = .ok (.ifCond .le 5, 3) := by decide +kernel
theorem dX11_code_53 : decode cX11_code 53 = .ok (.iconst (-1), 1) := by decide +kernel
theorem dX11_code_54 : decode cX11_code 54 = .ok (.ireturn, 1) := by decide +kernel
theorem dX11_code_55 : decode cX11_code 55 = .ok (.aload_n 0, 1) := by decide +kernel
theorem dX11_code_56 : decode cX11_code 56 = .ok (.iload_n 1, 1) := by decide +kernel
theorem dX11_code_57 : decode cX11_code 57 = .ok (.putfield 211, 3) := by decide +kernel
theorem dX11_code_60 : decode cX11_code 60 = .ok (.aload_n 0, 1) := by decide +kernel
theorem dX11_code_61 : decode cX11_code 61 = .ok (.invokevirtual 101, 3) := by decide +kernel
theorem dX11_code_64 : decode cX11_code 64 = .ok (.aload_n 0, 1) := by decide +kernel
theorem dX11_code_65 : decode cX11_code 65 = .ok (.invokevirtual 217, 3) := by decide +kernel
theorem dX11_code_68 : decode cX11_code 68 = .ok (.ireturn, 1) := by decide +kernel
def wW_X11_code (G : GG) (h0 h1 h2 h3 h4 h5 h6 h7 h8 h9 h10 h11 h12 h13 h14 y0_33 y0_34 y0_38 y0_39 y0_40 y0_41 y0_42 y0_43 y0_45 y0_46 y0_47 : Nat) (x0_5 : Int32) (x0_7 : Int32) (x0_8 : Int32) (x0_9 : Int32) (x0_10 : Int32) (x0_11 : Int32) (x0_12 : Int32) (x0_13 : Int32) (x0_14 : Int32) (x0_15 : Int32) (x0_16 : Int32) (x0_17 : Int32) (x0_19 : Int32) (x0_20 : Int32) (x0_27 : Int32) (x0_28 : Int32) (x0_29 : Int32) (x0_30 : Int32) (x0_31 : Int32) (x0_32 : Int32) (x0_35 : Int32) (x0_36 : Int32) (x0_37 : Int32) (x0_44 : Int32) (x0_49 : Int32) (x0_50 : Int32) (a1 : Nat → Int32) (a2 : Nat → Int32) (a3 : Nat → Int32) (a4 : Nat → Int32) (a5 : Nat → Int32) (a6 : Nat → Int32) (a7 : Nat → Int32) (a8 : Nat → Int32) (a9 : Nat → Int32) (a10 : Nat → Int32) (a11 : Nat → Int32) (a12 : Nat → Int32) (a13 : Nat → Int32) (a14 : Nat → Int32) : va_W := [(h0, .inr (11, [.ref h1, .ref h2, .ref h3, .ref h4, .ref h5, .int x0_5, .ref h6, .int x0_7, .int x0_8, .int x0_9, .int x0_10, .int x0_11, .int x0_12, .int x0_13, .int x0_14, .int x0_15, .int x0_16, .int x0_17, .ref h7, .int x0_19, .int x0_20, .ref h8, .ref h9, .ref h10, .ref h11, .ref h12, .ref h13, .int x0_27, .int x0_28, .int x0_29, .int x0_30, .int x0_31, .int x0_32, .ref y0_33, .ref y0_34, .int x0_35, .int x0_36, .int x0_37, .ref y0_38, .ref y0_39, .ref y0_40, .ref y0_41, .ref y0_42, .ref y0_43, .int x0_44, .ref y0_45, .ref y0_46, .ref y0_47, .ref h14, .int x0_49, .int x0_50])), (h1, .inl (G.2.1, 121, .inl a1)), (h2, .inl (G.2.1, 2, .inl a2)), (h3, .inl (G.2.1, 2, .inl a3)), (h4, .inl (G.2.1, 2, .inl a4)), (h5, .inl (G.2.1, 242, .inl a5)), (h6, .inl (G.2.2.2.1, 600, .inl a6)), (h7, .inl (G.2.2.2.1, 56, .inl a7)), (h8, .inl (G.2.1, 128, .inl a8)), (h9, .inl (G.2.1, 32, .inl a9)), (h10, .inl (G.2.1, 32, .inl a10)), (h11, .inl (G.2.1, 8, .inl a11)), (h12, .inl (G.2.2.1, 256, .inl a12)), (h13, .inl (G.2.2.1, 256, .inl a13)), (h14, .inl (G.2.2.1, 2, .inl a14))]
set_option maxHeartbeats 4000000 in
set_option maxRecDepth 100000 in
theorem c_X11_code (l : Launch) (G : GG) (h0 h1 h2 h3 h4 h5 h6 h7 h8 h9 h10 h11 h12 h13 h14 y0_33 y0_34 y0_38 y0_39 y0_40 y0_41 y0_42 y0_43 y0_45 y0_46 y0_47 : Nat) (sz : Nat) (x0_5 : Int32) (x0_7 : Int32) (x0_8 : Int32) (x0_9 : Int32) (x0_10 : Int32) (x0_11 : Int32) (x0_12 : Int32) (x0_13 : Int32) (x0_14 : Int32) (x0_15 : Int32) (x0_16 : Int32) (x0_17 : Int32) (x0_19 : Int32) (x0_20 : Int32) (x0_27 : Int32) (x0_28 : Int32) (x0_29 : Int32) (x0_30 : Int32) (x0_31 : Int32) (x0_32 : Int32) (x0_35 : Int32) (x0_36 : Int32) (x0_37 : Int32) (x0_44 : Int32) (x0_49 : Int32) (x0_50 : Int32) (a1 : Nat → Int32) (a2 : Nat → Int32) (a3 : Nat → Int32) (a4 : Nat → Int32) (a5 : Nat → Int32) (a6 : Nat → Int32) (a7 : Nat → Int32) (a8 : Nat → Int32) (a9 : Nat → Int32) (a10 : Nat → Int32) (a11 : Nat → Int32) (a12 : Nat → Int32) (a13 : Nat → Int32) (a14 : Nat → Int32) (F : Nat)   (r0 : Int32) (e_x0_5 : Int32) (e_x0_7 : Int32) (e_x0_8 : Int32) (e_x0_9 : Int32) (e_x0_10 : Int32) (e_x0_11 : Int32) (e_x0_12 : Int32) (e_x0_13 : Int32) (e_x0_14 : Int32) (e_x0_15 : Int32) (e_x0_16 : Int32) (e_x0_17 : Int32) (e_x0_19 : Int32) (e_x0_20 : Int32) (e_x0_27 : Int32) (e_x0_28 : Int32) (e_x0_49 : Int32) (e_x0_50 : Int32) (e_a1 : Nat → Int32) (e_a2 : Nat → Int32) (e_a3 : Nat → Int32) (e_a4 : Nat → Int32) (e_a5 : Nat → Int32) (e_a8 : Nat → Int32) (e_a9 : Nat → Int32) (e_a10 : Nat → Int32) (e_a11 : Nat → Int32) (e_a12 : Nat → Int32) (e_a13 : Nat → Int32) (e_a14 : Nat → Int32) (hf : p_X11_code F x0_5 x0_7 x0_8 x0_9 x0_10 x0_11 x0_12 x0_13 x0_14 x0_15 x0_16 x0_17 x0_19 x0_20 x0_27 x0_28 x0_49 x0_50 a1 a2 a3 a4 a5 a6 a7 a8 a9 a10 a11 a12 a13 a14  = some (r0, e_x0_5, e_x0_7, e_x0_8, e_x0_9, e_x0_10, e_x0_11, e_x0_12, e_x0_13, e_x0_14, e_x0_15, e_x0_16, e_x0_17, e_x0_19, e_x0_20, e_x0_27, e_x0_28, e_x0_49, e_x0_50, e_a1, e_a2, e_a3, e_a4, e_a5, e_a8, e_a9, e_a10, e_a11, e_a12, e_a13, e_a14)) : Met l yX11_code (.code yX11_code cX11_code 2 (some .int) :: gtbl) ({ frames := 7, cells := 0, slots := 0, locals := 161 } : Room) (PcS G [.ref h0] (wW_X11_code G h0 h1 h2 h3 h4 h5 h6 h7 h8 h9 h10 h11 h12 h13 h14 y0_33 y0_34 y0_38 y0_39 y0_40 y0_41 y0_42 y0_43 y0_45 y0_46 y0_47 x0_5 x0_7 x0_8 x0_9 x0_10 x0_11 x0_12 x0_13 x0_14 x0_15 x0_16 x0_17 x0_19 x0_20 x0_27 x0_28 x0_29 x0_30 x0_31 x0_32 x0_35 x0_36 x0_37 x0_44 x0_49 x0_50 a1 a2 a3 a4 a5 a6 a7 a8 a9 a10 a11 a12 a13 a14) sz) (QiS G r0 (va_A (wW_X11_code G h0 h1 h2 h3 h4 h5 h6 h7 h8 h9 h10 h11 h12 h13 h14 y0_33 y0_34 y0_38 y0_39 y0_40 y0_41 y0_42 y0_43 y0_45 y0_46 y0_47 x0_5 x0_7 x0_8 x0_9 x0_10 x0_11 x0_12 x0_13 x0_14 x0_15 x0_16 x0_17 x0_19 x0_20 x0_27 x0_28 x0_29 x0_30 x0_31 x0_32 x0_35 x0_36 x0_37 x0_44 x0_49 x0_50 a1 a2 a3 a4 a5 a6 a7 a8 a9 a10 a11 a12 a13 a14) sz) (wW_X11_code G h0 h1 h2 h3 h4 h5 h6 h7 h8 h9 h10 h11 h12 h13 h14 y0_33 y0_34 y0_38 y0_39 y0_40 y0_41 y0_42 y0_43 y0_45 y0_46 y0_47 e_x0_5 e_x0_7 e_x0_8 e_x0_9 e_x0_10 e_x0_11 e_x0_12 e_x0_13 e_x0_14 e_x0_15 e_x0_16 e_x0_17 e_x0_19 e_x0_20 e_x0_27 e_x0_28 x0_29 x0_30 x0_31 x0_32 x0_35 x0_36 x0_37 x0_44 e_x0_49 e_x0_50 e_a1 e_a2 e_a3 e_a4 e_a5 a6 a7 e_a8 e_a9 e_a10 e_a11 e_a12 e_a13 e_a14)) 0 0 (va_A (wW_X11_code G h0 h1 h2 h3 h4 h5 h6 h7 h8 h9 h10 h11 h12 h13 h14 y0_33 y0_34 y0_38 y0_39 y0_40 y0_41 y0_42 y0_43 y0_45 y0_46 y0_47 x0_5 x0_7 x0_8 x0_9 x0_10 x0_11 x0_12 x0_13 x0_14 x0_15 x0_16 x0_17 x0_19 x0_20 x0_27 x0_28 x0_29 x0_30 x0_31 x0_32 x0_35 x0_36 x0_37 x0_44 x0_49 x0_50 a1 a2 a3 a4 a5 a6 a7 a8 a9 a10 a11 a12 a13 a14) sz) := by
  refine met_start (by decide) (Nat.le_of_ble_eq_true rfl) ?_
  intro p e s m below meth c hC hr hlk hnm hK hP hD hA hS hX ls hl
  obtain ⟨hx, hb, hml, hown, ht0⟩ := hC
  have hown : s.vm.findClass RX11 = some m.cls := hown
  generalize va_A (wW_X11_code G h0 h1 h2 h3 h4 h5 h6 h7 h8 h9 h10 h11 h12 h13 h14 y0_33 y0_34 y0_38 y0_39 y0_40 y0_41 y0_42 y0_43 y0_45 y0_46 y0_47 x0_5 x0_7 x0_8 x0_9 x0_10 x0_11 x0_12 x0_13 x0_14 x0_15 x0_16 x0_17 x0_19 x0_20 x0_27 x0_28 x0_29 x0_30 x0_31 x0_32 x0_35 x0_36 x0_37 x0_44 x0_49 x0_50 a1 a2 a3 a4 a5 a6 a7 a8 a9 a10 a11 a12 a13 a14) sz = A at hD hA hS hX ⊢
  have hl : lv_has ls 2 [(0, .ref h0)] := hl
  have hf : p_X11_code F x0_5 x0_7 x0_8 x0_9 x0_10 x0_11 x0_12 x0_13 x0_14 x0_15 x0_16 x0_17 x0_19 x0_20 x0_27 x0_28 x0_49 x0_50 a1 a2 a3 a4 a5 a6 a7 a8 a9 a10 a11 a12 a13 a14  = some (r0, e_x0_5, e_x0_7, e_x0_8, e_x0_9, e_x0_10, e_x0_11, e_x0_12, e_x0_13, e_x0_14, e_x0_15, e_x0_16, e_x0_17, e_x0_19, e_x0_20, e_x0_27, e_x0_28, e_x0_49, e_x0_50, e_a1, e_a2, e_a3, e_a4, e_a5, e_a8, e_a9, e_a10, e_a11, e_a12, e_a13, e_a14) := hf
  refine lv_iconst (v := (1 : Int32)) hx hb dX11_code_0 (by decide) ?_
  refine lv_aload_n hx hb dX11_code_1 rfl (lv_at hl 0 rfl) ?_
  refine va_get (ci := 11) (v := .int x0_5) (C := RX11) (T := TX11) (N := 51) hx hb ht0 iX11 hown hK hP 0 rfl rfl 5 (by decide) (ht0 _ wd_1411) (fun _ h9 => h9) rfl dX11_code_2 ?_
  refine lv_isub hx hb dX11_code_5 ?_
  refine lv_istore_n (lv' := [(1, .int ((1 : Int32) - x0_5)), (0, .ref h0)]) hx hb dX11_code_6 rfl hl (by decide) rfl (fun ls hl => ?_)
  refine lv_aload_n hx hb dX11_code_7 rfl (lv_at hl 1 rfl) ?_
  refine lv_aload_n hx hb dX11_code_8 rfl (lv_at hl 1 rfl) ?_
  refine va_get (ci := 11) (v := .int x0_7) (C := RX11) (T := TX11) (N := 51) hx hb ht0 iX11 hown hK hP 0 rfl rfl 7 (by decide) (ht0 _ wd_1413) (fun _ h9 => h9) rfl dX11_code_9 ?_
  refine va_put (ci := 11) (v := .int x0_7) (ty := .int) (C := RX11) (T := TX11) (N := 51) hx hb ht0 iX11 tyX11 tyX11_ok nmX11 hown hK hP hD hS 0 rfl rfl 8 (by decide) (ht0 _ wd_1414) (fun _ h9 => h9) rfl rfl rfl rfl (Nat.le_of_ble_eq_true rfl) dX11_code_12 (fun H locs hP hD hS => ?_)
  have hP : va_P G.1 vwCl (wW_X11_code G h0 h1 h2 h3 h4 h5 h6 h7 h8 h9 h10 h11 h12 h13 h14 y0_33 y0_34 y0_38 y0_39 y0_40 y0_41 y0_42 y0_43 y0_45 y0_46 y0_47 x0_5 x0_7 x0_7 x0_9 x0_10 x0_11 x0_12 x0_13 x0_14 x0_15 x0_16 x0_17 x0_19 x0_20 x0_27 x0_28 x0_29 x0_30 x0_31 x0_32 x0_35 x0_36 x0_37 x0_44 x0_49 x0_50 a1 a2 a3 a4 a5 a6 a7 a8 a9 a10 a11 a12 a13 a14) H := hP
  have hD : va_D A (wW_X11_code G h0 h1 h2 h3 h4 h5 h6 h7 h8 h9 h10 h11 h12 h13 h14 y0_33 y0_34 y0_38 y0_39 y0_40 y0_41 y0_42 y0_43 y0_45 y0_46 y0_47 x0_5 x0_7 x0_7 x0_9 x0_10 x0_11 x0_12 x0_13 x0_14 x0_15 x0_16 x0_17 x0_19 x0_20 x0_27 x0_28 x0_29 x0_30 x0_31 x0_32 x0_35 x0_36 x0_37 x0_44 x0_49 x0_50 a1 a2 a3 a4 a5 a6 a7 a8 a9 a10 a11 a12 a13 a14) := hD
  refine lv_aload_n hx hb dX11_code_15 rfl (lv_at hl 1 rfl) ?_
  refine lv_iconst (v := (0 : Int32)) hx hb dX11_code_16 (by decide) ?_
  refine va_put (ci := 11) (v := .int (0 : Int32)) (ty := .int) (C := RX11) (T := TX11) (N := 51) hx hb ht0 iX11 tyX11 tyX11_ok nmX11 hown hK hP hD hS 0 rfl rfl 7 (by decide) (ht0 _ wd_1413) (fun _ h9 => h9) rfl rfl rfl rfl (Nat.le_of_ble_eq_true rfl) dX11_code_17 (fun H locs hP hD hS => ?_)
  have hP : va_P G.1 vwCl (wW_X11_code G h0 h1 h2 h3 h4 h5 h6 h7 h8 h9 h10 h11 h12 h13 h14 y0_33 y0_34 y0_38 y0_39 y0_40 y0_41 y0_42 y0_43 y0_45 y0_46 y0_47 x0_5 (0 : Int32) x0_7 x0_9 x0_10 x0_11 x0_12 x0_13 x0_14 x0_15 x0_16 x0_17 x0_19 x0_20 x0_27 x0_28 x0_29 x0_30 x0_31 x0_32 x0_35 x0_36 x0_37 x0_44 x0_49 x0_50 a1 a2 a3 a4 a5 a6 a7 a8 a9 a10 a11 a12 a13 a14) H := hP
  have hD : va_D A (wW_X11_code G h0 h1 h2 h3 h4 h5 h6 h7 h8 h9 h10 h11 h12 h13 h14 y0_33 y0_34 y0_38 y0_39 y0_40 y0_41 y0_42 y0_43 y0_45 y0_46 y0_47 x0_5 (0 : Int32) x0_7 x0_9 x0_10 x0_11 x0_12 x0_13 x0_14 x0_15 x0_16 x0_17 x0_19 x0_20 x0_27 x0_28 x0_29 x0_30 x0_31 x0_32 x0_35 x0_36 x0_37 x0_44 x0_49 x0_50 a1 a2 a3 a4 a5 a6 a7 a8 a9 a10 a11 a12 a13 a14) := hD
  refine lv_aload_n hx hb dX11_code_20 rfl (lv_at hl 1 rfl) ?_
  refine lv_iload_n hx hb dX11_code_21 rfl (lv_at hl 0 rfl) ?_
  obtain ⟨⟨r_22_0_x0_14, r_22_0_x0_15, r_22_0_x0_19, r_22_0_x0_20, r_22_0_a1, r_22_0_a2, r_22_0_a3, r_22_0_a4⟩, hc_r_22_0, hf⟩ := of_bnd hf
  refine cl_Vv (w2 := (wW_X11_code G h0 h1 h2 h3 h4 h5 h6 h7 h8 h9 h10 h11 h12 h13 h14 y0_33 y0_34 y0_38 y0_39 y0_40 y0_41 y0_42 y0_43 y0_45 y0_46 y0_47 x0_5 (0 : Int32) x0_7 x0_9 x0_10 x0_11 x0_12 x0_13 r_22_0_x0_14 r_22_0_x0_15 x0_16 x0_17 r_22_0_x0_19 r_22_0_x0_20 x0_27 x0_28 x0_29 x0_30 x0_31 x0_32 x0_35 x0_36 x0_37 x0_44 x0_49 x0_50 a1 r_22_0_a1 r_22_0_a2 r_22_0_a3 r_22_0_a4 a6 a7 a8 a9 a10 a11 a12 a13 a14)) (As := [.int ((1 : Int32) - x0_5)]) (rest := []) ⟨hx, hb, hml, hown, ht0⟩ (c_X11_clearBank l G h0 h2 h3 h4 h5 h1 h6 h7 h8 h9 h10 h11 h12 h13 y0_33 y0_34 y0_38 y0_39 y0_40 y0_41 y0_42 y0_43 y0_45 y0_46 y0_47 h14 _ x0_5 (0 : Int32) x0_7 x0_9 x0_10 x0_11 x0_12 x0_13 x0_14 x0_15 x0_16 x0_17 x0_19 x0_20 x0_27 x0_28 x0_29 x0_30 x0_31 x0_32 x0_35 x0_36 x0_37 x0_44 x0_49 x0_50 a2 a3 a4 a5 F ((1 : Int32) - x0_5) _ _ _ _ _ _ _ _ hc_r_22_0) yk_X11_clearBank wd_1262 ⟨rfl, rfl, by decide, by decide⟩ ⟨Nat.le_refl _, Nat.le_refl _⟩ hX hK hP hD hS hA [0, 2, 3, 4, 5] [1, 6, 7, 8, 9, 10, 11, 12, 13, 14] [10, 0, 11, 12, 13, 14, 1, 2, 3, 4, 5, 6, 7, 8, 9] (va_recv hK hP (ci := 11) (q0 := 0) rfl rfl) rfl rfl (by decide) rfl rfl rfl rfl rfl hl.1 rfl (Nat.le_of_ble_eq_true rfl) dX11_code_22 (fun H locs hP hD hS => ?_)
  refine lv_aload_n hx hb dX11_code_25 rfl (lv_at hl 1 rfl) ?_
  refine lv_iload_n hx hb dX11_code_26 rfl (lv_at hl 0 rfl) ?_
  obtain ⟨⟨r_27_1_x0_9, r_27_1_x0_10, r_27_1_x0_11, r_27_1_x0_12, r_27_1_x0_13, r_27_1_x0_14, r_27_1_x0_15, r_27_1_x0_19, r_27_1_x0_20, r_27_1_x0_27, r_27_1_x0_28, r_27_1_a1, r_27_1_a2, r_27_1_a3, r_27_1_a4, r_27_1_a7, r_27_1_a8, r_27_1_a9, r_27_1_a10, r_27_1_a11, r_27_1_a12⟩, hc_r_27_1, hf⟩ := of_bnd hf
  refine cl_Vv (w2 := (wW_X11_code G h0 h1 h2 h3 h4 h5 h6 h7 h8 h9 h10 h11 h12 h13 h14 y0_33 y0_34 y0_38 y0_39 y0_40 y0_41 y0_42 y0_43 y0_45 y0_46 y0_47 x0_5 (0 : Int32) x0_7 r_27_1_x0_9 r_27_1_x0_10 r_27_1_x0_11 r_27_1_x0_12 r_27_1_x0_13 r_27_1_x0_14 r_27_1_x0_15 x0_16 x0_17 r_27_1_x0_19 r_27_1_x0_20 r_27_1_x0_27 r_27_1_x0_28 x0_29 x0_30 x0_31 x0_32 x0_35 x0_36 x0_37 x0_44 x0_49 x0_50 a1 r_27_1_a1 r_27_1_a2 r_27_1_a3 r_27_1_a4 a6 a7 r_27_1_a7 r_27_1_a8 r_27_1_a9 r_27_1_a10 r_27_1_a11 r_27_1_a12 a14)) (As := [.int ((1 : Int32) - x0_5)]) (rest := []) ⟨hx, hb, hml, hown, ht0⟩ (c_X11_finish l G h0 h2 h3 h4 h5 h6 h7 h8 h9 h10 h11 h12 h13 h1 y0_33 y0_34 y0_38 y0_39 y0_40 y0_41 y0_42 y0_43 y0_45 y0_46 y0_47 h14 _ x0_5 (0 : Int32) x0_7 x0_9 x0_10 x0_11 x0_12 x0_13 r_22_0_x0_14 r_22_0_x0_15 x0_16 x0_17 r_22_0_x0_19 r_22_0_x0_20 x0_27 x0_28 x0_29 x0_30 x0_31 x0_32 x0_35 x0_36 x0_37 x0_44 x0_49 x0_50 r_22_0_a1 r_22_0_a2 r_22_0_a3 r_22_0_a4 a6 a7 a8 a9 a10 a11 a12 a13 F ((1 : Int32) - x0_5) _ _ _ _ _ _ _ _ _ _ _ _ _ _ _ _ _ _ _ _ _ hc_r_27_1) yk_X11_finish wd_1266 ⟨rfl, rfl, by decide, by decide⟩ ⟨Nat.le_refl _, Nat.le_refl _⟩ hX hK hP hD hS hA [0, 2, 3, 4, 5, 6, 7, 8, 9, 10, 11, 12, 13] [1, 14] [2, 0, 3, 4, 5, 6, 7, 8, 9, 10, 11, 12, 13, 14, 1] (va_recv hK hP (ci := 11) (q0 := 0) rfl rfl) rfl rfl (by decide) rfl rfl rfl rfl rfl hl.1 rfl (Nat.le_of_ble_eq_true rfl) dX11_code_27 (fun H locs hP hD hS => ?_)
  refine lv_aload_n hx hb dX11_code_30 rfl (lv_at hl 1 rfl) ?_
  refine lv_aload_n hx hb dX11_code_31 rfl (lv_at hl 1 rfl) ?_
  refine va_get (ci := 11) (v := .int r_27_1_x0_14) (C := RX11) (T := TX11) (N := 51) hx hb ht0 iX11 hown hK hP 0 rfl rfl 14 (by decide) (ht0 _ wd_1420) (fun _ h9 => h9) rfl dX11_code_32 ?_
  refine va_put (ci := 11) (v := .int r_27_1_x0_14) (ty := .int) (C := RX11) (T := TX11) (N := 51) hx hb ht0 iX11 tyX11 tyX11_ok nmX11 hown hK hP hD hS 0 rfl rfl 16 (by decide) (ht0 _ wd_1422) (fun _ h9 => h9) rfl rfl rfl rfl (Nat.le_of_ble_eq_true rfl) dX11_code_35 (fun H locs hP hD hS => ?_)
  have hP : va_P G.1 vwCl (wW_X11_code G h0 h1 h2 h3 h4 h5 h6 h7 h8 h9 h10 h11 h12 h13 h14 y0_33 y0_34 y0_38 y0_39 y0_40 y0_41 y0_42 y0_43 y0_45 y0_46 y0_47 x0_5 (0 : Int32) x0_7 r_27_1_x0_9 r_27_1_x0_10 r_27_1_x0_11 r_27_1_x0_12 r_27_1_x0_13 r_27_1_x0_14 r_27_1_x0_15 r_27_1_x0_14 x0_17 r_27_1_x0_19 r_27_1_x0_20 r_27_1_x0_27 r_27_1_x0_28 x0_29 x0_30 x0_31 x0_32 x0_35 x0_36 x0_37 x0_44 x0_49 x0_50 a1 r_27_1_a1 r_27_1_a2 r_27_1_a3 r_27_1_a4 a6 a7 r_27_1_a7 r_27_1_a8 r_27_1_a9 r_27_1_a10 r_27_1_a11 r_27_1_a12 a14) H := hP
  have hD : va_D A (wW_X11_code G h0 h1 h2 h3 h4 h5 h6 h7 h8 h9 h10 h11 h12 h13 h14 y0_33 y0_34 y0_38 y0_39 y0_40 y0_41 y0_42 y0_43 y0_45 y0_46 y0_47 x0_5 (0 : Int32) x0_7 r_27_1_x0_9 r_27_1_x0_10 r_27_1_x0_11 r_27_1_x0_12 r_27_1_x0_13 r_27_1_x0_14 r_27_1_x0_15 r_27_1_x0_14 x0_17 r_27_1_x0_19 r_27_1_x0_20 r_27_1_x0_27 r_27_1_x0_28 x0_29 x0_30 x0_31 x0_32 x0_35 x0_36 x0_37 x0_44 x0_49 x0_50 a1 r_27_1_a1 r_27_1_a2 r_27_1_a3 r_27_1_a4 a6 a7 r_27_1_a7 r_27_1_a8 r_27_1_a9 r_27_1_a10 r_27_1_a11 r_27_1_a12 a14) := hD
  refine lv_aload_n hx hb dX11_code_38 rfl (lv_at hl 1 rfl) ?_
  refine lv_aload_n hx hb dX11_code_39 rfl (lv_at hl 1 rfl) ?_
  refine va_get (ci := 11) (v := .int r_27_1_x0_15) (C := RX11) (T := TX11) (N := 51) hx hb ht0 iX11 hown hK hP 0 rfl rfl 15 (by decide) (ht0 _ wd_1421) (fun _ h9 => h9) rfl dX11_code_40 ?_
  refine va_put (ci := 11) (v := .int r_27_1_x0_15) (ty := .int) (C := RX11) (T := TX11) (N := 51) hx hb ht0 iX11 tyX11 tyX11_ok nmX11 hown hK hP hD hS 0 rfl rfl 17 (by decide) (ht0 _ wd_1423) (fun _ h9 => h9) rfl rfl rfl rfl (Nat.le_of_ble_eq_true rfl) dX11_code_43 (fun H locs hP hD hS => ?_)
  have hP : va_P G.1 vwCl (wW_X11_code G h0 h1 h2 h3 h4 h5 h6 h7 h8 h9 h10 h11 h12 h13 h14 y0_33 y0_34 y0_38 y0_39 y0_40 y0_41 y0_42 y0_43 y0_45 y0_46 y0_47 x0_5 (0 : Int32) x0_7 r_27_1_x0_9 r_27_1_x0_10 r_27_1_x0_11 r_27_1_x0_12 r_27_1_x0_13 r_27_1_x0_14 r_27_1_x0_15 r_27_1_x0_14 r_27_1_x0_15 r_27_1_x0_19 r_27_1_x0_20 r_27_1_x0_27 r_27_1_x0_28 x0_29 x0_30 x0_31 x0_32 x0_35 x0_36 x0_37 x0_44 x0_49 x0_50 a1 r_27_1_a1 r_27_1_a2 r_27_1_a3 r_27_1_a4 a6 a7 r_27_1_a7 r_27_1_a8 r_27_1_a9 r_27_1_a10 r_27_1_a11 r_27_1_a12 a14) H := hP
  have hD : va_D A (wW_X11_code G h0 h1 h2 h3 h4 h5 h6 h7 h8 h9 h10 h11 h12 h13 h14 y0_33 y0_34 y0_38 y0_39 y0_40 y0_41 y0_42 y0_43 y0_45 y0_46 y0_47 x0_5 (0 : Int32) x0_7 r_27_1_x0_9 r_27_1_x0_10 r_27_1_x0_11 r_27_1_x0_12 r_27_1_x0_13 r_27_1_x0_14 r_27_1_x0_15 r_27_1_x0_14 r_27_1_x0_15 r_27_1_x0_19 r_27_1_x0_20 r_27_1_x0_27 r_27_1_x0_28 x0_29 x0_30 x0_31 x0_32 x0_35 x0_36 x0_37 x0_44 x0_49 x0_50 a1 r_27_1_a1 r_27_1_a2 r_27_1_a3 r_27_1_a4 a6 a7 r_27_1_a7 r_27_1_a8 r_27_1_a9 r_27_1_a10 r_27_1_a11 r_27_1_a12 a14) := hD
  refine lv_aload_n hx hb dX11_code_46 rfl (lv_at hl 1 rfl) ?_
  refine va_get (ci := 11) (v := .int r_27_1_x0_14) (C := RX11) (T := TX11) (N := 51) hx hb ht0 iX11 hown hK hP 0 rfl rfl 16 (by decide) (ht0 _ wd_1422) (fun _ h9 => h9) rfl dX11_code_47 ?_
  refine lv_if_le (tgt := 55) hx hb dX11_code_50 (by decide) (fun c3 => ?_) (fun c3 => ?_)
  · have hf := of_pos hf c3
    refine lv_aload_n hx hb dX11_code_55 rfl (lv_at hl 1 rfl) ?_
    refine lv_iload_n hx hb dX11_code_56 rfl (lv_at hl 0 rfl) ?_
    refine va_put (ci := 11) (v := .int ((1 : Int32) - x0_5)) (ty := .int) (C := RX11) (T := TX11) (N := 51) hx hb ht0 iX11 tyX11 tyX11_ok nmX11 hown hK hP hD hS 0 rfl rfl 5 (by decide) (ht0 _ wd_1411) (fun _ h9 => h9) rfl rfl rfl rfl (Nat.le_of_ble_eq_true rfl) dX11_code_57 (fun H locs hP hD hS => ?_)
    have hP : va_P G.1 vwCl (wW_X11_code G h0 h1 h2 h3 h4 h5 h6 h7 h8 h9 h10 h11 h12 h13 h14 y0_33 y0_34 y0_38 y0_39 y0_40 y0_41 y0_42 y0_43 y0_45 y0_46 y0_47 ((1 : Int32) - x0_5) (0 : Int32) x0_7 r_27_1_x0_9 r_27_1_x0_10 r_27_1_x0_11 r_27_1_x0_12 r_27_1_x0_13 r_27_1_x0_14 r_27_1_x0_15 r_27_1_x0_14 r_27_1_x0_15 r_27_1_x0_19 r_27_1_x0_20 r_27_1_x0_27 r_27_1_x0_28 x0_29 x0_30 x0_31 x0_32 x0_35 x0_36 x0_37 x0_44 x0_49 x0_50 a1 r_27_1_a1 r_27_1_a2 r_27_1_a3 r_27_1_a4 a6 a7 r_27_1_a7 r_27_1_a8 r_27_1_a9 r_27_1_a10 r_27_1_a11 r_27_1_a12 a14) H := hP
    have hD : va_D A (wW_X11_code G h0 h1 h2 h3 h4 h5 h6 h7 h8 h9 h10 h11 h12 h13 h14 y0_33 y0_34 y0_38 y0_39 y0_40 y0_41 y0_42 y0_43 y0_45 y0_46 y0_47 ((1 : Int32) - x0_5) (0 : Int32) x0_7 r_27_1_x0_9 r_27_1_x0_10 r_27_1_x0_11 r_27_1_x0_12 r_27_1_x0_13 r_27_1_x0_14 r_27_1_x0_15 r_27_1_x0_14 r_27_1_x0_15 r_27_1_x0_19 r_27_1_x0_20 r_27_1_x0_27 r_27_1_x0_28 x0_29 x0_30 x0_31 x0_32 x0_35 x0_36 x0_37 x0_44 x0_49 x0_50 a1 r_27_1_a1 r_27_1_a2 r_27_1_a3 r_27_1_a4 a6 a7 r_27_1_a7 r_27_1_a8 r_27_1_a9 r_27_1_a10 r_27_1_a11 r_27_1_a12 a14) := hD
    refine lv_aload_n hx hb dX11_code_60 rfl (lv_at hl 1 rfl) ?_
    obtain ⟨⟨r_61_3_x0_49, r_61_3_x0_50, r_61_3_a1, r_61_3_a4⟩, hc_r_61_3, hf⟩ := of_bnd hf
    refine cl_Vv (w2 := (wW_X11_code G h0 h1 h2 h3 h4 h5 h6 h7 h8 h9 h10 h11 h12 h13 h14 y0_33 y0_34 y0_38 y0_39 y0_40 y0_41 y0_42 y0_43 y0_45 y0_46 y0_47 ((1 : Int32) - x0_5) (0 : Int32) x0_7 r_27_1_x0_9 r_27_1_x0_10 r_27_1_x0_11 r_27_1_x0_12 r_27_1_x0_13 r_27_1_x0_14 r_27_1_x0_15 r_27_1_x0_14 r_27_1_x0_15 r_27_1_x0_19 r_27_1_x0_20 r_27_1_x0_27 r_27_1_x0_28 x0_29 x0_30 x0_31 x0_32 x0_35 x0_36 x0_37 x0_44 r_61_3_x0_49 r_61_3_x0_50 r_61_3_a1 r_27_1_a1 r_27_1_a2 r_27_1_a3 r_27_1_a4 a6 a7 r_27_1_a7 r_27_1_a8 r_27_1_a9 r_27_1_a10 r_27_1_a11 r_27_1_a12 r_61_3_a4)) (As := []) (rest := []) ⟨hx, hb, hml, hown, ht0⟩ (c_X11_startAnew l G h0 h1 h2 h5 h14 h3 h4 h6 h7 h8 h9 h10 h11 h12 h13 y0_33 y0_34 y0_38 y0_39 y0_40 y0_41 y0_42 y0_43 y0_45 y0_46 y0_47 _ ((1 : Int32) - x0_5) (0 : Int32) x0_7 r_27_1_x0_9 r_27_1_x0_10 r_27_1_x0_11 r_27_1_x0_12 r_27_1_x0_13 r_27_1_x0_14 r_27_1_x0_15 r_27_1_x0_14 r_27_1_x0_15 r_27_1_x0_19 r_27_1_x0_20 r_27_1_x0_27 r_27_1_x0_28 x0_29 x0_30 x0_31 x0_32 x0_35 x0_36 x0_37 x0_44 x0_49 x0_50 a1 r_27_1_a1 r_27_1_a4 a14 F _ _ _ _ hc_r_61_3) yk_X11_startAnew wd_1390 ⟨rfl, rfl, by decide, by decide⟩ ⟨Nat.le_refl _, Nat.le_refl _⟩ hX hK hP hD hS hA [0, 1, 2, 5, 14] [3, 4, 6, 7, 8, 9, 10, 11, 12, 13] [10, 11, 12, 0, 1, 13, 2, 3, 4, 5, 6, 7, 8, 9, 14] (va_recv hK hP (ci := 11) (q0 := 0) rfl rfl) rfl rfl (by decide) rfl rfl rfl rfl rfl hl.1 rfl (Nat.le_of_ble_eq_true rfl) dX11_code_61 (fun H locs hP hD hS => ?_)
    refine lv_aload_n hx hb dX11_code_64 rfl (lv_at hl 1 rfl) ?_
    obtain ⟨r_65_4, hc_r_65_4, hf⟩ := of_bnd hf
    refine cl_Vi (w2 := (wW_X11_code G h0 h1 h2 h3 h4 h5 h6 h7 h8 h9 h10 h11 h12 h13 h14 y0_33 y0_34 y0_38 y0_39 y0_40 y0_41 y0_42 y0_43 y0_45 y0_46 y0_47 ((1 : Int32) - x0_5) (0 : Int32) x0_7 r_27_1_x0_9 r_27_1_x0_10 r_27_1_x0_11 r_27_1_x0_12 r_27_1_x0_13 r_27_1_x0_14 r_27_1_x0_15 r_27_1_x0_14 r_27_1_x0_15 r_27_1_x0_19 r_27_1_x0_20 r_27_1_x0_27 r_27_1_x0_28 x0_29 x0_30 x0_31 x0_32 x0_35 x0_36 x0_37 x0_44 r_61_3_x0_49 r_61_3_x0_50 r_61_3_a1 r_27_1_a1 r_27_1_a2 r_27_1_a3 r_27_1_a4 a6 a7 r_27_1_a7 r_27_1_a8 r_27_1_a9 r_27_1_a10 r_27_1_a11 r_27_1_a12 r_61_3_a4)) (As := []) (rest := []) ⟨hx, hb, hml, hown, ht0⟩ (c_X11_places l G h0 h2 h3 h1 h4 h5 h6 h7 h8 h9 h10 h11 h12 h13 y0_33 y0_34 y0_38 y0_39 y0_40 y0_41 y0_42 y0_43 y0_45 y0_46 y0_47 h14 _ ((1 : Int32) - x0_5) (0 : Int32) x0_7 r_27_1_x0_9 r_27_1_x0_10 r_27_1_x0_11 r_27_1_x0_12 r_27_1_x0_13 r_27_1_x0_14 r_27_1_x0_15 r_27_1_x0_14 r_27_1_x0_15 r_27_1_x0_19 r_27_1_x0_20 r_27_1_x0_27 r_27_1_x0_28 x0_29 x0_30 x0_31 x0_32 x0_35 x0_36 x0_37 x0_44 r_61_3_x0_49 r_61_3_x0_50 r_27_1_a1 r_27_1_a2 F _ hc_r_65_4) yk_X11_places wd_1572 ⟨rfl, rfl, by decide, by decide⟩ ⟨Nat.le_refl _, Nat.le_refl _⟩ hX hK hP hD hS hA [0, 2, 3] [1, 4, 5, 6, 7, 8, 9, 10, 11, 12, 13, 14] [12, 0, 13, 14, 1, 2, 3, 4, 5, 6, 7, 8, 9, 10, 11] (va_recv hK hP (ci := 11) (q0 := 0) rfl rfl) rfl rfl (by decide) rfl rfl rfl rfl rfl hl.1 rfl (Nat.le_of_ble_eq_true rfl) dX11_code_65 (fun H locs hP hD hS => ?_)
    cases hf
    exact ret_i hx hb hr hlk hK hP hD hS dX11_code_68
  · have hf := of_neg hf c3
    refine lv_iconst (v := (-1 : Int32)) hx hb dX11_code_53 (by decide) ?_
    cases hf
    exact ret_i hx hb hr hlk hK hP hD hS dX11_code_54
theorem yk_X11_code : ykV yX11_code RX11 cX11_code 2 (some .int) 0 := ⟨wd_1569, wd_1570, wd_142, wd_1571, rfl, by decide +kernel, by decide +kernel, by decide +kernel⟩
theorem dX11_fault_0 : decode cX11_fault 0 = .ok (.iload_n 1, 1) := by decide +kernel
theorem dX11_fault_1 : decode cX11_fault 1 = .ok (.ifCond .ne 10, 3) := by decide +kernel
theorem dX11_fault_4 : decode cX11_fault 4 = .ok (.aload_n 0, 1) := by decide +kernel
theorem dX11_fault_5 : decode cX11_fault 5 = .ok (.getfield 214, 3) := by decide +kernel
theorem dX11_fault_8 : decode cX11_fault 8 = .ok (.goto 16, 3) := by decide +kernel
theorem dX11_fault_11 : decode cX11_fault 11 = .ok (.iload_n 1, 1) := by decide +kernel
theorem dX11_fault_12 : decode cX11_fault 12 = .ok (.iconst 1, 1) := by decide +kernel
theorem dX11_fault_13 : decode cX11_fault 13 = .ok (.if_icmp .ne 10, 3) := by decide +kernel
theorem dX11_fault_16 : decode cX11_fault 16 = .ok (.aload_n 0, 1) := by decide +kernel
theorem dX11_fault_17 : decode cX11_fault 17 = .ok (.getfield 29, 3) := by decide +kernel
theorem dX11_fault_20 : decode cX11_fault 20 = .ok (.goto 4, 3) := by decide +kernel
theorem dX11_fault_23 : decode cX11_fault 23 = .ok (.iconst (-1), 1) := by decide +kernel
theorem dX11_fault_24 : decode cX11_fault 24 = .ok (.ireturn, 1) := by decide +kernel
def wW_X11_fault (G : GG) (h0 y0_0 y0_1 y0_2 y0_3 y0_4 y0_6 y0_18 y0_21 y0_22 y0_23 y0_24 y0_25 y0_26 y0_33 y0_34 y0_38 y0_39 y0_40 y0_41 y0_42 y0_43 y0_45 y0_46 y0_47 y0_48 : Nat) (x0_5 : Int32) (x0_7 : Int32) (x0_8 : Int32) (x0_9 : Int32) (x0_10 : Int32) (x0_11 : Int32) (x0_12 : Int32) (x0_13 : Int32) (x0_14 : Int32) (x0_15 : Int32) (x0_16 : Int32) (x0_17 : Int32) (x0_19 : Int32) (x0_20 : Int32) (x0_27 : Int32) (x0_28 : Int32) (x0_29 : Int32) (x0_30 : Int32) (x0_31 : Int32) (x0_32 : Int32) (x0_35 : Int32) (x0_36 : Int32) (x0_37 : Int32) (x0_44 : Int32) (x0_49 : Int32) (x0_50 : Int32) : va_W := [(h0, .inr (11, [.ref y0_0, .ref y0_1, .ref y0_2, .ref y0_3, .ref y0_4, .int x0_5, .ref y0_6, .int x0_7, .int x0_8, .int x0_9, .int x0_10, .int x0_11, .int x0_12, .int x0_13, .int x0_14, .int x0_15, .int x0_16, .int x0_17, .ref y0_18, .int x0_19, .int x0_20, .ref y0_21, .ref y0_22, .ref y0_23, .ref y0_24, .ref y0_25, .ref y0_26, .int x0_27, .int x0_28, .int x0_29, .int x0_30, .int x0_31, .int x0_32, .ref y0_33, .ref y0_34, .int x0_35, .int x0_36, .int x0_37, .ref y0_38, .ref y0_39, .ref y0_40, .ref y0_41, .ref y0_42, .ref y0_43, .int x0_44, .ref y0_45, .ref y0_46, .ref y0_47, .ref y0_48, .int x0_49, .int x0_50]))]
set_option maxHeartbeats 4000000 in
set_option maxRecDepth 100000 in
theorem c_X11_fault (l : Launch) (G : GG) (h0 y0_0 y0_1 y0_2 y0_3 y0_4 y0_6 y0_18 y0_21 y0_22 y0_23 y0_24 y0_25 y0_26 y0_33 y0_34 y0_38 y0_39 y0_40 y0_41 y0_42 y0_43 y0_45 y0_46 y0_47 y0_48 : Nat) (sz : Nat) (x0_5 : Int32) (x0_7 : Int32) (x0_8 : Int32) (x0_9 : Int32) (x0_10 : Int32) (x0_11 : Int32) (x0_12 : Int32) (x0_13 : Int32) (x0_14 : Int32) (x0_15 : Int32) (x0_16 : Int32) (x0_17 : Int32) (x0_19 : Int32) (x0_20 : Int32) (x0_27 : Int32) (x0_28 : Int32) (x0_29 : Int32) (x0_30 : Int32) (x0_31 : Int32) (x0_32 : Int32) (x0_35 : Int32) (x0_36 : Int32) (x0_37 : Int32) (x0_44 : Int32) (x0_49 : Int32) (x0_50 : Int32) (F : Nat) (b1 : Int32)  (r0 : Int32) (hf : p_X11_fault F x0_16 x0_17 b1 = some r0) : Met l yX11_fault (.code yX11_fault cX11_fault 2 (some .int) :: gtbl) ({ frames := 0, cells := 0, slots := 0, locals := 0 } : Room) (PcS G [.ref h0, .int b1] (wW_X11_fault G h0 y0_0 y0_1 y0_2 y0_3 y0_4 y0_6 y0_18 y0_21 y0_22 y0_23 y0_24 y0_25 y0_26 y0_33 y0_34 y0_38 y0_39 y0_40 y0_41 y0_42 y0_43 y0_45 y0_46 y0_47 y0_48 x0_5 x0_7 x0_8 x0_9 x0_10 x0_11 x0_12 x0_13 x0_14 x0_15 x0_16 x0_17 x0_19 x0_20 x0_27 x0_28 x0_29 x0_30 x0_31 x0_32 x0_35 x0_36 x0_37 x0_44 x0_49 x0_50) sz) (QiS G r0 (va_A (wW_X11_fault G h0 y0_0 y0_1 y0_2 y0_3 y0_4 y0_6 y0_18 y0_21 y0_22 y0_23 y0_24 y0_25 y0_26 y0_33 y0_34 y0_38 y0_39 y0_40 y0_41 y0_42 y0_43 y0_45 y0_46 y0_47 y0_48 x0_5 x0_7 x0_8 x0_9 x0_10 x0_11 x0_12 x0_13 x0_14 x0_15 x0_16 x0_17 x0_19 x0_20 x0_27 x0_28 x0_29 x0_30 x0_31 x0_32 x0_35 x0_36 x0_37 x0_44 x0_49 x0_50) sz) (wW_X11_fault G h0 y0_0 y0_1 y0_2 y0_3 y0_4 y0_6 y0_18 y0_21 y0_22 y0_23 y0_24 y0_25 y0_26 y0_33 y0_34 y0_38 y0_39 y0_40 y0_41 y0_42 y0_43 y0_45 y0_46 y0_47 y0_48 x0_5 x0_7 x0_8 x0_9 x0_10 x0_11 x0_12 x0_13 x0_14 x0_15 x0_16 x0_17 x0_19 x0_20 x0_27 x0_28 x0_29 x0_30 x0_31 x0_32 x0_35 x0_36 x0_37 x0_44 x0_49 x0_50)) 0 0 (va_A (wW_X11_fault G h0 y0_0 y0_1 y0_2 y0_3 y0_4 y0_6 y0_18 y0_21 y0_22 y0_23 y0_24 y0_25 y0_26 y0_33 y0_34 y0_38 y0_39 y0_40 y0_41 y0_42 y0_43 y0_45 y0_46 y0_47 y0_48 x0_5 x0_7 x0_8 x0_9 x0_10 x0_11 x0_12 x0_13 x0_14 x0_15 x0_16 x0_17 x0_19 x0_20 x0_27 x0_28 x0_29 x0_30 x0_31 x0_32 x0_35 x0_36 x0_37 x0_44 x0_49 x0_50) sz) := by
  refine met_start (by decide) (Nat.le_of_ble_eq_true rfl) ?_
  intro p e s m below meth c hC hr hlk hnm hK hP hD hA hS hX ls hl
  obtain ⟨hx, hb, hml, hown, ht0⟩ := hC
  have hown : s.vm.findClass RX11 = some m.cls := hown
  generalize va_A (wW_X11_fault G h0 y0_0 y0_1 y0_2 y0_3 y0_4 y0_6 y0_18 y0_21 y0_22 y0_23 y0_24 y0_25 y0_26 y0_33 y0_34 y0_38 y0_39 y0_40 y0_41 y0_42 y0_43 y0_45 y0_46 y0_47 y0_48 x0_5 x0_7 x0_8 x0_9 x0_10 x0_11 x0_12 x0_13 x0_14 x0_15 x0_16 x0_17 x0_19 x0_20 x0_27 x0_28 x0_29 x0_30 x0_31 x0_32 x0_35 x0_36 x0_37 x0_44 x0_49 x0_50) sz = A at hD hA hS hX ⊢
  have hl : lv_has ls 2 [(0, .ref h0), (1, .int b1)] := hl
  have hf : p_X11_fault F x0_16 x0_17 b1 = some r0 := hf
  refine lv_iload_n hx hb dX11_fault_0 rfl (lv_at hl 1 rfl) ?_
  refine lv_if_ne (tgt := 11) hx hb dX11_fault_1 (by decide) (fun c1 => ?_) (fun c1 => ?_)
  · have hf := of_neg hf c1
    refine lv_iload_n hx hb dX11_fault_11 rfl (lv_at hl 1 rfl) ?_
    refine lv_iconst (v := (1 : Int32)) hx hb dX11_fault_12 (by decide) ?_
    refine lv_icmp_ne (tgt := 23) hx hb dX11_fault_13 (by decide) (fun c2 => ?_) (fun c2 => ?_)
    · have hf := of_neg hf c2
      refine lv_iconst (v := (-1 : Int32)) hx hb dX11_fault_23 (by decide) ?_
      cases hf
      exact ret_i hx hb hr hlk hK hP hD hS dX11_fault_24
    · have hf := of_pos hf c2
      refine lv_aload_n hx hb dX11_fault_16 rfl (lv_at hl 0 rfl) ?_
      refine va_get (ci := 11) (v := .int x0_17) (C := RX11) (T := TX11) (N := 51) hx hb ht0 iX11 hown hK hP 0 rfl rfl 17 (by decide) (ht0 _ wd_1423) (fun _ h9 => h9) rfl dX11_fault_17 ?_
      refine lv_goto (tgt := 24) hx hb dX11_fault_20 (by decide) ?_
      cases hf
      exact ret_i hx hb hr hlk hK hP hD hS dX11_fault_24
  · have hf := of_pos hf c1
    refine lv_aload_n hx hb dX11_fault_4 rfl (lv_at hl 0 rfl) ?_
    refine va_get (ci := 11) (v := .int x0_16) (C := RX11) (T := TX11) (N := 51) hx hb ht0 iX11 hown hK hP 0 rfl rfl 16 (by decide) (ht0 _ wd_1422) (fun _ h9 => h9) rfl dX11_fault_5 ?_
    refine lv_goto (tgt := 24) hx hb dX11_fault_8 (by decide) ?_
    cases hf
    exact ret_i hx hb hr hlk hK hP hD hS dX11_fault_24
theorem yk_X11_fault : ykV yX11_fault RX11 cX11_fault 2 (some .int) 1 := ⟨wd_1581, wd_1582, wd_142, wd_1583, rfl, by decide +kernel, by decide +kernel, by decide +kernel⟩
theorem dX11_isPlace_0 : decode cX11_isPlace 0 = .ok (.iload_n 1, 1) := by decide +kernel
theorem dX11_isPlace_1 : decode cX11_isPlace 1 = .ok (.iconst 0, 1) := by decide +kernel
theorem dX11_isPlace_2 : decode cX11_isPlace 2 = .ok (.aload_n 0, 1) := by decide +kernel
theorem dX11_isPlace_3 : decode cX11_isPlace 3 = .ok (.invokevirtual 217, 3) := by decide +kernel
theorem dX11_isPlace_6 : decode cX11_isPlace 6 = .ok (.iconst 1, 1) := by decide +kernel
theorem dX11_isPlace_7 : decode cX11_isPlace 7 = .ok (.isub, 1) := by decide +kernel
theorem dX11_isPlace_8 : decode cX11_isPlace 8 = .ok (.invokestatic 163, 3) := by decide +kernel
theorem dX11_isPlace_11 : decode cX11_isPlace 11 = .ok (.ireturn, 1) := by decide +kernel
def wW_X11_isPlace (G : GG) (h0 h1 h2 y0_0 y0_3 y0_4 y0_6 y0_18 y0_21 y0_22 y0_23 y0_24 y0_25 y0_26 y0_33 y0_34 y0_38 y0_39 y0_40 y0_41 y0_42 y0_43 y0_45 y0_46 y0_47 y0_48 : Nat) (x0_5 : Int32) (x0_7 : Int32) (x0_8 : Int32) (x0_9 : Int32) (x0_10 : Int32) (x0_11 : Int32) (x0_12 : Int32) (x0_13 : Int32) (x0_14 : Int32) (x0_15 : Int32) (x0_16 : Int32) (x0_17 : Int32) (x0_19 : Int32) (x0_20 : Int32) (x0_27 : Int32) (x0_28 : Int32) (x0_29 : Int32) (x0_30 : Int32) (x0_31 : Int32) (x0_32 : Int32) (x0_35 : Int32) (x0_36 : Int32) (x0_37 : Int32) (x0_44 : Int32) (x0_49 : Int32) (x0_50 : Int32) (a1 : Nat → Int32) (a2 : Nat → Int32) : va_W := [(h0, .inr (11, [.ref y0_0, .ref h1, .ref h2, .ref y0_3, .ref y0_4, .int x0_5, .ref y0_6, .int x0_7, .int x0_8, .int x0_9, .int x0_10, .int x0_11, .int x0_12, .int x0_13, .int x0_14, .int x0_15, .int x0_16, .int x0_17, .ref y0_18, .int x0_19, .int x0_20, .ref y0_21, .ref y0_22, .ref y0_23, .ref y0_24, .ref y0_25, .ref y0_26, .int x0_27, .int x0_28, .int x0_29, .int x0_30, .int x0_31, .int x0_32, .ref y0_33, .ref y0_34, .int x0_35, .int x0_36, .int x0_37, .ref y0_38, .ref y0_39, .ref y0_40, .ref y0_41, .ref y0_42, .ref y0_43, .int x0_44, .ref y0_45, .ref y0_46, .ref y0_47, .ref y0_48, .int x0_49, .int x0_50])), (h1, .inl (G.2.1, 2, .inl a1)), (h2, .inl (G.2.1, 2, .inl a2))]
set_option maxHeartbeats 4000000 in
set_option maxRecDepth 100000 in
theorem c_X11_isPlace (l : Launch) (G : GG) (h0 h1 h2 y0_0 y0_3 y0_4 y0_6 y0_18 y0_21 y0_22 y0_23 y0_24 y0_25 y0_26 y0_33 y0_34 y0_38 y0_39 y0_40 y0_41 y0_42 y0_43 y0_45 y0_46 y0_47 y0_48 : Nat) (sz : Nat) (x0_5 : Int32) (x0_7 : Int32) (x0_8 : Int32) (x0_9 : Int32) (x0_10 : Int32) (x0_11 : Int32) (x0_12 : Int32) (x0_13 : Int32) (x0_14 : Int32) (x0_15 : Int32) (x0_16 : Int32) (x0_17 : Int32) (x0_19 : Int32) (x0_20 : Int32) (x0_27 : Int32) (x0_28 : Int32) (x0_29 : Int32) (x0_30 : Int32) (x0_31 : Int32) (x0_32 : Int32) (x0_35 : Int32) (x0_36 : Int32) (x0_37 : Int32) (x0_44 : Int32) (x0_49 : Int32) (x0_50 : Int32) (a1 : Nat → Int32) (a2 : Nat → Int32) (F : Nat) (b1 : Int32)  (r0 : Int32) (hf : p_X11_isPlace F x0_5 a1 a2 b1 = some r0) : Met l yX11_isPlace (.code yX11_isPlace cX11_isPlace 2 (some .boolean) :: gtbl) ({ frames := 2, cells := 0, slots := 0, locals := 40 } : Room) (PcS G [.ref h0, .int b1] (wW_X11_isPlace G h0 h1 h2 y0_0 y0_3 y0_4 y0_6 y0_18 y0_21 y0_22 y0_23 y0_24 y0_25 y0_26 y0_33 y0_34 y0_38 y0_39 y0_40 y0_41 y0_42 y0_43 y0_45 y0_46 y0_47 y0_48 x0_5 x0_7 x0_8 x0_9 x0_10 x0_11 x0_12 x0_13 x0_14 x0_15 x0_16 x0_17 x0_19 x0_20 x0_27 x0_28 x0_29 x0_30 x0_31 x0_32 x0_35 x0_36 x0_37 x0_44 x0_49 x0_50 a1 a2) sz) (QiS G r0 (va_A (wW_X11_isPlace G h0 h1 h2 y0_0 y0_3 y0_4 y0_6 y0_18 y0_21 y0_22 y0_23 y0_24 y0_25 y0_26 y0_33 y0_34 y0_38 y0_39 y0_40 y0_41 y0_42 y0_43 y0_45 y0_46 y0_47 y0_48 x0_5 x0_7 x0_8 x0_9 x0_10 x0_11 x0_12 x0_13 x0_14 x0_15 x0_16 x0_17 x0_19 x0_20 x0_27 x0_28 x0_29 x0_30 x0_31 x0_32 x0_35 x0_36 x0_37 x0_44 x0_49 x0_50 a1 a2) sz) (wW_X11_isPlace G h0 h1 h2 y0_0 y0_3 y0_4 y0_6 y0_18 y0_21 y0_22 y0_23 y0_24 y0_25 y0_26 y0_33 y0_34 y0_38 y0_39 y0_40 y0_41 y0_42 y0_43 y0_45 y0_46 y0_47 y0_48 x0_5 x0_7 x0_8 x0_9 x0_10 x0_11 x0_12 x0_13 x0_14 x0_15 x0_16 x0_17 x0_19 x0_20 x0_27 x0_28 x0_29 x0_30 x0_31 x0_32 x0_35 x0_36 x0_37 x0_44 x0_49 x0_50 a1 a2)) 0 0 (va_A (wW_X11_isPlace G h0 h1 h2 y0_0 y0_3 y0_4 y0_6 y0_18 y0_21 y0_22 y0_23 y0_24 y0_25 y0_26 y0_33 y0_34 y0_38 y0_39 y0_40 y0_41 y0_42 y0_43 y0_45 y0_46 y0_47 y0_48 x0_5 x0_7 x0_8 x0_9 x0_10 x0_11 x0_12 x0_13 x0_14 x0_15 x0_16 x0_17 x0_19 x0_20 x0_27 x0_28 x0_29 x0_30 x0_31 x0_32 x0_35 x0_36 x0_37 x0_44 x0_49 x0_50 a1 a2) sz) := by
  refine met_start (by decide) (Nat.le_of_ble_eq_true rfl) ?_
  intro p e s m below meth c hC hr hlk hnm hK hP hD hA hS hX ls hl
  obtain ⟨hx, hb, hml, hown, ht0⟩ := hC
  have hown : s.vm.findClass RX11 = some m.cls := hown
  generalize va_A (wW_X11_isPlace G h0 h1 h2 y0_0 y0_3 y0_4 y0_6 y0_18 y0_21 y0_22 y0_23 y0_24 y0_25 y0_26 y0_33 y0_34 y0_38 y0_39 y0_40 y0_41 y0_42 y0_43 y0_45 y0_46 y0_47 y0_48 x0_5 x0_7 x0_8 x0_9 x0_10 x0_11 x0_12 x0_13 x0_14 x0_15 x0_16 x0_17 x0_19 x0_20 x0_27 x0_28 x0_29 x0_30 x0_31 x0_32 x0_35 x0_36 x0_37 x0_44 x0_49 x0_50 a1 a2) sz = A at hD hA hS hX ⊢
  have hl : lv_has ls 2 [(0, .ref h0), (1, .int b1)] := hl
  have hf : p_X11_isPlace F x0_5 a1 a2 b1 = some r0 := hf
  refine lv_iload_n hx hb dX11_isPlace_0 rfl (lv_at hl 1 rfl) ?_
  refine lv_iconst (v := (0 : Int32)) hx hb dX11_isPlace_1 (by decide) ?_
  refine lv_aload_n hx hb dX11_isPlace_2 rfl (lv_at hl 0 rfl) ?_
  obtain ⟨r_3_0, hc_r_3_0, hf⟩ := of_bnd hf
  refine cl_Vi (w2 := (wW_X11_isPlace G h0 h1 h2 y0_0 y0_3 y0_4 y0_6 y0_18 y0_21 y0_22 y0_23 y0_24 y0_25 y0_26 y0_33 y0_34 y0_38 y0_39 y0_40 y0_41 y0_42 y0_43 y0_45 y0_46 y0_47 y0_48 x0_5 x0_7 x0_8 x0_9 x0_10 x0_11 x0_12 x0_13 x0_14 x0_15 x0_16 x0_17 x0_19 x0_20 x0_27 x0_28 x0_29 x0_30 x0_31 x0_32 x0_35 x0_36 x0_37 x0_44 x0_49 x0_50 a1 a2)) (As := []) (rest := [.int (0 : Int32), .int b1]) ⟨hx, hb, hml, hown, ht0⟩ (c_X11_places l G h0 h1 h2 y0_0 y0_3 y0_4 y0_6 y0_18 y0_21 y0_22 y0_23 y0_24 y0_25 y0_26 y0_33 y0_34 y0_38 y0_39 y0_40 y0_41 y0_42 y0_43 y0_45 y0_46 y0_47 y0_48 _ x0_5 x0_7 x0_8 x0_9 x0_10 x0_11 x0_12 x0_13 x0_14 x0_15 x0_16 x0_17 x0_19 x0_20 x0_27 x0_28 x0_29 x0_30 x0_31 x0_32 x0_35 x0_36 x0_37 x0_44 x0_49 x0_50 a1 a2 F _ hc_r_3_0) yk_X11_places wd_1572 ⟨rfl, rfl, by decide, by decide⟩ ⟨Nat.le_refl _, Nat.le_refl _⟩ hX hK hP hD hS hA [0, 1, 2] [] [0, 1, 2] (va_recv hK hP (ci := 11) (q0 := 0) rfl rfl) rfl rfl (by decide) rfl rfl rfl rfl rfl hl.1 rfl (Nat.le_of_ble_eq_true rfl) dX11_isPlace_3 (fun H locs hP hD hS => ?_)
  refine lv_iconst (v := (1 : Int32)) hx hb dX11_isPlace_6 (by decide) ?_
  refine lv_isub hx hb dX11_isPlace_7 ?_
  obtain ⟨r_8_1, hc_r_8_1, hf⟩ := of_bnd hf
  refine cl_Si (w2 := (wW_X11_isPlace G h0 h1 h2 y0_0 y0_3 y0_4 y0_6 y0_18 y0_21 y0_22 y0_23 y0_24 y0_25 y0_26 y0_33 y0_34 y0_38 y0_39 y0_40 y0_41 y0_42 y0_43 y0_45 y0_46 y0_47 y0_48 x0_5 x0_7 x0_8 x0_9 x0_10 x0_11 x0_12 x0_13 x0_14 x0_15 x0_16 x0_17 x0_19 x0_20 x0_27 x0_28 x0_29 x0_30 x0_31 x0_32 x0_35 x0_36 x0_37 x0_44 x0_49 x0_50 a1 a2)) (As := [.int b1, .int (0 : Int32), .int (r_3_0 - (1 : Int32))]) (rest := []) ⟨hx, hb, hml, hown, ht0⟩ (c_X11_isIn l G _ F b1 (0 : Int32) (r_3_0 - (1 : Int32)) _ hc_r_8_1) yk_X11_isIn wd_1321 ⟨rfl, rfl, by decide, by decide⟩ ⟨Nat.le_refl _, Nat.le_refl _⟩ hX hK hP hD hS hA [] [0, 1, 2] [0, 1, 2] rfl rfl (by decide) rfl rfl rfl rfl rfl hl.1 rfl (Nat.le_of_ble_eq_true rfl) dX11_isPlace_8 (fun H locs hP hD hS => ?_)
  obtain ⟨g3, hf⟩ := of_grd hf
  have g3 := Decidable.not_not.mp g3
  cases hf
  exact ret_z hx hb hr hlk hK hP hD hS g3 dX11_isPlace_11
theorem yk_X11_isPlace : ykV yX11_isPlace RX11 cX11_isPlace 2 (some .boolean) 1 := ⟨wd_1693, wd_93, wd_142, wd_1694, rfl, by decide +kernel, by decide +kernel, by decide +kernel⟩
theorem dX11_isData_0 : decode cX11_isData 0 = .ok (.iload_n 1, 1) := by decide +kernel
theorem dX11_isData_1 : decode cX11_isData 1 = .ok (.iconst 0, 1) := by decide +kernel
theorem dX11_isData_2 : decode cX11_isData 2 = .ok (.aload_n 0, 1) := by decide +kernel
theorem dX11_isData_3 : decode cX11_isData 3 = .ok (.invokevirtual 221, 3) := by decide +kernel
theorem dX11_isData_6 : decode cX11_isData 6 = .ok (.iconst 1, 1) := by decide +kernel
theorem dX11_isData_7 : decode cX11_isData 7 = .ok (.isub, 1) := by decide +kernel
theorem dX11_isData_8 : decode cX11_isData 8 = .ok (.invokestatic 163, 3) := by decide +kernel
theorem dX11_isData_11 : decode cX11_isData 11 = .ok (.ireturn, 1) := by decide +kernel
def wW_X11_isData (G : GG) (h0 h1 y0_0 y0_2 y0_3 y0_4 y0_6 y0_18 y0_21 y0_22 y0_23 y0_24 y0_25 y0_26 y0_33 y0_34 y0_38 y0_39 y0_40 y0_41 y0_42 y0_43 y0_45 y0_46 y0_47 y0_48 : Nat) (x0_5 : Int32) (x0_7 : Int32) (x0_8 : Int32) (x0_9 : Int32) (x0_10 : Int32) (x0_11 : Int32) (x0_12 : Int32) (x0_13 : Int32) (x0_14 : Int32) (x0_15 : Int32) (x0_16 : Int32) (x0_17 : Int32) (x0_19 : Int32) (x0_20 : Int32) (x0_27 : Int32) (x0_28 : Int32) (x0_29 : Int32) (x0_30 : Int32) (x0_31 : Int32) (x0_32 : Int32) (x0_35 : Int32) (x0_36 : Int32) (x0_37 : Int32) (x0_44 : Int32) (x0_49 : Int32) (x0_50 : Int32) (a1 : Nat → Int32) : va_W := [(h0, .inr (11, [.ref y0_0, .ref h1, .ref y0_2, .ref y0_3, .ref y0_4, .int x0_5, .ref y0_6, .int x0_7, .int x0_8, .int x0_9, .int x0_10, .int x0_11, .int x0_12, .int x0_13, .int x0_14, .int x0_15, .int x0_16, .int x0_17, .ref y0_18, .int x0_19, .int x0_20, .ref y0_21, .ref y0_22, .ref y0_23, .ref y0_24, .ref y0_25, .ref y0_26, .int x0_27, .int x0_28, .int x0_29, .int x0_30, .int x0_31, .int x0_32, .ref y0_33, .ref y0_34, .int x0_35, .int x0_36, .int x0_37, .ref y0_38, .ref y0_39, .ref y0_40, .ref y0_41, .ref y0_42, .ref y0_43, .int x0_44, .ref y0_45, .ref y0_46, .ref y0_47, .ref y0_48, .int x0_49, .int x0_50])), (h1, .inl (G.2.1, 2, .inl a1))]
set_option maxHeartbeats 4000000 in
set_option maxRecDepth 100000 in
theorem c_X11_isData (l : Launch) (G : GG) (h0 h1 y0_0 y0_2 y0_3 y0_4 y0_6 y0_18 y0_21 y0_22 y0_23 y0_24 y0_25 y0_26 y0_33 y0_34 y0_38 y0_39 y0_40 y0_41 y0_42 y0_43 y0_45 y0_46 y0_47 y0_48 : Nat) (sz : Nat) (x0_5 : Int32) (x0_7 : Int32) (x0_8 : Int32) (x0_9 : Int32) (x0_10 : Int32) (x0_11 : Int32) (x0_12 : Int32) (x0_13 : Int32) (x0_14 : Int32) (x0_15 : Int32) (x0_16 : Int32) (x0_17 : Int32) (x0_19 : Int32) (x0_20 : Int32) (x0_27 : Int32) (x0_28 : Int32) (x0_29 : Int32) (x0_30 : Int32) (x0_31 : Int32) (x0_32 : Int32) (x0_35 : Int32) (x0_36 : Int32) (x0_37 : Int32) (x0_44 : Int32) (x0_49 : Int32) (x0_50 : Int32) (a1 : Nat → Int32) (F : Nat) (b1 : Int32)  (r0 : Int32) (hf : p_X11_isData F x0_5 a1 b1 = some r0) : Met l yX11_isData (.code yX11_isData cX11_isData 2 (some .boolean) :: gtbl) ({ frames := 1, cells := 0, slots := 0, locals := 22 } : Room) (PcS G [.ref h0, .int b1] (wW_X11_isData G h0 h1 y0_0 y0_2 y0_3 y0_4 y0_6 y0_18 y0_21 y0_22 y0_23 y0_24 y0_25 y0_26 y0_33 y0_34 y0_38 y0_39 y0_40 y0_41 y0_42 y0_43 y0_45 y0_46 y0_47 y0_48 x0_5 x0_7 x0_8 x0_9 x0_10 x0_11 x0_12 x0_13 x0_14 x0_15 x0_16 x0_17 x0_19 x0_20 x0_27 x0_28 x0_29 x0_30 x0_31 x0_32 x0_35 x0_36 x0_37 x0_44 x0_49 x0_50 a1) sz) (QiS G r0 (va_A (wW_X11_isData G h0 h1 y0_0 y0_2 y0_3 y0_4 y0_6 y0_18 y0_21 y0_22 y0_23 y0_24 y0_25 y0_26 y0_33 y0_34 y0_38 y0_39 y0_40 y0_41 y0_42 y0_43 y0_45 y0_46 y0_47 y0_48 x0_5 x0_7 x0_8 x0_9 x0_10 x0_11 x0_12 x0_13 x0_14 x0_15 x0_16 x0_17 x0_19 x0_20 x0_27 x0_28 x0_29 x0_30 x0_31 x0_32 x0_35 x0_36 x0_37 x0_44 x0_49 x0_50 a1) sz) (wW_X11_isData G h0 h1 y0_0 y0_2 y0_3 y0_4 y0_6 y0_18 y0_21 y0_22 y0_23 y0_24 y0_25 y0_26 y0_33 y0_34 y0_38 y0_39 y0_40 y0_41 y0_42 y0_43 y0_45 y0_46 y0_47 y0_48 x0_5 x0_7 x0_8 x0_9 x0_10 x0_11 x0_12 x0_13 x0_14 x0_15 x0_16 x0_17 x0_19 x0_20 x0_27 x0_28 x0_29 x0_30 x0_31 x0_32 x0_35 x0_36 x0_37 x0_44 x0_49 x0_50 a1)) 0 0 (va_A (wW_X11_isData G h0 h1 y0_0 y0_2 y0_3 y0_4 y0_6 y0_18 y0_21 y0_22 y0_23 y0_24 y0_25 y0_26 y0_33 y0_34 y0_38 y0_39 y0_40 y0_41 y0_42 y0_43 y0_45 y0_46 y0_47 y0_48 x0_5 x0_7 x0_8 x0_9 x0_10 x0_11 x0_12 x0_13 x0_14 x0_15 x0_16 x0_17 x0_19 x0_20 x0_27 x0_28 x0_29 x0_30 x0_31 x0_32 x0_35 x0_36 x0_37 x0_44 x0_49 x0_50 a1) sz) := by
  refine met_start (by decide) (Nat.le_of_ble_eq_true rfl) ?_
  intro p e s m below meth c hC hr hlk hnm hK hP hD hA hS hX ls hl
  obtain ⟨hx, hb, hml, hown, ht0⟩ := hC
  have hown : s.vm.findClass RX11 = some m.cls := hown
  generalize va_A (wW_X11_isData G h0 h1 y0_0 y0_2 y0_3 y0_4 y0_6 y0_18 y0_21 y0_22 y0_23 y0_24 y0_25 y0_26 y0_33 y0_34 y0_38 y0_39 y0_40 y0_41 y0_42 y0_43 y0_45 y0_46 y0_47 y0_48 x0_5 x0_7 x0_8 x0_9 x0_10 x0_11 x0_12 x0_13 x0_14 x0_15 x0_16 x0_17 x0_19 x0_20 x0_27 x0_28 x0_29 x0_30 x0_31 x0_32 x0_35 x0_36 x0_37 x0_44 x0_49 x0_50 a1) sz = A at hD hA hS hX ⊢
  have hl : lv_has ls 2 [(0, .ref h0), (1, .int b1)] := hl
  have hf : p_X11_isData F x0_5 a1 b1 = some r0 := hf
  refine lv_iload_n hx hb dX11_isData_0 rfl (lv_at hl 1 rfl) ?_
  refine lv_iconst (v := (0 : Int32)) hx hb dX11_isData_1 (by decide) ?_
  refine lv_aload_n hx hb dX11_isData_2 rfl (lv_at hl 0 rfl) ?_
  obtain ⟨r_3_0, hc_r_3_0, hf⟩ := of_bnd hf
  refine cl_Vi (w2 := (wW_X11_isData G h0 h1 y0_0 y0_2 y0_3 y0_4 y0_6 y0_18 y0_21 y0_22 y0_23 y0_24 y0_25 y0_26 y0_33 y0_34 y0_38 y0_39 y0_40 y0_41 y0_42 y0_43 y0_45 y0_46 y0_47 y0_48 x0_5 x0_7 x0_8 x0_9 x0_10 x0_11 x0_12 x0_13 x0_14 x0_15 x0_16 x0_17 x0_19 x0_20 x0_27 x0_28 x0_29 x0_30 x0_31 x0_32 x0_35 x0_36 x0_37 x0_44 x0_49 x0_50 a1)) (As := []) (rest := [.int (0 : Int32), .int b1]) ⟨hx, hb, hml, hown, ht0⟩ (c_X11_dataNow l G h0 h1 y0_0 y0_2 y0_3 y0_4 y0_6 y0_18 y0_21 y0_22 y0_23 y0_24 y0_25 y0_26 y0_33 y0_34 y0_38 y0_39 y0_40 y0_41 y0_42 y0_43 y0_45 y0_46 y0_47 y0_48 _ x0_5 x0_7 x0_8 x0_9 x0_10 x0_11 x0_12 x0_13 x0_14 x0_15 x0_16 x0_17 x0_19 x0_20 x0_27 x0_28 x0_29 x0_30 x0_31 x0_32 x0_35 x0_36 x0_37 x0_44 x0_49 x0_50 a1 F _ hc_r_3_0) yk_X11_dataNow wd_1398 ⟨rfl, rfl, by decide, by decide⟩ ⟨Nat.le_refl _, Nat.le_refl _⟩ hX hK hP hD hS hA [0, 1] [] [0, 1] (va_recv hK hP (ci := 11) (q0 := 0) rfl rfl) rfl rfl (by decide) rfl rfl rfl rfl rfl hl.1 rfl (Nat.le_of_ble_eq_true rfl) dX11_isData_3 (fun H locs hP hD hS => ?_)
  refine lv_iconst (v := (1 : Int32)) hx hb dX11_isData_6 (by decide) ?_
  refine lv_isub hx hb dX11_isData_7 ?_
  obtain ⟨r_8_1, hc_r_8_1, hf⟩ := of_bnd hf
  refine cl_Si (w2 := (wW_X11_isData G h0 h1 y0_0 y0_2 y0_3 y0_4 y0_6 y0_18 y0_21 y0_22 y0_23 y0_24 y0_25 y0_26 y0_33 y0_34 y0_38 y0_39 y0_40 y0_41 y0_42 y0_43 y0_45 y0_46 y0_47 y0_48 x0_5 x0_7 x0_8 x0_9 x0_10 x0_11 x0_12 x0_13 x0_14 x0_15 x0_16 x0_17 x0_19 x0_20 x0_27 x0_28 x0_29 x0_30 x0_31 x0_32 x0_35 x0_36 x0_37 x0_44 x0_49 x0_50 a1)) (As := [.int b1, .int (0 : Int32), .int (r_3_0 - (1 : Int32))]) (rest := []) ⟨hx, hb, hml, hown, ht0⟩ (c_X11_isIn l G _ F b1 (0 : Int32) (r_3_0 - (1 : Int32)) _ hc_r_8_1) yk_X11_isIn wd_1321 ⟨rfl, rfl, by decide, by decide⟩ ⟨Nat.le_refl _, Nat.le_refl _⟩ hX hK hP hD hS hA [] [0, 1] [0, 1] rfl rfl (by decide) rfl rfl rfl rfl rfl hl.1 rfl (Nat.le_of_ble_eq_true rfl) dX11_isData_8 (fun H locs hP hD hS => ?_)
  obtain ⟨g3, hf⟩ := of_grd hf
  have g3 := Decidable.not_not.mp g3
  cases hf
  exact ret_z hx hb hr hlk hK hP hD hS g3 dX11_isData_11
theorem yk_X11_isData : ykV yX11_isData RX11 cX11_isData 2 (some .boolean) 1 := ⟨wd_1617, wd_78, wd_142, wd_1618, rfl, by decide +kernel, by decide +kernel, by decide +kernel⟩
theorem dX11_isWordAt_0 : decode cX11_isWordAt 0 = .ok (.iload_n 0, 1) := by decide +kernel
theorem dX11_isWordAt_1 : decode cX11_isWordAt 1 = .ok (.iconst 0, 1) := by decide +kernel
theorem dX11_isWordAt_2 : decode cX11_isWordAt 2 = .ok (.bipush 15, 2) := by decide +kernel
theorem dX11_isWordAt_4 : decode cX11_isWordAt 4 = .ok (.invokestatic 163, 3) := by decide +kernel
theorem dX11_isWordAt_7 : decode cX11_isWordAt 7 = .ok (.ireturn, 1) := by decide +kernel
set_option maxHeartbeats 4000000 in
set_option maxRecDepth 100000 in
theorem c_X11_isWordAt (l : Launch) (G : GG) (sz : Nat)  (F : Nat) (b0 : Int32)  (r0 : Int32) (hf : p_X11_isWordAt F b0 = some r0) : Met l yX11_isWordAt (.code yX11_isWordAt cX11_isWordAt 1 (some .boolean) :: gtbl) ({ frames := 1, cells := 0, slots := 0, locals := 22 } : Room) (PcS G [.int b0] [] sz) (QiS G r0 (va_A [] sz) []) 0 0 (va_A [] sz) := by
  refine met_start (by decide) (Nat.le_of_ble_eq_true rfl) ?_
  intro p e s m below meth c hC hr hlk hnm hK hP hD hA hS hX ls hl
  obtain ⟨hx, hb, hml, hown, ht0⟩ := hC
  have hown : s.vm.findClass RX11 = some m.cls := hown
  generalize va_A [] sz = A at hD hA hS hX ⊢
  have hl : lv_has ls 1 [(0, .int b0)] := hl
  have hf : p_X11_isWordAt F b0 = some r0 := hf
  refine lv_iload_n hx hb dX11_isWordAt_0 rfl (lv_at hl 0 rfl) ?_
  refine lv_iconst (v := (0 : Int32)) hx hb dX11_isWordAt_1 (by decide) ?_
  refine lv_bipush (v := (15 : Int32)) hx hb dX11_isWordAt_2 (by decide) ?_
  obtain ⟨r_4_0, hc_r_4_0, hf⟩ := of_bnd hf
  refine cl_Si (w2 := []) (As := [.int b0, .int (0 : Int32), .int (15 : Int32)]) (rest := []) ⟨hx, hb, hml, hown, ht0⟩ (c_X11_isIn l G _ F b0 (0 : Int32) (15 : Int32) _ hc_r_4_0) yk_X11_isIn wd_1321 ⟨rfl, rfl, by decide, by decide⟩ ⟨Nat.le_refl _, Nat.le_refl _⟩ hX hK hP hD hS hA [] [] [] rfl rfl (by decide) rfl rfl rfl rfl rfl hl.1 rfl (Nat.le_of_ble_eq_true rfl) dX11_isWordAt_4 (fun H locs hP hD hS => ?_)
  obtain ⟨g2, hf⟩ := of_grd hf
  have g2 := Decidable.not_not.mp g2
  cases hf
  exact ret_z hx hb hr hlk hK hP hD hS g2 dX11_isWordAt_7
theorem yk_X11_isWordAt : ykS yX11_isWordAt cX11_isWordAt 1 (some .boolean) 1 := ⟨wd_1589, wd_142, wd_1590, by decide +kernel, by decide +kernel, by decide +kernel⟩
theorem dX11_isValue_0 : decode cX11_isValue 0 = .ok (.iload_n 1, 1) := by decide +kernel
theorem dX11_isValue_1 : decode cX11_isValue 1 = .ok (.iconst 0, 1) := by decide +kernel
theorem dX11_isValue_2 : decode cX11_isValue 2 = .ok (.iconst 1, 1) := by decide +kernel
theorem dX11_isValue_3 : decode cX11_isValue 3 = .ok (.aload_n 0, 1) := by decide +kernel
theorem dX11_isValue_4 : decode cX11_isValue 4 = .ok (.invokevirtual 221, 3) := by decide +kernel
theorem dX11_isValue_7 : decode cX11_isValue 7 = .ok (.ishl, 1) := by decide +kernel
theorem dX11_isValue_8 : decode cX11_isValue 8 = .ok (.iconst 1, 1) := by decide +kernel
theorem dX11_isValue_9 : decode cX11_isValue 9 = .ok (.isub, 1) := by decide +kernel
theorem dX11_isValue_10 : decode cX11_isValue 10 = .ok (.invokestatic 163, 3) := by decide +kernel
theorem dX11_isValue_13 : decode cX11_isValue 13 = .ok (.ireturn, 1) := by decide +kernel
def wW_X11_isValue (G : GG) (h0 h1 y0_0 y0_2 y0_3 y0_4 y0_6 y0_18 y0_21 y0_22 y0_23 y0_24 y0_25 y0_26 y0_33 y0_34 y0_38 y0_39 y0_40 y0_41 y0_42 y0_43 y0_45 y0_46 y0_47 y0_48 : Nat) (x0_5 : Int32) (x0_7 : Int32) (x0_8 : Int32) (x0_9 : Int32) (x0_10 : Int32) (x0_11 : Int32) (x0_12 : Int32) (x0_13 : Int32) (x0_14 : Int32) (x0_15 : Int32) (x0_16 : Int32) (x0_17 : Int32) (x0_19 : Int32) (x0_20 : Int32) (x0_27 : Int32) (x0_28 : Int32) (x0_29 : Int32) (x0_30 : Int32) (x0_31 : Int32) (x0_32 : Int32) (x0_35 : Int32) (x0_36 : Int32) (x0_37 : Int32) (x0_44 : Int32) (x0_49 : Int32) (x0_50 : Int32) (a1 : Nat → Int32) : va_W := [(h0, .inr (11, [.ref y0_0, .ref h1, .ref y0_2, .ref y0_3, .ref y0_4, .int x0_5, .ref y0_6, .int x0_7, .int x0_8, .int x0_9, .int x0_10, .int x0_11, .int x0_12, .int x0_13, .int x0_14, .int x0_15, .int x0_16, .int x0_17, .ref y0_18, .int x0_19, .int x0_20, .ref y0_21, .ref y0_22, .ref y0_23, .ref y0_24, .ref y0_25, .ref y0_26, .int x0_27, .int x0_28, .int x0_29, .int x0_30, .int x0_31, .int x0_32, .ref y0_33, .ref y0_34, .int x0_35, .int x0_36, .int x0_37, .ref y0_38, .ref y0_39, .ref y0_40, .ref y0_41, .ref y0_42, .ref y0_43, .int x0_44, .ref y0_45, .ref y0_46, .ref y0_47, .ref y0_48, .int x0_49, .int x0_50])), (h1, .inl (G.2.1, 2, .inl a1))]
set_option maxHeartbeats 4000000 in
set_option maxRecDepth 100000 in
theorem c_X11_isValue (l : Launch) (G : GG) (h0 h1 y0_0 y0_2 y0_3 y0_4 y0_6 y0_18 y0_21 y0_22 y0_23 y0_24 y0_25 y0_26 y0_33 y0_34 y0_38 y0_39 y0_40 y0_41 y0_42 y0_43 y0_45 y0_46 y0_47 y0_48 : Nat) (sz : Nat) (x0_5 : Int32) (x0_7 : Int32) (x0_8 : Int32) (x0_9 : Int32) (x0_10 : Int32) (x0_11 : Int32) (x0_12 : Int32) (x0_13 : Int32) (x0_14 : Int32) (x0_15 : Int32) (x0_16 : Int32) (x0_17 : Int32) (x0_19 : Int32) (x0_20 : Int32) (x0_27 : Int32) (x0_28 : Int32) (x0_29 : Int32) (x0_30 : Int32) (x0_31 : Int32) (x0_32 : Int32) (x0_35 : Int32) (x0_36 : Int32) (x0_37 : Int32) (x0_44 : Int32) (x0_49 : Int32) (x0_50 : Int32) (a1 : Nat → Int32) (F : Nat) (b1 : Int32)  (r0 : Int32) (hf : p_X11_isValue F x0_5 a1 b1 = some r0) : Met l yX11_isValue (.code yX11_isValue cX11_isValue 2 (some .boolean) :: gtbl) ({ frames := 1, cells := 0, slots := 0, locals := 22 } : Room) (PcS G [.ref h0, .int b1] (wW_X11_isValue G h0 h1 y0_0 y0_2 y0_3 y0_4 y0_6 y0_18 y0_21 y0_22 y0_23 y0_24 y0_25 y0_26 y0_33 y0_34 y0_38 y0_39 y0_40 y0_41 y0_42 y0_43 y0_45 y0_46 y0_47 y0_48 x0_5 x0_7 x0_8 x0_9 x0_10 x0_11 x0_12 x0_13 x0_14 x0_15 x0_16 x0_17 x0_19 x0_20 x0_27 x0_28 x0_29 x0_30 x0_31 x0_32 x0_35 x0_36 x0_37 x0_44 x0_49 x0_50 a1) sz) (QiS G r0 (va_A (wW_X11_isValue G h0 h1 y0_0 y0_2 y0_3 y0_4 y0_6 y0_18 y0_21 y0_22 y0_23 y0_24 y0_25 y0_26 y0_33 y0_34 y0_38 y0_39 y0_40 y0_41 y0_42 y0_43 y0_45 y0_46 y0_47 y0_48 x0_5 x0_7 x0_8 x0_9 x0_10 x0_11 x0_12 x0_13 x0_14 x0_15 x0_16 x0_17 x0_19 x0_20 x0_27 x0_28 x0_29 x0_30 x0_31 x0_32 x0_35 x0_36 x0_37 x0_44 x0_49 x0_50 a1) sz) (wW_X11_isValue G h0 h1 y0_0 y0_2 y0_3 y0_4 y0_6 y0_18 y0_21 y0_22 y0_23 y0_24 y0_25 y0_26 y0_33 y0_34 y0_38 y0_39 y0_40 y0_41 y0_42 y0_43 y0_45 y0_46 y0_47 y0_48 x0_5 x0_7 x0_8 x0_9 x0_10 x0_11 x0_12 x0_13 x0_14 x0_15 x0_16 x0_17 x0_19 x0_20 x0_27 x0_28 x0_29 x0_30 x0_31 x0_32 x0_35 x0_36 x0_37 x0_44 x0_49 x0_50 a1)) 0 0 (va_A (wW_X11_isValue G h0 h1 y0_0 y0_2 y0_3 y0_4 y0_6 y0_18 y0_21 y0_22 y0_23 y0_24 y0_25 y0_26 y0_33 y0_34 y0_38 y0_39 y0_40 y0_41 y0_42 y0_43 y0_45 y0_46 y0_47 y0_48 x0_5 x0_7 x0_8 x0_9 x0_10 x0_11 x0_12 x0_13 x0_14 x0_15 x0_16 x0_17 x0_19 x0_20 x0_27 x0_28 x0_29 x0_30 x0_31 x0_32 x0_35 x0_36 x0_37 x0_44 x0_49 x0_50 a1) sz) := by
  refine met_start (by decide) (Nat.le_of_ble_eq_true rfl) ?_
  intro p e s m below meth c hC hr hlk hnm hK hP hD hA hS hX ls hl
  obtain ⟨hx, hb, hml, hown, ht0⟩ := hC
  have hown : s.vm.findClass RX11 = some m.cls := hown
  generalize va_A (wW_X11_isValue G h0 h1 y0_0 y0_2 y0_3 y0_4 y0_6 y0_18 y0_21 y0_22 y0_23 y0_24 y0_25 y0_26 y0_33 y0_34 y0_38 y0_39 y0_40 y0_41 y0_42 y0_43 y0_45 y0_46 y0_47 y0_48 x0_5 x0_7 x0_8 x0_9 x0_10 x0_11 x0_12 x0_13 x0_14 x0_15 x0_16 x0_17 x0_19 x0_20 x0_27 x0_28 x0_29 x0_30 x0_31 x0_32 x0_35 x0_36 x0_37 x0_44 x0_49 x0_50 a1) sz = A at hD hA hS hX ⊢
  have hl : lv_has ls 2 [(0, .ref h0), (1, .int b1)] := hl
  have hf : p_X11_isValue F x0_5 a1 b1 = some r0 := hf
  refine lv_iload_n hx hb dX11_isValue_0 rfl (lv_at hl 1 rfl) ?_
  refine lv_iconst (v := (0 : Int32)) hx hb dX11_isValue_1 (by decide) ?_
  refine lv_iconst (v := (1 : Int32)) hx hb dX11_isValue_2 (by decide) ?_
  refine lv_aload_n hx hb dX11_isValue_3 rfl (lv_at hl 0 rfl) ?_
  obtain ⟨r_4_0, hc_r_4_0, hf⟩ := of_bnd hf
  refine cl_Vi (w2 := (wW_X11_isValue G h0 h1 y0_0 y0_2 y0_3 y0_4 y0_6 y0_18 y0_21 y0_22 y0_23 y0_24 y0_25 y0_26 y0_33 y0_34 y0_38 y0_39 y0_40 y0_41 y0_42 y0_43 y0_45 y0_46 y0_47 y0_48 x0_5 x0_7 x0_8 x0_9 x0_10 x0_11 x0_12 x0_13 x0_14 x0_15 x0_16 x0_17 x0_19 x0_20 x0_27 x0_28 x0_29 x0_30 x0_31 x0_32 x0_35 x0_36 x0_37 x0_44 x0_49 x0_50 a1)) (As := []) (rest := [.int (1 : Int32), .int (0 : Int32), .int b1]) ⟨hx, hb, hml, hown, ht0⟩ (c_X11_dataNow l G h0 h1 y0_0 y0_2 y0_3 y0_4 y0_6 y0_18 y0_21 y0_22 y0_23 y0_24 y0_25 y0_26 y0_33 y0_34 y0_38 y0_39 y0_40 y0_41 y0_42 y0_43 y0_45 y0_46 y0_47 y0_48 _ x0_5 x0_7 x0_8 x0_9 x0_10 x0_11 x0_12 x0_13 x0_14 x0_15 x0_16 x0_17 x0_19 x0_20 x0_27 x0_28 x0_29 x0_30 x0_31 x0_32 x0_35 x0_36 x0_37 x0_44 x0_49 x0_50 a1 F _ hc_r_4_0) yk_X11_dataNow wd_1398 ⟨rfl, rfl, by decide, by decide⟩ ⟨Nat.le_refl _, Nat.le_refl _⟩ hX hK hP hD hS hA [0, 1] [] [0, 1] (va_recv hK hP (ci := 11) (q0 := 0) rfl rfl) rfl rfl (by decide) rfl rfl rfl rfl rfl hl.1 rfl (Nat.le_of_ble_eq_true rfl) dX11_isValue_4 (fun H locs hP hD hS => ?_)
  refine lv_ishl hx hb dX11_isValue_7 ?_
  refine lv_iconst (v := (1 : Int32)) hx hb dX11_isValue_8 (by decide) ?_
  refine lv_isub hx hb dX11_isValue_9 ?_
  obtain ⟨r_10_1, hc_r_10_1, hf⟩ := of_bnd hf
  refine cl_Si (w2 := (wW_X11_isValue G h0 h1 y0_0 y0_2 y0_3 y0_4 y0_6 y0_18 y0_21 y0_22 y0_23 y0_24 y0_25 y0_26 y0_33 y0_34 y0_38 y0_39 y0_40 y0_41 y0_42 y0_43 y0_45 y0_46 y0_47 y0_48 x0_5 x0_7 x0_8 x0_9 x0_10 x0_11 x0_12 x0_13 x0_14 x0_15 x0_16 x0_17 x0_19 x0_20 x0_27 x0_28 x0_29 x0_30 x0_31 x0_32 x0_35 x0_36 x0_37 x0_44 x0_49 x0_50 a1)) (As := [.int b1, .int (0 : Int32), .int (((1 : Int32) <<< (r_4_0 &&& 31)) - (1 : Int32))]) (rest := []) ⟨hx, hb, hml, hown, ht0⟩ (c_X11_isIn l G _ F b1 (0 : Int32) (((1 : Int32) <<< (r_4_0 &&& 31)) - (1 : Int32)) _ hc_r_10_1) yk_X11_isIn wd_1321 ⟨rfl, rfl, by decide, by decide⟩ ⟨Nat.le_refl _, Nat.le_refl _⟩ hX hK hP hD hS hA [] [0, 1] [0, 1] rfl rfl (by decide) rfl rfl rfl rfl rfl hl.1 rfl (Nat.le_of_ble_eq_true rfl) dX11_isValue_10 (fun H locs hP hD hS => ?_)
  obtain ⟨g3, hf⟩ := of_grd hf
  have g3 := Decidable.not_not.mp g3
  cases hf
  exact ret_z hx hb hr hlk hK hP hD hS g3 dX11_isValue_13
theorem yk_X11_isValue : ykV yX11_isValue RX11 cX11_isValue 2 (some .boolean) 1 := ⟨wd_1593, wd_72, wd_142, wd_1594, rfl, by decide +kernel, by decide +kernel, by decide +kernel⟩
theorem dX11_bitOf_0 : decode cX11_bitOf 0 = .ok (.aload_n 0, 1) := by decide +kernel
theorem dX11_bitOf_1 : decode cX11_bitOf 1 = .ok (.iload_n 2, 1) := by decide +kernel
theorem dX11_bitOf_2 : decode cX11_bitOf 2 = .ok (.invokevirtual 272, 3) := by decide +kernel
theorem dX11_bitOf_5 : decode cX11_bitOf 5 = .ok (.ifCond .eq 19, 3) := by decide +kernel
theorem dX11_bitOf_8 : decode cX11_bitOf 8 = .ok (.aload_n 0, 1) := by decide +kernel
theorem dX11_bitOf_9 : decode cX11_bitOf 9 = .ok (.getfield 7, 3) := by decide +kernel
theorem dX11_bitOf_12 : decode cX11_bitOf 12 = .ok (.bipush 33, 2) := by decide +kernel
theorem dX11_bitOf_14 : decode cX11_bitOf 14 = .ok (.iload_n 1, 1) := by decide +kernel
theorem dX11_bitOf_15 : decode cX11_bitOf 15 = .ok (.iadd, 1) := by decide +kernel
theorem dX11_bitOf_16 : decode cX11_bitOf 16 = .ok (.iaload, 1) := by decide +kernel
theorem dX11_bitOf_17 : decode cX11_bitOf 17 = .ok (.iload_n 2, 1) := by decide +kernel
theorem dX11_bitOf_18 : decode cX11_bitOf 18 = .ok (.ishr, 1) := by decide +kernel
theorem dX11_bitOf_19 : decode cX11_bitOf 19 = .ok (.iconst 1, 1) := by decide +kernel
theorem dX11_bitOf_20 : decode cX11_bitOf 20 = .ok (.iand, 1) := by decide +kernel
theorem dX11_bitOf_21 : decode cX11_bitOf 21 = .ok (.goto 21, 3) := by decide +kernel
theorem dX11_bitOf_24 : decode cX11_bitOf 24 = .ok (.aload_n 0, 1) := by decide +kernel
theorem dX11_bitOf_25 : decode cX11_bitOf 25 = .ok (.getfield 7, 3) := by decide +kernel
theorem dX11_bitOf_28 : decode cX11_bitOf 28 = .ok (.bipush 49, 2) := by decide +kernel
theorem dX11_bitOf_30 : decode cX11_bitOf 30 = .ok (.iload_n 1, 1) := by decide +kernel
theorem dX11_bitOf_31 : decode cX11_bitOf 31 = .ok (.iadd, 1) := by decide +kernel
theorem dX11_bitOf_32 : decode cX11_bitOf 32 = .ok (.iaload, 1) := by decide +kernel
theorem dX11_bitOf_33 : decode cX11_bitOf 33 = .ok (.iload_n 2, 1) := by decide +kernel
theorem dX11_bitOf_34 : decode cX11_bitOf 34 = .ok (.aload_n 0, 1) := by decide +kernel
theorem dX11_bitOf_35 : decode cX11_bitOf 35 = .ok (.invokevirtual 221, 3) := by decide +kernel
theorem dX11_bitOf_38 : decode cX11_bitOf 38 = .ok (.isub, 1) := by decide +kernel
theorem dX11_bitOf_39 : decode cX11_bitOf 39 = .ok (.ishr, 1) := by decide +kernel
theorem dX11_bitOf_40 : decode cX11_bitOf 40 = .ok (.iconst 1, 1) := by decide +kernel
theorem dX11_bitOf_41 : decode cX11_bitOf 41 = .ok (.iand, 1) := by decide +kernel
theorem dX11_bitOf_42 : decode cX11_bitOf 42 = .ok (.ireturn, 1) := by decide +kernel
def wW_X11_bitOf (G : GG) (h0 h1 h2 y0_2 y0_3 y0_4 y0_6 y0_18 y0_21 y0_22 y0_23 y0_24 y0_25 y0_26 y0_33 y0_34 y0_38 y0_39 y0_40 y0_41 y0_42 y0_43 y0_45 y0_46 y0_47 y0_48 : Nat) (x0_5 : Int32) (x0_7 : Int32) (x0_8 : Int32) (x0_9 : Int32) (x0_10 : Int32) (x0_11 : Int32) (x0_12 : Int32) (x0_13 : Int32) (x0_14 : Int32) (x0_15 : Int32) (x0_16 : Int32) (x0_17 : Int32) (x0_19 : Int32) (x0_20 : Int32) (x0_27 : Int32) (x0_28 : Int32) (x0_29 : Int32) (x0_30 : Int32) (x0_31 : Int32) (x0_32 : Int32) (x0_35 : Int32) (x0_36 : Int32) (x0_37 : Int32) (x0_44 : Int32) (x0_49 : Int32) (x0_50 : Int32) (a1 : Nat → Int32) (a2 : Nat → Int32) : va_W := [(h0, .inr (11, [.ref h1, .ref h2, .ref y0_2, .ref y0_3, .ref y0_4, .int x0_5, .ref y0_6, .int x0_7, .int x0_8, .int x0_9, .int x0_10, .int x0_11, .int x0_12, .int x0_13, .int x0_14, .int x0_15, .int x0_16, .int x0_17, .ref y0_18, .int x0_19, .int x0_20, .ref y0_21, .ref y0_22, .ref y0_23, .ref y0_24, .ref y0_25, .ref y0_26, .int x0_27, .int x0_28, .int x0_29, .int x0_30, .int x0_31, .int x0_32, .ref y0_33, .ref y0_34, .int x0_35, .int x0_36, .int x0_37, .ref y0_38, .ref y0_39, .ref y0_40, .ref y0_41, .ref y0_42, .ref y0_43, .int x0_44, .ref y0_45, .ref y0_46, .ref y0_47, .ref y0_48, .int x0_49, .int x0_50])), (h1, .inl (G.2.1, 121, .inl a1)), (h2, .inl (G.2.1, 2, .inl a2))]
set_option maxHeartbeats 4000000 in
set_option maxRecDepth 100000 in
theorem c_X11_bitOf (l : Launch) (G : GG) (h0 h1 h2 y0_2 y0_3 y0_4 y0_6 y0_18 y0_21 y0_22 y0_23 y0_24 y0_25 y0_26 y0_33 y0_34 y0_38 y0_39 y0_40 y0_41 y0_42 y0_43 y0_45 y0_46 y0_47 y0_48 : Nat) (sz : Nat) (x0_5 : Int32) (x0_7 : Int32) (x0_8 : Int32) (x0_9 : Int32) (x0_10 : Int32) (x0_11 : Int32) (x0_12 : Int32) (x0_13 : Int32) (x0_14 : Int32) (x0_15 : Int32) (x0_16 : Int32) (x0_17 : Int32) (x0_19 : Int32) (x0_20 : Int32) (x0_27 : Int32) (x0_28 : Int32) (x0_29 : Int32) (x0_30 : Int32) (x0_31 : Int32) (x0_32 : Int32) (x0_35 : Int32) (x0_36 : Int32) (x0_37 : Int32) (x0_44 : Int32) (x0_49 : Int32) (x0_50 : Int32) (a1 : Nat → Int32) (a2 : Nat → Int32) (F : Nat) (b1 : Int32) (b2 : Int32)  (r0 : Int32) (hf : p_X11_bitOf F x0_5 a1 a2 b1 b2 = some r0) : Met l yX11_bitOf (.code yX11_bitOf cX11_bitOf 3 (some .int) :: gtbl) ({ frames := 2, cells := 0, slots := 0, locals := 43 } : Room) (PcS G [.ref h0, .int b1, .int b2] (wW_X11_bitOf G h0 h1 h2 y0_2 y0_3 y0_4 y0_6 y0_18 y0_21 y0_22 y0_23 y0_24 y0_25 y0_26 y0_33 y0_34 y0_38 y0_39 y0_40 y0_41 y0_42 y0_43 y0_45 y0_46 y0_47 y0_48 x0_5 x0_7 x0_8 x0_9 x0_10 x0_11 x0_12 x0_13 x0_14 x0_15 x0_16 x0_17 x0_19 x0_20 x0_27 x0_28 x0_29 x0_30 x0_31 x0_32 x0_35 x0_36 x0_37 x0_44 x0_49 x0_50 a1 a2) sz) (QiS G r0 (va_A (wW_X11_bitOf G h0 h1 h2 y0_2 y0_3 y0_4 y0_6 y0_18 y0_21 y0_22 y0_23 y0_24 y0_25 y0_26 y0_33 y0_34 y0_38 y0_39 y0_40 y0_41 y0_42 y0_43 y0_45 y0_46 y0_47 y0_48 x0_5 x0_7 x0_8 x0_9 x0_10 x0_11 x0_12 x0_13 x0_14 x0_15 x0_16 x0_17 x0_19 x0_20 x0_27 x0_28 x0_29 x0_30 x0_31 x0_32 x0_35 x0_36 x0_37 x0_44 x0_49 x0_50 a1 a2) sz) (wW_X11_bitOf G h0 h1 h2 y0_2 y0_3 y0_4 y0_6 y0_18 y0_21 y0_22 y0_23 y0_24 y0_25 y0_26 y0_33 y0_34 y0_38 y0_39 y0_40 y0_41 y0_42 y0_43 y0_45 y0_46 y0_47 y0_48 x0_5 x0_7 x0_8 x0_9 x0_10 x0_11 x0_12 x0_13 x0_14 x0_15 x0_16 x0_17 x0_19 x0_20 x0_27 x0_28 x0_29 x0_30 x0_31 x0_32 x0_35 x0_36 x0_37 x0_44 x0_49 x0_50 a1 a2)) 0 0 (va_A (wW_X11_bitOf G h0 h1 h2 y0_2 y0_3 y0_4 y0_6 y0_18 y0_21 y0_22 y0_23 y0_24 y0_25 y0_26 y0_33 y0_34 y0_38 y0_39 y0_40 y0_41 y0_42 y0_43 y0_45 y0_46 y0_47 y0_48 x0_5 x0_7 x0_8 x0_9 x0_10 x0_11 x0_12 x0_13 x0_14 x0_15 x0_16 x0_17 x0_19 x0_20 x0_27 x0_28 x0_29 x0_30 x0_31 x0_32 x0_35 x0_36 x0_37 x0_44 x0_49 x0_50 a1 a2) sz) := by
  refine met_start (by decide) (Nat.le_of_ble_eq_true rfl) ?_
  intro p e s m below meth c hC hr hlk hnm hK hP hD hA hS hX ls hl
  obtain ⟨hx, hb, hml, hown, ht0⟩ := hC
  have hown : s.vm.findClass RX11 = some m.cls := hown
  generalize va_A (wW_X11_bitOf G h0 h1 h2 y0_2 y0_3 y0_4 y0_6 y0_18 y0_21 y0_22 y0_23 y0_24 y0_25 y0_26 y0_33 y0_34 y0_38 y0_39 y0_40 y0_41 y0_42 y0_43 y0_45 y0_46 y0_47 y0_48 x0_5 x0_7 x0_8 x0_9 x0_10 x0_11 x0_12 x0_13 x0_14 x0_15 x0_16 x0_17 x0_19 x0_20 x0_27 x0_28 x0_29 x0_30 x0_31 x0_32 x0_35 x0_36 x0_37 x0_44 x0_49 x0_50 a1 a2) sz = A at hD hA hS hX ⊢
  have hl : lv_has ls 3 [(0, .ref h0), (1, .int b1), (2, .int b2)] := hl
  have hf : p_X11_bitOf F x0_5 a1 a2 b1 b2 = some r0 := hf
  refine lv_aload_n hx hb dX11_bitOf_0 rfl (lv_at hl 0 rfl) ?_
  refine lv_iload_n hx hb dX11_bitOf_1 rfl (lv_at hl 2 rfl) ?_
  obtain ⟨r_2_0, hc_r_2_0, hf⟩ := of_bnd hf
  refine cl_Vi (w2 := (wW_X11_bitOf G h0 h1 h2 y0_2 y0_3 y0_4 y0_6 y0_18 y0_21 y0_22 y0_23 y0_24 y0_25 y0_26 y0_33 y0_34 y0_38 y0_39 y0_40 y0_41 y0_42 y0_43 y0_45 y0_46 y0_47 y0_48 x0_5 x0_7 x0_8 x0_9 x0_10 x0_11 x0_12 x0_13 x0_14 x0_15 x0_16 x0_17 x0_19 x0_20 x0_27 x0_28 x0_29 x0_30 x0_31 x0_32 x0_35 x0_36 x0_37 x0_44 x0_49 x0_50 a1 a2)) (As := [.int b2]) (rest := []) ⟨hx, hb, hml, hown, ht0⟩ (c_X11_isData l G h0 h2 h1 y0_2 y0_3 y0_4 y0_6 y0_18 y0_21 y0_22 y0_23 y0_24 y0_25 y0_26 y0_33 y0_34 y0_38 y0_39 y0_40 y0_41 y0_42 y0_43 y0_45 y0_46 y0_47 y0_48 _ x0_5 x0_7 x0_8 x0_9 x0_10 x0_11 x0_12 x0_13 x0_14 x0_15 x0_16 x0_17 x0_19 x0_20 x0_27 x0_28 x0_29 x0_30 x0_31 x0_32 x0_35 x0_36 x0_37 x0_44 x0_49 x0_50 a2 F b2 _ hc_r_2_0) yk_X11_isData wd_1615 ⟨rfl, rfl, by decide, by decide⟩ ⟨Nat.le_refl _, Nat.le_refl _⟩ hX hK hP hD hS hA [0, 2] [1] [1, 0, 2] (va_recv hK hP (ci := 11) (q0 := 0) rfl rfl) rfl rfl (by decide) rfl rfl rfl rfl rfl hl.1 rfl (Nat.le_of_ble_eq_true rfl) dX11_bitOf_2 (fun H locs hP hD hS => ?_)
  refine lv_if_eq (tgt := 24) hx hb dX11_bitOf_5 (by decide) (fun c2 => ?_) (fun c2 => ?_)
  · have hf := of_pos hf c2
    refine lv_aload_n hx hb dX11_bitOf_24 rfl (lv_at hl 0 rfl) ?_
    refine va_get (ci := 11) (v := .ref h1) (C := RX11) (T := TX11) (N := 51) hx hb ht0 iX11 hown hK hP 0 rfl rfl 0 (by decide) (ht0 _ wd_1406) (fun _ h9 => h9) rfl dX11_bitOf_25 ?_
    refine lv_bipush (v := (49 : Int32)) hx hb dX11_bitOf_28 (by decide) ?_
    refine lv_iload_n hx hb dX11_bitOf_30 rfl (lv_at hl 1 rfl) ?_
    refine lv_iadd hx hb dX11_bitOf_31 ?_
    obtain ⟨g3, hf⟩ := of_grd hf
    refine va_iald hx hb hK hP 1 0 rfl rfl g3 dX11_bitOf_32 ?_
    refine lv_iload_n hx hb dX11_bitOf_33 rfl (lv_at hl 2 rfl) ?_
    refine lv_aload_n hx hb dX11_bitOf_34 rfl (lv_at hl 0 rfl) ?_
    obtain ⟨r_35_3, hc_r_35_3, hf⟩ := of_bnd hf
    refine cl_Vi (w2 := (wW_X11_bitOf G h0 h1 h2 y0_2 y0_3 y0_4 y0_6 y0_18 y0_21 y0_22 y0_23 y0_24 y0_25 y0_26 y0_33 y0_34 y0_38 y0_39 y0_40 y0_41 y0_42 y0_43 y0_45 y0_46 y0_47 y0_48 x0_5 x0_7 x0_8 x0_9 x0_10 x0_11 x0_12 x0_13 x0_14 x0_15 x0_16 x0_17 x0_19 x0_20 x0_27 x0_28 x0_29 x0_30 x0_31 x0_32 x0_35 x0_36 x0_37 x0_44 x0_49 x0_50 a1 a2)) (As := []) (rest := [.int b2, .int (a1 ((49 : Int32) + b1).toNatClampNeg)]) ⟨hx, hb, hml, hown, ht0⟩ (c_X11_dataNow l G h0 h2 h1 y0_2 y0_3 y0_4 y0_6 y0_18 y0_21 y0_22 y0_23 y0_24 y0_25 y0_26 y0_33 y0_34 y0_38 y0_39 y0_40 y0_41 y0_42 y0_43 y0_45 y0_46 y0_47 y0_48 _ x0_5 x0_7 x0_8 x0_9 x0_10 x0_11 x0_12 x0_13 x0_14 x0_15 x0_16 x0_17 x0_19 x0_20 x0_27 x0_28 x0_29 x0_30 x0_31 x0_32 x0_35 x0_36 x0_37 x0_44 x0_49 x0_50 a2 F _ hc_r_35_3) yk_X11_dataNow wd_1398 ⟨rfl, rfl, by decide, by decide⟩ ⟨Nat.le_refl _, Nat.le_refl _⟩ hX hK hP hD hS hA [0, 2] [1] [1, 0, 2] (va_recv hK hP (ci := 11) (q0 := 0) rfl rfl) rfl rfl (by decide) rfl rfl rfl rfl rfl hl.1 rfl (Nat.le_of_ble_eq_true rfl) dX11_bitOf_35 (fun H locs hP hD hS => ?_)
    refine lv_isub hx hb dX11_bitOf_38 ?_
    refine lv_ishr hx hb dX11_bitOf_39 ?_
    refine lv_iconst (v := (1 : Int32)) hx hb dX11_bitOf_40 (by decide) ?_
    refine lv_iand hx hb dX11_bitOf_41 ?_
    cases hf
    exact ret_i hx hb hr hlk hK hP hD hS dX11_bitOf_42
  · have hf := of_neg hf c2
    refine lv_aload_n hx hb dX11_bitOf_8 rfl (lv_at hl 0 rfl) ?_
    refine va_get (ci := 11) (v := .ref h1) (C := RX11) (T := TX11) (N := 51) hx hb ht0 iX11 hown hK hP 0 rfl rfl 0 (by decide) (ht0 _ wd_1406) (fun _ h9 => h9) rfl dX11_bitOf_9 ?_
    refine lv_bipush (v := (33 : Int32)) hx hb dX11_bitOf_12 (by decide) ?_
    refine lv_iload_n hx hb dX11_bitOf_14 rfl (lv_at hl 1 rfl) ?_
    refine lv_iadd hx hb dX11_bitOf_15 ?_
    obtain ⟨g5, hf⟩ := of_grd hf
    refine va_iald hx hb hK hP 1 0 rfl rfl g5 dX11_bitOf_16 ?_
    refine lv_iload_n hx hb dX11_bitOf_17 rfl (lv_at hl 2 rfl) ?_
    refine lv_ishr hx hb dX11_bitOf_18 ?_
    refine lv_iconst (v := (1 : Int32)) hx hb dX11_bitOf_19 (by decide) ?_
    refine lv_iand hx hb dX11_bitOf_20 ?_
    refine lv_goto (tgt := 42) hx hb dX11_bitOf_21 (by decide) ?_
    cases hf
    exact ret_i hx hb hr hlk hK hP hD hS dX11_bitOf_42
theorem yk_X11_bitOf : ykV yX11_bitOf RX11 cX11_bitOf 3 (some .int) 2 := ⟨wd_1613, wd_77, wd_142, wd_1614, rfl, by decide +kernel, by decide +kernel, by decide +kernel⟩
theorem dX11_setBit_0 : decode cX11_setBit 0 = .ok (.aload_n 0, 1) := by decide +kernel
theorem dX11_setBit_1 : decode cX11_setBit 1 = .ok (.iload_n 1, 1) := by decide +kernel
theorem dX11_setBit_2 : decode cX11_setBit 2 = .ok (.iload_n 2, 1) := by decide +kernel
theorem dX11_setBit_3 : decode cX11_setBit 3 = .ok (.invokevirtual 275, 3) := by decide +kernel
theorem dX11_setBit_6 : decode cX11_setBit 6 = .ok (.iload_n 3, 1) := by decide +kernel
theorem dX11_setBit_7 : decode cX11_setBit 7 = .ok (.if_icmp .ne 4, 3) := by decide +kernel
theorem dX11_setBit_10 : decode cX11_setBit 10 = .ok (.return_, 1) := by decide +kernel
theorem dX11_setBit_11 : decode cX11_setBit 11 = .ok (.aload_n 0, 1) := by decide +kernel
theorem dX11_setBit_12 : decode cX11_setBit 12 = .ok (.iload_n 2, 1) := by decide +kernel
theorem dX11_setBit_13 : decode cX11_setBit 13 = .ok (.invokevirtual 272, 3) := by decide +kernel
theorem dX11_setBit_16 : decode cX11_setBit 16 = .ok (.ifCond .eq 21, 3) := by decide +kernel
theorem dX11_setBit_19 : decode cX11_setBit 19 = .ok (.aload_n 0, 1) := by decide +kernel
theorem dX11_setBit_20 : decode cX11_setBit 20 = .ok (.getfield 7, 3) := by decide +kernel
theorem dX11_setBit_23 : decode cX11_setBit 23 = .ok (.bipush 33, 2) := by decide +kernel
theorem dX11_setBit_25 : decode cX11_setBit 25 = .ok (.iload_n 1, 1) := by decide +kernel
theorem dX11_setBit_26 : decode cX11_setBit 26 = .ok (.iadd, 1) := by decide +kernel
theorem dX11_setBit_27 : decode cX11_setBit 27 = .ok (.dup2, 1) := by decide +kernel
theorem dX11_setBit_28 : decode cX11_setBit 28 = .ok (.iaload, 1) := by decide +kernel
theorem dX11_setBit_29 : decode cX11_setBit 29 = .ok (.iconst 1, 1) := by decide +kernel
theorem dX11_setBit_30 : decode cX11_setBit 30 = .ok (.iload_n 2, 1) := by decide +kernel
theorem dX11_setBit_31 : decode cX11_setBit 31 = .ok (.ishl, 1) := by decide +kernel
theorem dX11_setBit_32 : decode cX11_setBit 32 = .ok (.ixor, 1) := by decide +kernel
theorem dX11_setBit_33 : decode cX11_setBit 33 = .ok (.iastore, 1) := by decide +kernel
theorem dX11_setBit_34 : decode cX11_setBit 34 = .ok (.goto 23, 3) := by decide +kernel
theorem dX11_setBit_37 : decode cX11_setBit 37 = .ok (.aload_n 0, 1) := by decide +kernel
theorem dX11_setBit_38 : decode cX11_setBit 38 = .ok (.getfield 7, 3) := by decide +kernel
theorem dX11_setBit_41 : decode cX11_setBit 41 = .ok (.bipush 49, 2) := by decide +kernel
theorem dX11_setBit_43 : decode cX11_setBit 43 = .ok (.iload_n 1, 1) := by decide +kernel
theorem dX11_setBit_44 : decode cX11_setBit 44 = .ok (.iadd, 1) := by decide +kernel
theorem dX11_setBit_45 : decode cX11_setBit 45 = .ok (.dup2, 1) := by decide +kernel
theorem dX11_setBit_46 : decode cX11_setBit 46 = .ok (.iaload, 1) := by decide +kernel
theorem dX11_setBit_47 : decode cX11_setBit 47 = .ok (.iconst 1, 1) := by decide +kernel
theorem dX11_setBit_48 : decode cX11_setBit 48 = .ok (.iload_n 2, 1) := by decide +kernel
theorem dX11_setBit_49 : decode cX11_setBit 49 = .ok (.aload_n 0, 1) := by decide +kernel
theorem dX11_setBit_50 : decode cX11_setBit 50 = .ok (.invokevirtual 221, 3) := by decide +kernel
theorem dX11_setBit_53 : decode cX11_setBit 53 = .ok (.isub, 1) := by decide +kernel
theorem dX11_setBit_54 : decode cX11_setBit 54 = .ok (.ishl, 1) := by decide +kernel
theorem dX11_setBit_55 : decode cX11_setBit 55 = .ok (.ixor, 1) := by decide +kernel
theorem dX11_setBit_56 : decode cX11_setBit 56 = .ok (.iastore, 1) := by decide +kernel
theorem dX11_setBit_57 : decode cX11_setBit 57 = .ok (.return_, 1) := by decide +kernel
def wW_X11_setBit (G : GG) (h0 h1 h2 y0_2 y0_3 y0_4 y0_6 y0_18 y0_21 y0_22 y0_23 y0_24 y0_25 y0_26 y0_33 y0_34 y0_38 y0_39 y0_40 y0_41 y0_42 y0_43 y0_45 y0_46 y0_47 y0_48 : Nat) (x0_5 : Int32) (x0_7 : Int32) (x0_8 : Int32) (x0_9 : Int32) (x0_10 : Int32) (x0_11 : Int32) (x0_12 : Int32) (x0_13 : Int32) (x0_14 : Int32) (x0_15 : Int32) (x0_16 : Int32) (x0_17 : Int32) (x0_19 : Int32) (x0_20 : Int32) (x0_27 : Int32) (x0_28 : Int32) (x0_29 : Int32) (x0_30 : Int32) (x0_31 : Int32) (x0_32 : Int32) (x0_35 : Int32) (x0_36 : Int32) (x0_37 : Int32) (x0_44 : Int32) (x0_49 : Int32) (x0_50 : Int32) (a1 : Nat → Int32) (a2 : Nat → Int32) : va_W := [(h0, .inr (11, [.ref h1, .ref h2, .ref y0_2, .ref y0_3, .ref y0_4, .int x0_5, .ref y0_6, .int x0_7, .int x0_8, .int x0_9, .int x0_10, .int x0_11, .int x0_12, .int x0_13, .int x0_14, .int x0_15, .int x0_16, .int x0_17, .ref y0_18, .int x0_19, .int x0_20, .ref y0_21, .ref y0_22, .ref y0_23, .ref y0_24, .ref y0_25, .ref y0_26, .int x0_27, .int x0_28, .int x0_29, .int x0_30, .int x0_31, .int x0_32, .ref y0_33, .ref y0_34, .int x0_35, .int x0_36, .int x0_37, .ref y0_38, .ref y0_39, .ref y0_40, .ref y0_41, .ref y0_42, .ref y0_43, .int x0_44, .ref y0_45, .ref y0_46, .ref y0_47, .ref y0_48, .int x0_49, .int x0_50])), (h1, .inl (G.2.1, 121, .inl a1)), (h2, .inl (G.2.1, 2, .inl a2))]
set_option maxHeartbeats 4000000 in
set_option maxRecDepth 100000 in
theorem c_X11_setBit (l : Launch) (G : GG) (h0 h1 h2 y0_2 y0_3 y0_4 y0_6 y0_18 y0_21 y0_22 y0_23 y0_24 y0_25 y0_26 y0_33 y0_34 y0_38 y0_39 y0_40 y0_41 y0_42 y0_43 y0_45 y0_46 y0_47 y0_48 : Nat) (sz : Nat) (x0_5 : Int32) (x0_7 : Int32) (x0_8 : Int32) (x0_9 : Int32) (x0_10 : Int32) (x0_11 : Int32) (x0_12 : Int32) (x0_13 : Int32) (x0_14 : Int32) (x0_15 : Int32) (x0_16 : Int32) (x0_17 : Int32) (x0_19 : Int32) (x0_20 : Int32) (x0_27 : Int32) (x0_28 : Int32) (x0_29 : Int32) (x0_30 : Int32) (x0_31 : Int32) (x0_32 : Int32) (x0_35 : Int32) (x0_36 : Int32) (x0_37 : Int32) (x0_44 : Int32) (x0_49 : Int32) (x0_50 : Int32) (a1 : Nat → Int32) (a2 : Nat → Int32) (F : Nat) (b1 : Int32) (b2 : Int32) (b3 : Int32)  (e_a1 : Nat → Int32) (hf : p_X11_setBit F x0_5 a1 a2 b1 b2 b3 = some e_a1) : Met l yX11_setBit (.code yX11_setBit cX11_setBit 4 none :: gtbl) ({ frames := 3, cells := 0, slots := 0, locals := 65 } : Room) (PcS G [.ref h0, .int b1, .int b2, .int b3] (wW_X11_setBit G h0 h1 h2 y0_2 y0_3 y0_4 y0_6 y0_18 y0_21 y0_22 y0_23 y0_24 y0_25 y0_26 y0_33 y0_34 y0_38 y0_39 y0_40 y0_41 y0_42 y0_43 y0_45 y0_46 y0_47 y0_48 x0_5 x0_7 x0_8 x0_9 x0_10 x0_11 x0_12 x0_13 x0_14 x0_15 x0_16 x0_17 x0_19 x0_20 x0_27 x0_28 x0_29 x0_30 x0_31 x0_32 x0_35 x0_36 x0_37 x0_44 x0_49 x0_50 a1 a2) sz) (QvS G (va_A (wW_X11_setBit G h0 h1 h2 y0_2 y0_3 y0_4 y0_6 y0_18 y0_21 y0_22 y0_23 y0_24 y0_25 y0_26 y0_33 y0_34 y0_38 y0_39 y0_40 y0_41 y0_42 y0_43 y0_45 y0_46 y0_47 y0_48 x0_5 x0_7 x0_8 x0_9 x0_10 x0_11 x0_12 x0_13 x0_14 x0_15 x0_16 x0_17 x0_19 x0_20 x0_27 x0_28 x0_29 x0_30 x0_31 x0_32 x0_35 x0_36 x0_37 x0_44 x0_49 x0_50 a1 a2) sz) (wW_X11_setBit G h0 h1 h2 y0_2 y0_3 y0_4 y0_6 y0_18 y0_21 y0_22 y0_23 y0_24 y0_25 y0_26 y0_33 y0_34 y0_38 y0_39 y0_40 y0_41 y0_42 y0_43 y0_45 y0_46 y0_47 y0_48 x0_5 x0_7 x0_8 x0_9 x0_10 x0_11 x0_12 x0_13 x0_14 x0_15 x0_16 x0_17 x0_19 x0_20 x0_27 x0_28 x0_29 x0_30 x0_31 x0_32 x0_35 x0_36 x0_37 x0_44 x0_49 x0_50 e_a1 a2)) 0 0 (va_A (wW_X11_setBit G h0 h1 h2 y0_2 y0_3 y0_4 y0_6 y0_18 y0_21 y0_22 y0_23 y0_24 y0_25 y0_26 y0_33 y0_34 y0_38 y0_39 y0_40 y0_41 y0_42 y0_43 y0_45 y0_46 y0_47 y0_48 x0_5 x0_7 x0_8 x0_9 x0_10 x0_11 x0_12 x0_13 x0_14 x0_15 x0_16 x0_17 x0_19 x0_20 x0_27 x0_28 x0_29 x0_30 x0_31 x0_32 x0_35 x0_36 x0_37 x0_44 x0_49 x0_50 a1 a2) sz) := by
  refine met_start (by decide) (Nat.le_of_ble_eq_true rfl) ?_
  intro p e s m below meth c hC hr hlk hnm hK hP hD hA hS hX ls hl
  obtain ⟨hx, hb, hml, hown, ht0⟩ := hC
  have hown : s.vm.findClass RX11 = some m.cls := hown
  generalize va_A (wW_X11_setBit G h0 h1 h2 y0_2 y0_3 y0_4 y0_6 y0_18 y0_21 y0_22 y0_23 y0_24 y0_25 y0_26 y0_33 y0_34 y0_38 y0_39 y0_40 y0_41 y0_42 y0_43 y0_45 y0_46 y0_47 y0_48 x0_5 x0_7 x0_8 x0_9 x0_10 x0_11 x0_12 x0_13 x0_14 x0_15 x0_16 x0_17 x0_19 x0_20 x0_27 x0_28 x0_29 x0_30 x0_31 x0_32 x0_35 x0_36 x0_37 x0_44 x0_49 x0_50 a1 a2) sz = A at hD hA hS hX ⊢
  have hl : lv_has ls 4 [(0, .ref h0), (1, .int b1), (2, .int b2), (3, .int b3)] := hl
  have hf : p_X11_setBit F x0_5 a1 a2 b1 b2 b3 = some e_a1 := hf
  refine lv_aload_n hx hb dX11_setBit_0 rfl (lv_at hl 0 rfl) ?_
  refine lv_iload_n hx hb dX11_setBit_1 rfl (lv_at hl 1 rfl) ?_
  refine lv_iload_n hx hb dX11_setBit_2 rfl (lv_at hl 2 rfl) ?_
  obtain ⟨r_3_0, hc_r_3_0, hf⟩ := of_bnd hf
  refine cl_Vi (w2 := (wW_X11_setBit G h0 h1 h2 y0_2 y0_3 y0_4 y0_6 y0_18 y0_21 y0_22 y0_23 y0_24 y0_25 y0_26 y0_33 y0_34 y0_38 y0_39 y0_40 y0_41 y0_42 y0_43 y0_45 y0_46 y0_47 y0_48 x0_5 x0_7 x0_8 x0_9 x0_10 x0_11 x0_12 x0_13 x0_14 x0_15 x0_16 x0_17 x0_19 x0_20 x0_27 x0_28 x0_29 x0_30 x0_31 x0_32 x0_35 x0_36 x0_37 x0_44 x0_49 x0_50 a1 a2)) (As := [.int b1, .int b2]) (rest := []) ⟨hx, hb, hml, hown, ht0⟩ (c_X11_bitOf l G h0 h1 h2 y0_2 y0_3 y0_4 y0_6 y0_18 y0_21 y0_22 y0_23 y0_24 y0_25 y0_26 y0_33 y0_34 y0_38 y0_39 y0_40 y0_41 y0_42 y0_43 y0_45 y0_46 y0_47 y0_48 _ x0_5 x0_7 x0_8 x0_9 x0_10 x0_11 x0_12 x0_13 x0_14 x0_15 x0_16 x0_17 x0_19 x0_20 x0_27 x0_28 x0_29 x0_30 x0_31 x0_32 x0_35 x0_36 x0_37 x0_44 x0_49 x0_50 a1 a2 F b1 b2 _ hc_r_3_0) yk_X11_bitOf wd_1611 ⟨rfl, rfl, by decide, by decide⟩ ⟨Nat.le_refl _, Nat.le_refl _⟩ hX hK hP hD hS hA [0, 1, 2] [] [0, 1, 2] (va_recv hK hP (ci := 11) (q0 := 0) rfl rfl) rfl rfl (by decide) rfl rfl rfl rfl rfl hl.1 rfl (Nat.le_of_ble_eq_true rfl) dX11_setBit_3 (fun H locs hP hD hS => ?_)
  refine lv_iload_n hx hb dX11_setBit_6 rfl (lv_at hl 3 rfl) ?_
  refine lv_icmp_ne (tgt := 11) hx hb dX11_setBit_7 (by decide) (fun c2 => ?_) (fun c2 => ?_)
  · have hf := of_neg hf c2
    refine lv_aload_n hx hb dX11_setBit_11 rfl (lv_at hl 0 rfl) ?_
    refine lv_iload_n hx hb dX11_setBit_12 rfl (lv_at hl 2 rfl) ?_
    obtain ⟨r_13_2, hc_r_13_2, hf⟩ := of_bnd hf
    refine cl_Vi (w2 := (wW_X11_setBit G h0 h1 h2 y0_2 y0_3 y0_4 y0_6 y0_18 y0_21 y0_22 y0_23 y0_24 y0_25 y0_26 y0_33 y0_34 y0_38 y0_39 y0_40 y0_41 y0_42 y0_43 y0_45 y0_46 y0_47 y0_48 x0_5 x0_7 x0_8 x0_9 x0_10 x0_11 x0_12 x0_13 x0_14 x0_15 x0_16 x0_17 x0_19 x0_20 x0_27 x0_28 x0_29 x0_30 x0_31 x0_32 x0_35 x0_36 x0_37 x0_44 x0_49 x0_50 a1 a2)) (As := [.int b2]) (rest := []) ⟨hx, hb, hml, hown, ht0⟩ (c_X11_isData l G h0 h2 h1 y0_2 y0_3 y0_4 y0_6 y0_18 y0_21 y0_22 y0_23 y0_24 y0_25 y0_26 y0_33 y0_34 y0_38 y0_39 y0_40 y0_41 y0_42 y0_43 y0_45 y0_46 y0_47 y0_48 _ x0_5 x0_7 x0_8 x0_9 x0_10 x0_11 x0_12 x0_13 x0_14 x0_15 x0_16 x0_17 x0_19 x0_20 x0_27 x0_28 x0_29 x0_30 x0_31 x0_32 x0_35 x0_36 x0_37 x0_44 x0_49 x0_50 a2 F b2 _ hc_r_13_2) yk_X11_isData wd_1615 ⟨rfl, rfl, by decide, by decide⟩ ⟨Nat.le_refl _, Nat.le_refl _⟩ hX hK hP hD hS hA [0, 2] [1] [1, 0, 2] (va_recv hK hP (ci := 11) (q0 := 0) rfl rfl) rfl rfl (by decide) rfl rfl rfl rfl rfl hl.1 rfl (Nat.le_of_ble_eq_true rfl) dX11_setBit_13 (fun H locs hP hD hS => ?_)
    refine lv_if_eq (tgt := 37) hx hb dX11_setBit_16 (by decide) (fun c4 => ?_) (fun c4 => ?_)
    · have hf := of_pos hf c4
      refine lv_aload_n hx hb dX11_setBit_37 rfl (lv_at hl 0 rfl) ?_
      refine va_get (ci := 11) (v := .ref h1) (C := RX11) (T := TX11) (N := 51) hx hb ht0 iX11 hown hK hP 0 rfl rfl 0 (by decide) (ht0 _ wd_1406) (fun _ h9 => h9) rfl dX11_setBit_38 ?_
      refine lv_bipush (v := (49 : Int32)) hx hb dX11_setBit_41 (by decide) ?_
      refine lv_iload_n hx hb dX11_setBit_43 rfl (lv_at hl 1 rfl) ?_
      refine lv_iadd hx hb dX11_setBit_44 ?_
      refine lv_dup2_11 hx hb dX11_setBit_45 rfl rfl ?_
      obtain ⟨g5, hf⟩ := of_grd hf
      refine va_iald hx hb hK hP 1 0 rfl rfl g5 dX11_setBit_46 ?_
      refine lv_iconst (v := (1 : Int32)) hx hb dX11_setBit_47 (by decide) ?_
      refine lv_iload_n hx hb dX11_setBit_48 rfl (lv_at hl 2 rfl) ?_
      refine lv_aload_n hx hb dX11_setBit_49 rfl (lv_at hl 0 rfl) ?_
      obtain ⟨r_50_5, hc_r_50_5, hf⟩ := of_bnd hf
      refine cl_Vi (w2 := (wW_X11_setBit G h0 h1 h2 y0_2 y0_3 y0_4 y0_6 y0_18 y0_21 y0_22 y0_23 y0_24 y0_25 y0_26 y0_33 y0_34 y0_38 y0_39 y0_40 y0_41 y0_42 y0_43 y0_45 y0_46 y0_47 y0_48 x0_5 x0_7 x0_8 x0_9 x0_10 x0_11 x0_12 x0_13 x0_14 x0_15 x0_16 x0_17 x0_19 x0_20 x0_27 x0_28 x0_29 x0_30 x0_31 x0_32 x0_35 x0_36 x0_37 x0_44 x0_49 x0_50 a1 a2)) (As := []) (rest := [.int b2, .int (1 : Int32), .int (a1 ((49 : Int32) + b1).toNatClampNeg), .int ((49 : Int32) + b1), .ref h1]) ⟨hx, hb, hml, hown, ht0⟩ (c_X11_dataNow l G h0 h2 h1 y0_2 y0_3 y0_4 y0_6 y0_18 y0_21 y0_22 y0_23 y0_24 y0_25 y0_26 y0_33 y0_34 y0_38 y0_39 y0_40 y0_41 y0_42 y0_43 y0_45 y0_46 y0_47 y0_48 _ x0_5 x0_7 x0_8 x0_9 x0_10 x0_11 x0_12 x0_13 x0_14 x0_15 x0_16 x0_17 x0_19 x0_20 x0_27 x0_28 x0_29 x0_30 x0_31 x0_32 x0_35 x0_36 x0_37 x0_44 x0_49 x0_50 a2 F _ hc_r_50_5) yk_X11_dataNow wd_1398 ⟨rfl, rfl, by decide, by decide⟩ ⟨Nat.le_refl _, Nat.le_refl _⟩ hX hK hP hD hS hA [0, 2] [1] [1, 0, 2] (va_recv hK hP (ci := 11) (q0 := 0) rfl rfl) rfl rfl (by decide) rfl rfl rfl rfl rfl hl.1 rfl (Nat.le_of_ble_eq_true rfl) dX11_setBit_50 (fun H locs hP hD hS => ?_)
      refine lv_isub hx hb dX11_setBit_53 ?_
      refine lv_ishl hx hb dX11_setBit_54 ?_
      refine lv_ixor hx hb dX11_setBit_55 ?_
      obtain ⟨g7, hf⟩ := of_grd hf
      refine va_iast hx hb hK hP hD hS 1 0 rfl rfl g7 dX11_setBit_56 (fun H locs hP hD hS => ?_)
      have hP : va_P G.1 vwCl (wW_X11_setBit G h0 h1 h2 y0_2 y0_3 y0_4 y0_6 y0_18 y0_21 y0_22 y0_23 y0_24 y0_25 y0_26 y0_33 y0_34 y0_38 y0_39 y0_40 y0_41 y0_42 y0_43 y0_45 y0_46 y0_47 y0_48 x0_5 x0_7 x0_8 x0_9 x0_10 x0_11 x0_12 x0_13 x0_14 x0_15 x0_16 x0_17 x0_19 x0_20 x0_27 x0_28 x0_29 x0_30 x0_31 x0_32 x0_35 x0_36 x0_37 x0_44 x0_49 x0_50 (upd a1 ((49 : Int32) + b1).toNatClampNeg ((a1 ((49 : Int32) + b1).toNatClampNeg) ^^^ ((1 : Int32) <<< ((b2 - r_50_5) &&& 31)))) a2) H := hP
      have hD : va_D A (wW_X11_setBit G h0 h1 h2 y0_2 y0_3 y0_4 y0_6 y0_18 y0_21 y0_22 y0_23 y0_24 y0_25 y0_26 y0_33 y0_34 y0_38 y0_39 y0_40 y0_41 y0_42 y0_43 y0_45 y0_46 y0_47 y0_48 x0_5 x0_7 x0_8 x0_9 x0_10 x0_11 x0_12 x0_13 x0_14 x0_15 x0_16 x0_17 x0_19 x0_20 x0_27 x0_28 x0_29 x0_30 x0_31 x0_32 x0_35 x0_36 x0_37 x0_44 x0_49 x0_50 (upd a1 ((49 : Int32) + b1).toNatClampNeg ((a1 ((49 : Int32) + b1).toNatClampNeg) ^^^ ((1 : Int32) <<< ((b2 - r_50_5) &&& 31)))) a2) := hD
      cases hf
      exact ret_v hx hb hr hlk hK hP hD hS dX11_setBit_57
    · have hf := of_neg hf c4
      refine lv_aload_n hx hb dX11_setBit_19 rfl (lv_at hl 0 rfl) ?_
      refine va_get (ci := 11) (v := .ref h1) (C := RX11) (T := TX11) (N := 51) hx hb ht0 iX11 hown hK hP 0 rfl rfl 0 (by decide) (ht0 _ wd_1406) (fun _ h9 => h9) rfl dX11_setBit_20 ?_
      refine lv_bipush (v := (33 : Int32)) hx hb dX11_setBit_23 (by decide) ?_
      refine lv_iload_n hx hb dX11_setBit_25 rfl (lv_at hl 1 rfl) ?_
      refine lv_iadd hx hb dX11_setBit_26 ?_
      refine lv_dup2_11 hx hb dX11_setBit_27 rfl rfl ?_
      obtain ⟨g8, hf⟩ := of_grd hf
      refine va_iald hx hb hK hP 1 0 rfl rfl g8 dX11_setBit_28 ?_
      refine lv_iconst (v := (1 : Int32)) hx hb dX11_setBit_29 (by decide) ?_
      refine lv_iload_n hx hb dX11_setBit_30 rfl (lv_at hl 2 rfl) ?_
      refine lv_ishl hx hb dX11_setBit_31 ?_
      refine lv_ixor hx hb dX11_setBit_32 ?_
      obtain ⟨g9, hf⟩ := of_grd hf
      refine va_iast hx hb hK hP hD hS 1 0 rfl rfl g9 dX11_setBit_33 (fun H locs hP hD hS => ?_)
      have hP : va_P G.1 vwCl (wW_X11_setBit G h0 h1 h2 y0_2 y0_3 y0_4 y0_6 y0_18 y0_21 y0_22 y0_23 y0_24 y0_25 y0_26 y0_33 y0_34 y0_38 y0_39 y0_40 y0_41 y0_42 y0_43 y0_45 y0_46 y0_47 y0_48 x0_5 x0_7 x0_8 x0_9 x0_10 x0_11 x0_12 x0_13 x0_14 x0_15 x0_16 x0_17 x0_19 x0_20 x0_27 x0_28 x0_29 x0_30 x0_31 x0_32 x0_35 x0_36 x0_37 x0_44 x0_49 x0_50 (upd a1 ((33 : Int32) + b1).toNatClampNeg ((a1 ((33 : Int32) + b1).toNatClampNeg) ^^^ ((1 : Int32) <<< (b2 &&& 31)))) a2) H := hP
      have hD : va_D A (wW_X11_setBit G h0 h1 h2 y0_2 y0_3 y0_4 y0_6 y0_18 y0_21 y0_22 y0_23 y0_24 y0_25 y0_26 y0_33 y0_34 y0_38 y0_39 y0_40 y0_41 y0_42 y0_43 y0_45 y0_46 y0_47 y0_48 x0_5 x0_7 x0_8 x0_9 x0_10 x0_11 x0_12 x0_13 x0_14 x0_15 x0_16 x0_17 x0_19 x0_20 x0_27 x0_28 x0_29 x0_30 x0_31 x0_32 x0_35 x0_36 x0_37 x0_44 x0_49 x0_50 (upd a1 ((33 : Int32) + b1).toNatClampNeg ((a1 ((33 : Int32) + b1).toNatClampNeg) ^^^ ((1 : Int32) <<< (b2 &&& 31)))) a2) := hD
      refine lv_goto (tgt := 57) hx hb dX11_setBit_34 (by decide) ?_
      cases hf
      exact ret_v hx hb hr hlk hK hP hD hS dX11_setBit_57
  · have hf := of_pos hf c2
    cases hf
    exact ret_v hx hb hr hlk hK hP hD hS dX11_setBit_10
theorem yk_X11_setBit : ykV yX11_setBit RX11 cX11_setBit 4 none 3 := ⟨wd_1621, wd_79, wd_142, wd_1622, rfl, by decide +kernel, by decide +kernel, by decide +kernel⟩
theorem dX11_stuckAt_0 : decode cX11_stuckAt 0 = .ok (.aload_n 0, 1) := by decide +kernel
theorem dX11_stuckAt_1 : decode cX11_stuckAt 1 = .ok (.getfield 7, 3) := by decide +kernel
theorem dX11_stuckAt_4 : decode cX11_stuckAt 4 = .ok (.bipush 81, 2) := by decide +kernel
theorem dX11_stuckAt_6 : decode cX11_stuckAt 6 = .ok (.iconst 2, 1) := by decide +kernel
theorem dX11_stuckAt_7 : decode cX11_stuckAt 7 = .ok (.iload_n 1, 1) := by decide +kernel
theorem dX11_stuckAt_8 : decode cX11_stuckAt 8 = .ok (.imul, 1) := by decide +kernel
theorem dX11_stuckAt_9 : decode cX11_stuckAt 9 = .ok (.iadd, 1) := by decide +kernel
theorem dX11_stuckAt_10 : decode cX11_stuckAt 10 = .ok (.iload_n 2, 1) := by decide +kernel
theorem dX11_stuckAt_11 : decode cX11_stuckAt 11 = .ok (.iadd, 1) := by decide +kernel
theorem dX11_stuckAt_12 : decode cX11_stuckAt 12 = .ok (.iaload, 1) := by decide +kernel
theorem dX11_stuckAt_13 : decode cX11_stuckAt 13 = .ok (.iconst 1, 1) := by decide +kernel
theorem dX11_stuckAt_14 : decode cX11_stuckAt 14 = .ok (.isub, 1) := by decide +kernel
theorem dX11_stuckAt_15 : decode cX11_stuckAt 15 = .ok (.ireturn, 1) := by decide +kernel
def wW_X11_stuckAt (G : GG) (h0 h1 y0_1 y0_2 y0_3 y0_4 y0_6 y0_18 y0_21 y0_22 y0_23 y0_24 y0_25 y0_26 y0_33 y0_34 y0_38 y0_39 y0_40 y0_41 y0_42 y0_43 y0_45 y0_46 y0_47 y0_48 : Nat) (x0_5 : Int32) (x0_7 : Int32) (x0_8 : Int32) (x0_9 : Int32) (x0_10 : Int32) (x0_11 : Int32) (x0_12 : Int32) (x0_13 : Int32) (x0_14 : Int32) (x0_15 : Int32) (x0_16 : Int32) (x0_17 : Int32) (x0_19 : Int32) (x0_20 : Int32) (x0_27 : Int32) (x0_28 : Int32) (x0_29 : Int32) (x0_30 : Int32) (x0_31 : Int32) (x0_32 : Int32) (x0_35 : Int32) (x0_36 : Int32) (x0_37 : Int32) (x0_44 : Int32) (x0_49 : Int32) (x0_50 : Int32) (a1 : Nat → Int32) : va_W := [(h0, .inr (11, [.ref h1, .ref y0_1, .ref y0_2, .ref y0_3, .ref y0_4, .int x0_5, .ref y0_6, .int x0_7, .int x0_8, .int x0_9, .int x0_10, .int x0_11, .int x0_12, .int x0_13, .int x0_14, .int x0_15, .int x0_16, .int x0_17, .ref y0_18, .int x0_19, .int x0_20, .ref y0_21, .ref y0_22, .ref y0_23, .ref y0_24, .ref y0_25, .ref y0_26, .int x0_27, .int x0_28, .int x0_29, .int x0_30, .int x0_31, .int x0_32, .ref y0_33, .ref y0_34, .int x0_35, .int x0_36, .int x0_37, .ref y0_38, .ref y0_39, .ref y0_40, .ref y0_41, .ref y0_42, .ref y0_43, .int x0_44, .ref y0_45, .ref y0_46, .ref y0_47, .ref y0_48, .int x0_49, .int x0_50])), (h1, .inl (G.2.1, 121, .inl a1))]
set_option maxHeartbeats 4000000 in
set_option maxRecDepth 100000 in
theorem c_X11_stuckAt (l : Launch) (G : GG) (h0 h1 y0_1 y0_2 y0_3 y0_4 y0_6 y0_18 y0_21 y0_22 y0_23 y0_24 y0_25 y0_26 y0_33 y0_34 y0_38 y0_39 y0_40 y0_41 y0_42 y0_43 y0_45 y0_46 y0_47 y0_48 : Nat) (sz : Nat) (x0_5 : Int32) (x0_7 : Int32) (x0_8 : Int32) (x0_9 : Int32) (x0_10 : Int32) (x0_11 : Int32) (x0_12 : Int32) (x0_13 : Int32) (x0_14 : Int32) (x0_15 : Int32) (x0_16 : Int32) (x0_17 : Int32) (x0_19 : Int32) (x0_20 : Int32) (x0_27 : Int32) (x0_28 : Int32) (x0_29 : Int32) (x0_30 : Int32) (x0_31 : Int32) (x0_32 : Int32) (x0_35 : Int32) (x0_36 : Int32) (x0_37 : Int32) (x0_44 : Int32) (x0_49 : Int32) (x0_50 : Int32) (a1 : Nat → Int32) (F : Nat) (b1 : Int32) (b2 : Int32)  (r0 : Int32) (hf : p_X11_stuckAt F a1 b1 b2 = some r0) : Met l yX11_stuckAt (.code yX11_stuckAt cX11_stuckAt 3 (some .int) :: gtbl) ({ frames := 0, cells := 0, slots := 0, locals := 0 } : Room) (PcS G [.ref h0, .int b1, .int b2] (wW_X11_stuckAt G h0 h1 y0_1 y0_2 y0_3 y0_4 y0_6 y0_18 y0_21 y0_22 y0_23 y0_24 y0_25 y0_26 y0_33 y0_34 y0_38 y0_39 y0_40 y0_41 y0_42 y0_43 y0_45 y0_46 y0_47 y0_48 x0_5 x0_7 x0_8 x0_9 x0_10 x0_11 x0_12 x0_13 x0_14 x0_15 x0_16 x0_17 x0_19 x0_20 x0_27 x0_28 x0_29 x0_30 x0_31 x0_32 x0_35 x0_36 x0_37 x0_44 x0_49 x0_50 a1) sz) (QiS G r0 (va_A (wW_X11_stuckAt G h0 h1 y0_1 y0_2 y0_3 y0_4 y0_6 y0_18 y0_21 y0_22 y0_23 y0_24 y0_25 y0_26 y0_33 y0_34 y0_38 y0_39 y0_40 y0_41 y0_42 y0_43 y0_45 y0_46 y0_47 y0_48 x0_5 x0_7 x0_8 x0_9 x0_10 x0_11 x0_12 x0_13 x0_14 x0_15 x0_16 x0_17 x0_19 x0_20 x0_27 x0_28 x0_29 x0_30 x0_31 x0_32 x0_35 x0_36 x0_37 x0_44 x0_49 x0_50 a1) sz) (wW_X11_stuckAt G h0 h1 y0_1 y0_2 y0_3 y0_4 y0_6 y0_18 y0_21 y0_22 y0_23 y0_24 y0_25 y0_26 y0_33 y0_34 y0_38 y0_39 y0_40 y0_41 y0_42 y0_43 y0_45 y0_46 y0_47 y0_48 x0_5 x0_7 x0_8 x0_9 x0_10 x0_11 x0_12 x0_13 x0_14 x0_15 x0_16 x0_17 x0_19 x0_20 x0_27 x0_28 x0_29 x0_30 x0_31 x0_32 x0_35 x0_36 x0_37 x0_44 x0_49 x0_50 a1)) 0 0 (va_A (wW_X11_stuckAt G h0 h1 y0_1 y0_2 y0_3 y0_4 y0_6 y0_18 y0_21 y0_22 y0_23 y0_24 y0_25 y0_26 y0_33 y0_34 y0_38 y0_39 y0_40 y0_41 y0_42 y0_43 y0_45 y0_46 y0_47 y0_48 x0_5 x0_7 x0_8 x0_9 x0_10 x0_11 x0_12 x0_13 x0_14 x0_15 x0_16 x0_17 x0_19 x0_20 x0_27 x0_28 x0_29 x0_30 x0_31 x0_32 x0_35 x0_36 x0_37 x0_44 x0_49 x0_50 a1) sz) := by
  refine met_start (by decide) (Nat.le_of_ble_eq_true rfl) ?_
  intro p e s m below meth c hC hr hlk hnm hK hP hD hA hS hX ls hl
  obtain ⟨hx, hb, hml, hown, ht0⟩ := hC
  have hown : s.vm.findClass RX11 = some m.cls := hown
  generalize va_A (wW_X11_stuckAt G h0 h1 y0_1 y0_2 y0_3 y0_4 y0_6 y0_18 y0_21 y0_22 y0_23 y0_24 y0_25 y0_26 y0_33 y0_34 y0_38 y0_39 y0_40 y0_41 y0_42 y0_43 y0_45 y0_46 y0_47 y0_48 x0_5 x0_7 x0_8 x0_9 x0_10 x0_11 x0_12 x0_13 x0_14 x0_15 x0_16 x0_17 x0_19 x0_20 x0_27 x0_28 x0_29 x0_30 x0_31 x0_32 x0_35 x0_36 x0_37 x0_44 x0_49 x0_50 a1) sz = A at hD hA hS hX ⊢
  have hl : lv_has ls 3 [(0, .ref h0), (1, .int b1), (2, .int b2)] := hl
  have hf : p_X11_stuckAt F a1 b1 b2 = some r0 := hf
  refine lv_aload_n hx hb dX11_stuckAt_0 rfl (lv_at hl 0 rfl) ?_
  refine va_get (ci := 11) (v := .ref h1) (C := RX11) (T := TX11) (N := 51) hx hb ht0 iX11 hown hK hP 0 rfl rfl 0 (by decide) (ht0 _ wd_1406) (fun _ h9 => h9) rfl dX11_stuckAt_1 ?_
  refine lv_bipush (v := (81 : Int32)) hx hb dX11_stuckAt_4 (by decide) ?_
  refine lv_iconst (v := (2 : Int32)) hx hb dX11_stuckAt_6 (by decide) ?_
  refine lv_iload_n hx hb dX11_stuckAt_7 rfl (lv_at hl 1 rfl) ?_
  refine lv_imul hx hb dX11_stuckAt_8 ?_
  refine lv_iadd hx hb dX11_stuckAt_9 ?_
  refine lv_iload_n hx hb dX11_stuckAt_10 rfl (lv_at hl 2 rfl) ?_
  refine lv_iadd hx hb dX11_stuckAt_11 ?_
  obtain ⟨g1, hf⟩ := of_grd hf
  refine va_iald hx hb hK hP 1 0 rfl rfl g1 dX11_stuckAt_12 ?_
  refine lv_iconst (v := (1 : Int32)) hx hb dX11_stuckAt_13 (by decide) ?_
  refine lv_isub hx hb dX11_stuckAt_14 ?_
  cases hf
  exact ret_i hx hb hr hlk hK hP hD hS dX11_stuckAt_15
theorem yk_X11_stuckAt : ykV yX11_stuckAt RX11 cX11_stuckAt 3 (some .int) 2 := ⟨wd_1609, wd_76, wd_142, wd_1610, rfl, by decide +kernel, by decide +kernel, by decide +kernel⟩
theorem dX11_isStuck_0 : decode cX11_isStuck 0 = .ok (.aload_n 0, 1) := by decide +kernel
theorem dX11_isStuck_1 : decode cX11_isStuck 1 = .ok (.iload_n 1, 1) := by decide +kernel
theorem dX11_isStuck_2 : decode cX11_isStuck 2 = .ok (.iconst 0, 1) := by decide +kernel
theorem dX11_isStuck_3 : decode cX11_isStuck 3 = .ok (.invokevirtual 278, 3) := by decide +kernel
theorem dX11_isStuck_6 : decode cX11_isStuck 6 = .ok (.iload_n 2, 1) := by decide +kernel
theorem dX11_isStuck_7 : decode cX11_isStuck 7 = .ok (.if_icmp .eq 13, 3) := by decide +kernel
theorem dX11_isStuck_10 : decode cX11_isStuck 10 = .ok (.aload_n 0, 1) := by decide +kernel
theorem dX11_isStuck_11 : decode cX11_isStuck 11 = .ok (.iload_n 1, 1) := by decide +kernel
theorem dX11_isStuck_12 : decode cX11_isStuck 12 = .ok (.iconst 1, 1) := by decide +kernel
theorem dX11_isStuck_13 : decode cX11_isStuck 13 = .ok (.invokevirtual 278, 3) := by decide +kernel
theorem dX11_isStuck_16 : decode cX11_isStuck 16 = .ok (.iload_n 2, 1) := by decide +kernel
theorem dX11_isStuck_17 : decode cX11_isStuck 17 = .ok (.if_icmp .ne 7, 3) := by decide +kernel
theorem dX11_isStuck_20 : decode cX11_isStuck 20 = .ok (.iconst 1, 1) := by decide +kernel
theorem dX11_isStuck_21 : decode cX11_isStuck 21 = .ok (.goto 4, 3) := by decide +kernel
theorem dX11_isStuck_24 : decode cX11_isStuck 24 = .ok (.iconst 0, 1) := by decide +kernel
theorem dX11_isStuck_25 : decode cX11_isStuck 25 = .ok (.ireturn, 1) := by decide +kernel
def wW_X11_isStuck (G : GG) (h0 h1 y0_1 y0_2 y0_3 y0_4 y0_6 y0_18 y0_21 y0_22 y0_23 y0_24 y0_25 y0_26 y0_33 y0_34 y0_38 y0_39 y0_40 y0_41 y0_42 y0_43 y0_45 y0_46 y0_47 y0_48 : Nat) (x0_5 : Int32) (x0_7 : Int32) (x0_8 : Int32) (x0_9 : Int32) (x0_10 : Int32) (x0_11 : Int32) (x0_12 : Int32) (x0_13 : Int32) (x0_14 : Int32) (x0_15 : Int32) (x0_16 : Int32) (x0_17 : Int32) (x0_19 : Int32) (x0_20 : Int32) (x0_27 : Int32) (x0_28 : Int32) (x0_29 : Int32) (x0_30 : Int32) (x0_31 : Int32) (x0_32 : Int32) (x0_35 : Int32) (x0_36 : Int32) (x0_37 : Int32) (x0_44 : Int32) (x0_49 : Int32) (x0_50 : Int32) (a1 : Nat → Int32) : va_W := [(h0, .inr (11, [.ref h1, .ref y0_1, .ref y0_2, .ref y0_3, .ref y0_4, .int x0_5, .ref y0_6, .int x0_7, .int x0_8, .int x0_9, .int x0_10, .int x0_11, .int x0_12, .int x0_13, .int x0_14, .int x0_15, .int x0_16, .int x0_17, .ref y0_18, .int x0_19, .int x0_20, .ref y0_21, .ref y0_22, .ref y0_23, .ref y0_24, .ref y0_25, .ref y0_26, .int x0_27, .int x0_28, .int x0_29, .int x0_30, .int x0_31, .int x0_32, .ref y0_33, .ref y0_34, .int x0_35, .int x0_36, .int x0_37, .ref y0_38, .ref y0_39, .ref y0_40, .ref y0_41, .ref y0_42, .ref y0_43, .int x0_44, .ref y0_45, .ref y0_46, .ref y0_47, .ref y0_48, .int x0_49, .int x0_50])), (h1, .inl (G.2.1, 121, .inl a1))]
set_option maxHeartbeats 4000000 in
set_option maxRecDepth 100000 in
theorem c_X11_isStuck (l : Launch) (G : GG) (h0 h1 y0_1 y0_2 y0_3 y0_4 y0_6 y0_18 y0_21 y0_22 y0_23 y0_24 y0_25 y0_26 y0_33 y0_34 y0_38 y0_39 y0_40 y0_41 y0_42 y0_43 y0_45 y0_46 y0_47 y0_48 : Nat) (sz : Nat) (x0_5 : Int32) (x0_7 : Int32) (x0_8 : Int32) (x0_9 : Int32) (x0_10 : Int32) (x0_11 : Int32) (x0_12 : Int32) (x0_13 : Int32) (x0_14 : Int32) (x0_15 : Int32) (x0_16 : Int32) (x0_17 : Int32) (x0_19 : Int32) (x0_20 : Int32) (x0_27 : Int32) (x0_28 : Int32) (x0_29 : Int32) (x0_30 : Int32) (x0_31 : Int32) (x0_32 : Int32) (x0_35 : Int32) (x0_36 : Int32) (x0_37 : Int32) (x0_44 : Int32) (x0_49 : Int32) (x0_50 : Int32) (a1 : Nat → Int32) (F : Nat) (b1 : Int32) (b2 : Int32)  (r0 : Int32) (hf : p_X11_isStuck F a1 b1 b2 = some r0) : Met l yX11_isStuck (.code yX11_isStuck cX11_isStuck 3 (some .boolean) :: gtbl) ({ frames := 1, cells := 0, slots := 0, locals := 22 } : Room) (PcS G [.ref h0, .int b1, .int b2] (wW_X11_isStuck G h0 h1 y0_1 y0_2 y0_3 y0_4 y0_6 y0_18 y0_21 y0_22 y0_23 y0_24 y0_25 y0_26 y0_33 y0_34 y0_38 y0_39 y0_40 y0_41 y0_42 y0_43 y0_45 y0_46 y0_47 y0_48 x0_5 x0_7 x0_8 x0_9 x0_10 x0_11 x0_12 x0_13 x0_14 x0_15 x0_16 x0_17 x0_19 x0_20 x0_27 x0_28 x0_29 x0_30 x0_31 x0_32 x0_35 x0_36 x0_37 x0_44 x0_49 x0_50 a1) sz) (QiS G r0 (va_A (wW_X11_isStuck G h0 h1 y0_1 y0_2 y0_3 y0_4 y0_6 y0_18 y0_21 y0_22 y0_23 y0_24 y0_25 y0_26 y0_33 y0_34 y0_38 y0_39 y0_40 y0_41 y0_42 y0_43 y0_45 y0_46 y0_47 y0_48 x0_5 x0_7 x0_8 x0_9 x0_10 x0_11 x0_12 x0_13 x0_14 x0_15 x0_16 x0_17 x0_19 x0_20 x0_27 x0_28 x0_29 x0_30 x0_31 x0_32 x0_35 x0_36 x0_37 x0_44 x0_49 x0_50 a1) sz) (wW_X11_isStuck G h0 h1 y0_1 y0_2 y0_3 y0_4 y0_6 y0_18 y0_21 y0_22 y0_23 y0_24 y0_25 y0_26 y0_33 y0_34 y0_38 y0_39 y0_40 y0_41 y0_42 y0_43 y0_45 y0_46 y0_47 y0_48 x0_5 x0_7 x0_8 x0_9 x0_10 x0_11 x0_12 x0_13 x0_14 x0_15 x0_16 x0_17 x0_19 x0_20 x0_27 x0_28 x0_29 x0_30 x0_31 x0_32 x0_35 x0_36 x0_37 x0_44 x0_49 x0_50 a1)) 0 0 (va_A (wW_X11_isStuck G h0 h1 y0_1 y0_2 y0_3 y0_4 y0_6 y0_18 y0_21 y0_22 y0_23 y0_24 y0_25 y0_26 y0_33 y0_34 y0_38 y0_39 y0_40 y0_41 y0_42 y0_43 y0_45 y0_46 y0_47 y0_48 x0_5 x0_7 x0_8 x0_9 x0_10 x0_11 x0_12 x0_13 x0_14 x0_15 x0_16 x0_17 x0_19 x0_20 x0_27 x0_28 x0_29 x0_30 x0_31 x0_32 x0_35 x0_36 x0_37 x0_44 x0_49 x0_50 a1) sz) := by
  refine met_start (by decide) (Nat.le_of_ble_eq_true rfl) ?_
  intro p e s m below meth c hC hr hlk hnm hK hP hD hA hS hX ls hl
  obtain ⟨hx, hb, hml, hown, ht0⟩ := hC
  have hown : s.vm.findClass RX11 = some m.cls := hown
  generalize va_A (wW_X11_isStuck G h0 h1 y0_1 y0_2 y0_3 y0_4 y0_6 y0_18 y0_21 y0_22 y0_23 y0_24 y0_25 y0_26 y0_33 y0_34 y0_38 y0_39 y0_40 y0_41 y0_42 y0_43 y0_45 y0_46 y0_47 y0_48 x0_5 x0_7 x0_8 x0_9 x0_10 x0_11 x0_12 x0_13 x0_14 x0_15 x0_16 x0_17 x0_19 x0_20 x0_27 x0_28 x0_29 x0_30 x0_31 x0_32 x0_35 x0_36 x0_37 x0_44 x0_49 x0_50 a1) sz = A at hD hA hS hX ⊢
  have hl : lv_has ls 3 [(0, .ref h0), (1, .int b1), (2, .int b2)] := hl
  have hf : p_X11_isStuck F a1 b1 b2 = some r0 := hf
  refine lv_aload_n hx hb dX11_isStuck_0 rfl (lv_at hl 0 rfl) ?_
  refine lv_iload_n hx hb dX11_isStuck_1 rfl (lv_at hl 1 rfl) ?_
  refine lv_iconst (v := (0 : Int32)) hx hb dX11_isStuck_2 (by decide) ?_
  obtain ⟨r_3_0, hc_r_3_0, hf⟩ := of_bnd hf
  refine cl_Vi (w2 := (wW_X11_isStuck G h0 h1 y0_1 y0_2 y0_3 y0_4 y0_6 y0_18 y0_21 y0_22 y0_23 y0_24 y0_25 y0_26 y0_33 y0_34 y0_38 y0_39 y0_40 y0_41 y0_42 y0_43 y0_45 y0_46 y0_47 y0_48 x0_5 x0_7 x0_8 x0_9 x0_10 x0_11 x0_12 x0_13 x0_14 x0_15 x0_16 x0_17 x0_19 x0_20 x0_27 x0_28 x0_29 x0_30 x0_31 x0_32 x0_35 x0_36 x0_37 x0_44 x0_49 x0_50 a1)) (As := [.int b1, .int (0 : Int32)]) (rest := []) ⟨hx, hb, hml, hown, ht0⟩ (c_X11_stuckAt l G h0 h1 y0_1 y0_2 y0_3 y0_4 y0_6 y0_18 y0_21 y0_22 y0_23 y0_24 y0_25 y0_26 y0_33 y0_34 y0_38 y0_39 y0_40 y0_41 y0_42 y0_43 y0_45 y0_46 y0_47 y0_48 _ x0_5 x0_7 x0_8 x0_9 x0_10 x0_11 x0_12 x0_13 x0_14 x0_15 x0_16 x0_17 x0_19 x0_20 x0_27 x0_28 x0_29 x0_30 x0_31 x0_32 x0_35 x0_36 x0_37 x0_44 x0_49 x0_50 a1 F b1 (0 : Int32) _ hc_r_3_0) yk_X11_stuckAt wd_1607 ⟨rfl, rfl, by decide, by decide⟩ ⟨Nat.le_refl _, Nat.le_refl _⟩ hX hK hP hD hS hA [0, 1] [] [0, 1] (va_recv hK hP (ci := 11) (q0 := 0) rfl rfl) rfl rfl (by decide) rfl rfl rfl rfl rfl hl.1 rfl (Nat.le_of_ble_eq_true rfl) dX11_isStuck_3 (fun H locs hP hD hS => ?_)
  refine lv_iload_n hx hb dX11_isStuck_6 rfl (lv_at hl 2 rfl) ?_
  refine lv_icmp_eq (tgt := 20) hx hb dX11_isStuck_7 (by decide) (fun c2 => ?_) (fun c2 => ?_)
  · have hf := of_pos hf c2
    refine lv_iconst (v := (1 : Int32)) hx hb dX11_isStuck_20 (by decide) ?_
    refine lv_goto (tgt := 25) hx hb dX11_isStuck_21 (by decide) ?_
    cases hf
    exact ret_z hx hb hr hlk hK hP hD hS (by decide) dX11_isStuck_25
  · have hf := of_neg hf c2
    refine lv_aload_n hx hb dX11_isStuck_10 rfl (lv_at hl 0 rfl) ?_
    refine lv_iload_n hx hb dX11_isStuck_11 rfl (lv_at hl 1 rfl) ?_
    refine lv_iconst (v := (1 : Int32)) hx hb dX11_isStuck_12 (by decide) ?_
    obtain ⟨r_13_2, hc_r_13_2, hf⟩ := of_bnd hf
    refine cl_Vi (w2 := (wW_X11_isStuck G h0 h1 y0_1 y0_2 y0_3 y0_4 y0_6 y0_18 y0_21 y0_22 y0_23 y0_24 y0_25 y0_26 y0_33 y0_34 y0_38 y0_39 y0_40 y0_41 y0_42 y0_43 y0_45 y0_46 y0_47 y0_48 x0_5 x0_7 x0_8 x0_9 x0_10 x0_11 x0_12 x0_13 x0_14 x0_15 x0_16 x0_17 x0_19 x0_20 x0_27 x0_28 x0_29 x0_30 x0_31 x0_32 x0_35 x0_36 x0_37 x0_44 x0_49 x0_50 a1)) (As := [.int b1, .int (1 : Int32)]) (rest := []) ⟨hx, hb, hml, hown, ht0⟩ (c_X11_stuckAt l G h0 h1 y0_1 y0_2 y0_3 y0_4 y0_6 y0_18 y0_21 y0_22 y0_23 y0_24 y0_25 y0_26 y0_33 y0_34 y0_38 y0_39 y0_40 y0_41 y0_42 y0_43 y0_45 y0_46 y0_47 y0_48 _ x0_5 x0_7 x0_8 x0_9 x0_10 x0_11 x0_12 x0_13 x0_14 x0_15 x0_16 x0_17 x0_19 x0_20 x0_27 x0_28 x0_29 x0_30 x0_31 x0_32 x0_35 x0_36 x0_37 x0_44 x0_49 x0_50 a1 F b1 (1 : Int32) _ hc_r_13_2) yk_X11_stuckAt wd_1607 ⟨rfl, rfl, by decide, by decide⟩ ⟨Nat.le_refl _, Nat.le_refl _⟩ hX hK hP hD hS hA [0, 1] [] [0, 1] (va_recv hK hP (ci := 11) (q0 := 0) rfl rfl) rfl rfl (by decide) rfl rfl rfl rfl rfl hl.1 rfl (Nat.le_of_ble_eq_true rfl) dX11_isStuck_13 (fun H locs hP hD hS => ?_)
    refine lv_iload_n hx hb dX11_isStuck_16 rfl (lv_at hl 2 rfl) ?_
    refine lv_icmp_ne (tgt := 24) hx hb dX11_isStuck_17 (by decide) (fun c4 => ?_) (fun c4 => ?_)
    · have hf := of_neg hf c4
      refine lv_iconst (v := (0 : Int32)) hx hb dX11_isStuck_24 (by decide) ?_
      cases hf
      exact ret_z hx hb hr hlk hK hP hD hS (by decide) dX11_isStuck_25
    · have hf := of_pos hf c4
      refine lv_iconst (v := (1 : Int32)) hx hb dX11_isStuck_20 (by decide) ?_
      refine lv_goto (tgt := 25) hx hb dX11_isStuck_21 (by decide) ?_
      cases hf
      exact ret_z hx hb hr hlk hK hP hD hS (by decide) dX11_isStuck_25
theorem yk_X11_isStuck : ykV yX11_isStuck RX11 cX11_isStuck 3 (some .boolean) 2 := ⟨wd_1701, wd_95, wd_142, wd_1702, rfl, by decide +kernel, by decide +kernel, by decide +kernel⟩
theorem dX11_stuckMany_0 : decode cX11_stuckMany 0 = .ok (.aload_n 0, 1) := by decide +kernel
theorem dX11_stuckMany_1 : decode cX11_stuckMany 1 = .ok (.iload_n 1, 1) := by decide +kernel
theorem dX11_stuckMany_2 : decode cX11_stuckMany 2 = .ok (.iconst 0, 1) := by decide +kernel
theorem dX11_stuckMany_3 : decode cX11_stuckMany 3 = .ok (.invokevirtual 278, 3) := by decide +kernel
theorem dX11_stuckMany_6 : decode cX11_stuckMany 6 = .ok (.ifCond .lt 7, 3) := by decide +kernel
theorem dX11_stuckMany_9 : decode cX11_stuckMany 9 = .ok (.iconst 1, 1) := by decide +kernel
theorem dX11_stuckMany_10 : decode cX11_stuckMany 10 = .ok (.goto 4, 3) := by decide +kernel
theorem dX11_stuckMany_13 : decode cX11_stuckMany 13 = .ok (.iconst 0, 1) := by decide +kernel
theorem dX11_stuckMany_14 : decode cX11_stuckMany 14 = .ok (.aload_n 0, 1) := by decide +kernel
theorem dX11_stuckMany_15 : decode cX11_stuckMany 15 = .ok (.iload_n 1, 1) := by decide +kernel
theorem dX11_stuckMany_16 : decode cX11_stuckMany 16 = .ok (.iconst 1, 1) := by decide +kernel
theorem dX11_stuckMany_17 : decode cX11_stuckMany 17 = .ok (.invokevirtual 278, 3) := by decide +kernel
theorem dX11_stuckMany_20 : decode cX11_stuckMany 20 = .ok (.ifCond .lt 7, 3) := by decide +kernel
theorem dX11_stuckMany_23 : decode cX11_stuckMany 23 = .ok (.iconst 1, 1) := by decide +kernel
theorem dX11_stuckMany_24 : decode cX11_stuckMany 24 = .ok (.goto 4, 3) := by decide +kernel
theorem dX11_stuckMany_27 : decode cX11_stuckMany 27 = .ok (.iconst 0, 1) := by decide +kernel
theorem dX11_stuckMany_28 : decode cX11_stuckMany 28 = .ok (.iadd, 1) := by decide +kernel
theorem dX11_stuckMany_29 : decode cX11_stuckMany 29 = .ok (.ireturn, 1) := by decide +kernel
def wW_X11_stuckMany (G : GG) (h0 h1 y0_1 y0_2 y0_3 y0_4 y0_6 y0_18 y0_21 y0_22 y0_23 y0_24 y0_25 y0_26 y0_33 y0_34 y0_38 y0_39 y0_40 y0_41 y0_42 y0_43 y0_45 y0_46 y0_47 y0_48 : Nat) (x0_5 : Int32) (x0_7 : Int32) (x0_8 : Int32) (x0_9 : Int32) (x0_10 : Int32) (x0_11 : Int32) (x0_12 : Int32) (x0_13 : Int32) (x0_14 : Int32) (x0_15 : Int32) (x0_16 : Int32) (x0_17 : Int32) (x0_19 : Int32) (x0_20 : Int32) (x0_27 : Int32) (x0_28 : Int32) (x0_29 : Int32) (x0_30 : Int32) (x0_31 : Int32) (x0_32 : Int32) (x0_35 : Int32) (x0_36 : Int32) (x0_37 : Int32) (x0_44 : Int32) (x0_49 : Int32) (x0_50 : Int32) (a1 : Nat → Int32) : va_W := [(h0, .inr (11, [.ref h1, .ref y0_1, .ref y0_2, .ref y0_3, .ref y0_4, .int x0_5, .ref y0_6, .int x0_7, .int x0_8, .int x0_9, .int x0_10, .int x0_11, .int x0_12, .int x0_13, .int x0_14, .int x0_15, .int x0_16, .int x0_17, .ref y0_18, .int x0_19, .int x0_20, .ref y0_21, .ref y0_22, .ref y0_23, .ref y0_24, .ref y0_25, .ref y0_26, .int x0_27, .int x0_28, .int x0_29, .int x0_30, .int x0_31, .int x0_32, .ref y0_33, .ref y0_34, .int x0_35, .int x0_36, .int x0_37, .ref y0_38, .ref y0_39, .ref y0_40, .ref y0_41, .ref y0_42, .ref y0_43, .int x0_44, .ref y0_45, .ref y0_46, .ref y0_47, .ref y0_48, .int x0_49, .int x0_50])), (h1, .inl (G.2.1, 121, .inl a1))]
set_option maxHeartbeats 4000000 in
set_option maxRecDepth 100000 in
theorem c_X11_stuckMany (l : Launch) (G : GG) (h0 h1 y0_1 y0_2 y0_3 y0_4 y0_6 y0_18 y0_21 y0_22 y0_23 y0_24 y0_25 y0_26 y0_33 y0_34 y0_38 y0_39 y0_40 y0_41 y0_42 y0_43 y0_45 y0_46 y0_47 y0_48 : Nat) (sz : Nat) (x0_5 : Int32) (x0_7 : Int32) (x0_8 : Int32) (x0_9 : Int32) (x0_10 : Int32) (x0_11 : Int32) (x0_12 : Int32) (x0_13 : Int32) (x0_14 : Int32) (x0_15 : Int32) (x0_16 : Int32) (x0_17 : Int32) (x0_19 : Int32) (x0_20 : Int32) (x0_27 : Int32) (x0_28 : Int32) (x0_29 : Int32) (x0_30 : Int32) (x0_31 : Int32) (x0_32 : Int32) (x0_35 : Int32) (x0_36 : Int32) (x0_37 : Int32) (x0_44 : Int32) (x0_49 : Int32) (x0_50 : Int32) (a1 : Nat → Int32) (F : Nat) (b1 : Int32)  (r0 : Int32) (hf : p_X11_stuckMany F a1 b1 = some r0) : Met l yX11_stuckMany (.code yX11_stuckMany cX11_stuckMany 2 (some .int) :: gtbl) ({ frames := 1, cells := 0, slots := 0, locals := 22 } : Room) (PcS G [.ref h0, .int b1] (wW_X11_stuckMany G h0 h1 y0_1 y0_2 y0_3 y0_4 y0_6 y0_18 y0_21 y0_22 y0_23 y0_24 y0_25 y0_26 y0_33 y0_34 y0_38 y0_39 y0_40 y0_41 y0_42 y0_43 y0_45 y0_46 y0_47 y0_48 x0_5 x0_7 x0_8 x0_9 x0_10 x0_11 x0_12 x0_13 x0_14 x0_15 x0_16 x0_17 x0_19 x0_20 x0_27 x0_28 x0_29 x0_30 x0_31 x0_32 x0_35 x0_36 x0_37 x0_44 x0_49 x0_50 a1) sz) (QiS G r0 (va_A (wW_X11_stuckMany G h0 h1 y0_1 y0_2 y0_3 y0_4 y0_6 y0_18 y0_21 y0_22 y0_23 y0_24 y0_25 y0_26 y0_33 y0_34 y0_38 y0_39 y0_40 y0_41 y0_42 y0_43 y0_45 y0_46 y0_47 y0_48 x0_5 x0_7 x0_8 x0_9 x0_10 x0_11 x0_12 x0_13 x0_14 x0_15 x0_16 x0_17 x0_19 x0_20 x0_27 x0_28 x0_29 x0_30 x0_31 x0_32 x0_35 x0_36 x0_37 x0_44 x0_49 x0_50 a1) sz) (wW_X11_stuckMany G h0 h1 y0_1 y0_2 y0_3 y0_4 y0_6 y0_18 y0_21 y0_22 y0_23 y0_24 y0_25 y0_26 y0_33 y0_34 y0_38 y0_39 y0_40 y0_41 y0_42 y0_43 y0_45 y0_46 y0_47 y0_48 x0_5 x0_7 x0_8 x0_9 x0_10 x0_11 x0_12 x0_13 x0_14 x0_15 x0_16 x0_17 x0_19 x0_20 x0_27 x0_28 x0_29 x0_30 x0_31 x0_32 x0_35 x0_36 x0_37 x0_44 x0_49 x0_50 a1)) 0 0 (va_A (wW_X11_stuckMany G h0 h1 y0_1 y0_2 y0_3 y0_4 y0_6 y0_18 y0_21 y0_22 y0_23 y0_24 y0_25 y0_26 y0_33 y0_34 y0_38 y0_39 y0_40 y0_41 y0_42 y0_43 y0_45 y0_46 y0_47 y0_48 x0_5 x0_7 x0_8 x0_9 x0_10 x0_11 x0_12 x0_13 x0_14 x0_15 x0_16 x0_17 x0_19 x0_20 x0_27 x0_28 x0_29 x0_30 x0_31 x0_32 x0_35 x0_36 x0_37 x0_44 x0_49 x0_50 a1) sz) := by
  refine met_start (by decide) (Nat.le_of_ble_eq_true rfl) ?_
  intro p e s m below meth c hC hr hlk hnm hK hP hD hA hS hX ls hl
  obtain ⟨hx, hb, hml, hown, ht0⟩ := hC
  have hown : s.vm.findClass RX11 = some m.cls := hown
  generalize va_A (wW_X11_stuckMany G h0 h1 y0_1 y0_2 y0_3 y0_4 y0_6 y0_18 y0_21 y0_22 y0_23 y0_24 y0_25 y0_26 y0_33 y0_34 y0_38 y0_39 y0_40 y0_41 y0_42 y0_43 y0_45 y0_46 y0_47 y0_48 x0_5 x0_7 x0_8 x0_9 x0_10 x0_11 x0_12 x0_13 x0_14 x0_15 x0_16 x0_17 x0_19 x0_20 x0_27 x0_28 x0_29 x0_30 x0_31 x0_32 x0_35 x0_36 x0_37 x0_44 x0_49 x0_50 a1) sz = A at hD hA hS hX ⊢
  have hl : lv_has ls 2 [(0, .ref h0), (1, .int b1)] := hl
  have hf : p_X11_stuckMany F a1 b1 = some r0 := hf
  have kJ28 : ∀ (s28_0 : Int32) (s28_1 : Int32), p_X11_stuckMany_J28 F a1 s28_0 s28_1 = some r0 → ∀ (H : Heap) (locs : List Loc), va_P G.1 vwCl (wW_X11_stuckMany G h0 h1 y0_1 y0_2 y0_3 y0_4 y0_6 y0_18 y0_21 y0_22 y0_23 y0_24 y0_25 y0_26 y0_33 y0_34 y0_38 y0_39 y0_40 y0_41 y0_42 y0_43 y0_45 y0_46 y0_47 y0_48 x0_5 x0_7 x0_8 x0_9 x0_10 x0_11 x0_12 x0_13 x0_14 x0_15 x0_16 x0_17 x0_19 x0_20 x0_27 x0_28 x0_29 x0_30 x0_31 x0_32 x0_35 x0_36 x0_37 x0_44 x0_49 x0_50 a1) H → va_D A (wW_X11_stuckMany G h0 h1 y0_1 y0_2 y0_3 y0_4 y0_6 y0_18 y0_21 y0_22 y0_23 y0_24 y0_25 y0_26 y0_33 y0_34 y0_38 y0_39 y0_40 y0_41 y0_42 y0_43 y0_45 y0_46 y0_47 y0_48 x0_5 x0_7 x0_8 x0_9 x0_10 x0_11 x0_12 x0_13 x0_14 x0_15 x0_16 x0_17 x0_19 x0_20 x0_27 x0_28 x0_29 x0_30 x0_31 x0_32 x0_35 x0_36 x0_37 x0_44 x0_49 x0_50 a1) → va_S A s.heap H locs → ∀ ls : Array Slot, lv_has ls 2 [] → W p l e ({ frames := 1, cells := 0, slots := 0, locals := 22 } : Room) s m (List.toArray [.ref h0, .int b1]) below meth c H locs 0 0 (MQ below (QiS G r0 A (wW_X11_stuckMany G h0 h1 y0_1 y0_2 y0_3 y0_4 y0_6 y0_18 y0_21 y0_22 y0_23 y0_24 y0_25 y0_26 y0_33 y0_34 y0_38 y0_39 y0_40 y0_41 y0_42 y0_43 y0_45 y0_46 y0_47 y0_48 x0_5 x0_7 x0_8 x0_9 x0_10 x0_11 x0_12 x0_13 x0_14 x0_15 x0_16 x0_17 x0_19 x0_20 x0_27 x0_28 x0_29 x0_30 x0_31 x0_32 x0_35 x0_36 x0_37 x0_44 x0_49 x0_50 a1)) (List.toArray [.ref h0, .int b1]) s 0 0 A) (F0 m 28 ls [.int s28_1, .int s28_0]) := by
    intro s28_0 s28_1 hf H locs hP hD hS ls hl
    refine lv_iadd hx hb dX11_stuckMany_28 ?_
    cases hf
    exact ret_i hx hb hr hlk hK hP hD hS dX11_stuckMany_29
  have kJ14 : ∀ (u14_1 : Int32) (s14_0 : Int32), p_X11_stuckMany_J14 F a1 u14_1 s14_0 = some r0 → ∀ (H : Heap) (locs : List Loc), va_P G.1 vwCl (wW_X11_stuckMany G h0 h1 y0_1 y0_2 y0_3 y0_4 y0_6 y0_18 y0_21 y0_22 y0_23 y0_24 y0_25 y0_26 y0_33 y0_34 y0_38 y0_39 y0_40 y0_41 y0_42 y0_43 y0_45 y0_46 y0_47 y0_48 x0_5 x0_7 x0_8 x0_9 x0_10 x0_11 x0_12 x0_13 x0_14 x0_15 x0_16 x0_17 x0_19 x0_20 x0_27 x0_28 x0_29 x0_30 x0_31 x0_32 x0_35 x0_36 x0_37 x0_44 x0_49 x0_50 a1) H → va_D A (wW_X11_stuckMany G h0 h1 y0_1 y0_2 y0_3 y0_4 y0_6 y0_18 y0_21 y0_22 y0_23 y0_24 y0_25 y0_26 y0_33 y0_34 y0_38 y0_39 y0_40 y0_41 y0_42 y0_43 y0_45 y0_46 y0_47 y0_48 x0_5 x0_7 x0_8 x0_9 x0_10 x0_11 x0_12 x0_13 x0_14 x0_15 x0_16 x0_17 x0_19 x0_20 x0_27 x0_28 x0_29 x0_30 x0_31 x0_32 x0_35 x0_36 x0_37 x0_44 x0_49 x0_50 a1) → va_S A s.heap H locs → ∀ ls : Array Slot, lv_has ls 2 [(0, .ref h0), (1, .int u14_1)] → W p l e ({ frames := 1, cells := 0, slots := 0, locals := 22 } : Room) s m (List.toArray [.ref h0, .int b1]) below meth c H locs 0 0 (MQ below (QiS G r0 A (wW_X11_stuckMany G h0 h1 y0_1 y0_2 y0_3 y0_4 y0_6 y0_18 y0_21 y0_22 y0_23 y0_24 y0_25 y0_26 y0_33 y0_34 y0_38 y0_39 y0_40 y0_41 y0_42 y0_43 y0_45 y0_46 y0_47 y0_48 x0_5 x0_7 x0_8 x0_9 x0_10 x0_11 x0_12 x0_13 x0_14 x0_15 x0_16 x0_17 x0_19 x0_20 x0_27 x0_28 x0_29 x0_30 x0_31 x0_32 x0_35 x0_36 x0_37 x0_44 x0_49 x0_50 a1)) (List.toArray [.ref h0, .int b1]) s 0 0 A) (F0 m 14 ls [.int s14_0]) := by
    intro u14_1 s14_0 hf H locs hP hD hS ls hl
    refine lv_aload_n hx hb dX11_stuckMany_14 rfl (lv_at hl 0 rfl) ?_
    refine lv_iload_n hx hb dX11_stuckMany_15 rfl (lv_at hl 1 rfl) ?_
    refine lv_iconst (v := (1 : Int32)) hx hb dX11_stuckMany_16 (by decide) ?_
    obtain ⟨r_17_0, hc_r_17_0, hf⟩ := of_bnd hf
    refine cl_Vi (w2 := (wW_X11_stuckMany G h0 h1 y0_1 y0_2 y0_3 y0_4 y0_6 y0_18 y0_21 y0_22 y0_23 y0_24 y0_25 y0_26 y0_33 y0_34 y0_38 y0_39 y0_40 y0_41 y0_42 y0_43 y0_45 y0_46 y0_47 y0_48 x0_5 x0_7 x0_8 x0_9 x0_10 x0_11 x0_12 x0_13 x0_14 x0_15 x0_16 x0_17 x0_19 x0_20 x0_27 x0_28 x0_29 x0_30 x0_31 x0_32 x0_35 x0_36 x0_37 x0_44 x0_49 x0_50 a1)) (As := [.int u14_1, .int (1 : Int32)]) (rest := [.int s14_0]) ⟨hx, hb, hml, hown, ht0⟩ (c_X11_stuckAt l G h0 h1 y0_1 y0_2 y0_3 y0_4 y0_6 y0_18 y0_21 y0_22 y0_23 y0_24 y0_25 y0_26 y0_33 y0_34 y0_38 y0_39 y0_40 y0_41 y0_42 y0_43 y0_45 y0_46 y0_47 y0_48 _ x0_5 x0_7 x0_8 x0_9 x0_10 x0_11 x0_12 x0_13 x0_14 x0_15 x0_16 x0_17 x0_19 x0_20 x0_27 x0_28 x0_29 x0_30 x0_31 x0_32 x0_35 x0_36 x0_37 x0_44 x0_49 x0_50 a1 F u14_1 (1 : Int32) _ hc_r_17_0) yk_X11_stuckAt wd_1607 ⟨rfl, rfl, by decide, by decide⟩ ⟨Nat.le_refl _, Nat.le_refl _⟩ hX hK hP hD hS hA [0, 1] [] [0, 1] (va_recv hK hP (ci := 11) (q0 := 0) rfl rfl) rfl rfl (by decide) rfl rfl rfl rfl rfl hl.1 rfl (Nat.le_of_ble_eq_true rfl) dX11_stuckMany_17 (fun H locs hP hD hS => ?_)
    refine lv_if_lt (tgt := 27) hx hb dX11_stuckMany_20 (by decide) (fun c2 => ?_) (fun c2 => ?_)
    · have hf := of_pos hf c2
      refine lv_iconst (v := (0 : Int32)) hx hb dX11_stuckMany_27 (by decide) ?_
      exact kJ28 _ _ hf _ _ hP hD hS _ (lv_sub hl [] rfl)
    · have hf := of_neg hf c2
      refine lv_iconst (v := (1 : Int32)) hx hb dX11_stuckMany_23 (by decide) ?_
      refine lv_goto (tgt := 28) hx hb dX11_stuckMany_24 (by decide) ?_
      exact kJ28 _ _ hf _ _ hP hD hS _ (lv_sub hl [] rfl)
  refine lv_aload_n hx hb dX11_stuckMany_0 rfl (lv_at hl 0 rfl) ?_
  refine lv_iload_n hx hb dX11_stuckMany_1 rfl (lv_at hl 1 rfl) ?_
  refine lv_iconst (v := (0 : Int32)) hx hb dX11_stuckMany_2 (by decide) ?_
  obtain ⟨r_3_2, hc_r_3_2, hf⟩ := of_bnd hf
  refine cl_Vi (w2 := (wW_X11_stuckMany G h0 h1 y0_1 y0_2 y0_3 y0_4 y0_6 y0_18 y0_21 y0_22 y0_23 y0_24 y0_25 y0_26 y0_33 y0_34 y0_38 y0_39 y0_40 y0_41 y0_42 y0_43 y0_45 y0_46 y0_47 y0_48 x0_5 x0_7 x0_8 x0_9 x0_10 x0_11 x0_12 x0_13 x0_14 x0_15 x0_16 x0_17 x0_19 x0_20 x0_27 x0_28 x0_29 x0_30 x0_31 x0_32 x0_35 x0_36 x0_37 x0_44 x0_49 x0_50 a1)) (As := [.int b1, .int (0 : Int32)]) (rest := []) ⟨hx, hb, hml, hown, ht0⟩ (c_X11_stuckAt l G h0 h1 y0_1 y0_2 y0_3 y0_4 y0_6 y0_18 y0_21 y0_22 y0_23 y0_24 y0_25 y0_26 y0_33 y0_34 y0_38 y0_39 y0_40 y0_41 y0_42 y0_43 y0_45 y0_46 y0_47 y0_48 _ x0_5 x0_7 x0_8 x0_9 x0_10 x0_11 x0_12 x0_13 x0_14 x0_15 x0_16 x0_17 x0_19 x0_20 x0_27 x0_28 x0_29 x0_30 x0_31 x0_32 x0_35 x0_36 x0_37 x0_44 x0_49 x0_50 a1 F b1 (0 : Int32) _ hc_r_3_2) yk_X11_stuckAt wd_1607 ⟨rfl, rfl, by decide, by decide⟩ ⟨Nat.le_refl _, Nat.le_refl _⟩ hX hK hP hD hS hA [0, 1] [] [0, 1] (va_recv hK hP (ci := 11) (q0 := 0) rfl rfl) rfl rfl (by decide) rfl rfl rfl rfl rfl hl.1 rfl (Nat.le_of_ble_eq_true rfl) dX11_stuckMany_3 (fun H locs hP hD hS => ?_)
  refine lv_if_lt (tgt := 13) hx hb dX11_stuckMany_6 (by decide) (fun c4 => ?_) (fun c4 => ?_)
  · have hf := of_pos hf c4
    refine lv_iconst (v := (0 : Int32)) hx hb dX11_stuckMany_13 (by decide) ?_
    exact kJ14 _ _ hf _ _ hP hD hS _ (lv_sub hl [0, 1] rfl)
  · have hf := of_neg hf c4
    refine lv_iconst (v := (1 : Int32)) hx hb dX11_stuckMany_9 (by decide) ?_
    refine lv_goto (tgt := 14) hx hb dX11_stuckMany_10 (by decide) ?_
    exact kJ14 _ _ hf _ _ hP hD hS _ (lv_sub hl [0, 1] rfl)
theorem yk_X11_stuckMany : ykV yX11_stuckMany RX11 cX11_stuckMany 2 (some .int) 1 := ⟨wd_1732, wd_99, wd_142, wd_1733, rfl, by decide +kernel, by decide +kernel, by decide +kernel⟩
theorem dX11_writeBits_0 : decode cX11_writeBits 0 = .ok (.aload_n 0, 1) := by decide +kernel
theorem dX11_writeBits_1 : decode cX11_writeBits 1 = .ok (.iload_n 1, 1) := by decide +kernel
theorem dX11_writeBits_2 : decode cX11_writeBits 2 = .ok (.iconst 0, 1) := by decide +kernel
theorem dX11_writeBits_3 : decode cX11_writeBits 3 = .ok (.invokevirtual 278, 3) := by decide +kernel
theorem dX11_writeBits_6 : decode cX11_writeBits 6 = .ok (.istore 4, 2) := by decide +kernel
theorem dX11_writeBits_8 : decode cX11_writeBits 8 = .ok (.aload_n 0, 1) := by decide +kernel
theorem dX11_writeBits_9 : decode cX11_writeBits 9 = .ok (.iload_n 1, 1) := by decide +kernel
theorem dX11_writeBits_10 : decode cX11_writeBits 10 = .ok (.iconst 1, 1) := by decide +kernel
theorem dX11_writeBits_11 : decode cX11_writeBits 11 = .ok (.invokevirtual 278, 3) := by decide +kernel
theorem dX11_writeBits_14 : decode cX11_writeBits 14 = .ok (.istore 5, 2) := by decide +kernel
theorem dX11_writeBits_16 : decode cX11_writeBits 16 = .ok (.iload 4, 2) := by decide +kernel
theorem dX11_writeBits_18 : decode cX11_writeBits 18 = .ok (.ifCond .ge 7, 3) := by decide +kernel
theorem dX11_writeBits_21 : decode cX11_writeBits 21 = .ok (.iconst 0, 1) := by decide +kernel
theorem dX11_writeBits_22 : decode cX11_writeBits 22 = .ok (.goto 10, 3) := by decide +kernel
theorem dX11_writeBits_25 : decode cX11_writeBits 25 = .ok (.aload_n 0, 1) := by decide +kernel
theorem dX11_writeBits_26 : decode cX11_writeBits 26 = .ok (.iload_n 1, 1) := by decide +kernel
theorem dX11_writeBits_27 : decode cX11_writeBits 27 = .ok (.iload 4, 2) := by decide +kernel
theorem dX11_writeBits_29 : decode cX11_writeBits 29 = .ok (.invokevirtual 275, 3) := by decide +kernel
theorem dX11_writeBits_32 : decode cX11_writeBits 32 = .ok (.istore 6, 2) := by decide +kernel
theorem dX11_writeBits_34 : decode cX11_writeBits 34 = .ok (.iload 5, 2) := by decide +kernel
theorem dX11_writeBits_36 : decode cX11_writeBits 36 = .ok (.ifCond .ge 7, 3) := by decide +kernel
theorem dX11_writeBits_39 : decode cX11_writeBits 39 = .ok (.iconst 0, 1) := by decide +kernel
theorem dX11_writeBits_40 : decode cX11_writeBits 40 = .ok (.goto 10, 3) := by decide +kernel
theorem dX11_writeBits_43 : decode cX11_writeBits 43 = .ok (.aload_n 0, 1) := by decide +kernel
theorem dX11_writeBits_44 : decode cX11_writeBits 44 = .ok (.iload_n 1, 1) := by decide +kernel
theorem dX11_writeBits_45 : decode cX11_writeBits 45 = .ok (.iload 5, 2) := by decide +kernel
theorem dX11_writeBits_47 : decode cX11_writeBits 47 = .ok (.invokevirtual 275, 3) := by decide +kernel
theorem dX11_writeBits_50 : decode cX11_writeBits 50 = .ok (.istore 7, 2) := by decide +kernel
theorem dX11_writeBits_52 : decode cX11_writeBits 52 = .ok (.aload_n 0, 1) := by decide +kernel
theorem dX11_writeBits_53 : decode cX11_writeBits 53 = .ok (.getfield 7, 3) := by decide +kernel
theorem dX11_writeBits_56 : decode cX11_writeBits 56 = .ok (.bipush 33, 2) := by decide +kernel
theorem dX11_writeBits_58 : decode cX11_writeBits 58 = .ok (.iload_n 1, 1) := by decide +kernel
theorem dX11_writeBits_59 : decode cX11_writeBits 59 = .ok (.iadd, 1) := by decide +kernel
theorem dX11_writeBits_60 : decode cX11_writeBits 60 = .ok (.iload_n 2, 1) := by decide +kernel
theorem dX11_writeBits_61 : decode cX11_writeBits 61 = .ok (.iastore, 1) := by decide +kernel
theorem dX11_writeBits_62 : decode cX11_writeBits 62 = .ok (.aload_n 0, 1) := by decide +kernel
theorem dX11_writeBits_63 : decode cX11_writeBits 63 = .ok (.getfield 7, 3) := by decide +kernel
theorem dX11_writeBits_66 : decode cX11_writeBits 66 = .ok (.bipush 49, 2) := by decide +kernel
theorem dX11_writeBits_68 : decode cX11_writeBits 68 = .ok (.iload_n 1, 1) := by decide +kernel
theorem dX11_writeBits_69 : decode cX11_writeBits 69 = .ok (.iadd, 1) := by decide +kernel
theorem dX11_writeBits_70 : decode cX11_writeBits 70 = .ok (.iload_n 3, 1) := by decide +kernel
theorem dX11_writeBits_71 : decode cX11_writeBits 71 = .ok (.iastore, 1) := by decide +kernel
theorem dX11_writeBits_72 : decode cX11_writeBits 72 = .ok (.iload 4, 2) := by decide +kernel
theorem dX11_writeBits_74 : decode cX11_writeBits 74 = .ok (.ifCond .lt 12, 3) := by decide +kernel
theorem dX11_writeBits_77 : decode cX11_writeBits 77 = .ok (.aload_n 0, 1) := by decide +kernel
theorem dX11_writeBits_78 : decode cX11_writeBits 78 = .ok (.iload_n 1, 1) := by decide +kernel
theorem dX11_writeBits_79 : decode cX11_writeBits 79 = .ok (.iload 4, 2) := by decide +kernel
theorem dX11_writeBits_81 : decode cX11_writeBits 81 = .ok (.iload 6, 2) := by decide +kernel
theorem dX11_writeBits_83 : decode cX11_writeBits 83 = .ok (.invokevirtual 281, 3) := by decide +kernel
theorem dX11_writeBits_86 : decode cX11_writeBits 86 = .ok (.iload 5, 2) := by decide +kernel
theorem dX11_writeBits_88 : decode cX11_writeBits 88 = .ok (.ifCond .lt 12, 3) := by decide +kernel
theorem dX11_writeBits_91 : decode cX11_writeBits 91 = .ok (.aload_n 0, 1) := by decide +kernel
theorem dX11_writeBits_92 : decode cX11_writeBits 92 = .ok (.iload_n 1, 1) := by decide +kernel
theorem dX11_writeBits_93 : decode cX11_writeBits 93 = .ok (.iload 5, 2) := by decide +kernel
theorem dX11_writeBits_95 : decode cX11_writeBits 95 = .ok (.iload 7, 2) := by decide +kernel
theorem dX11_writeBits_97 : decode cX11_writeBits 97 = .ok (.invokevirtual 281, 3) := by decide +kernel
theorem dX11_writeBits_100 : decode cX11_writeBits 100 = .ok (.return_, 1) := by decide +kernel
def wW_X11_writeBits (G : GG) (h0 h1 h2 y0_2 y0_3 y0_4 y0_6 y0_18 y0_21 y0_22 y0_23 y0_24 y0_25 y0_26 y0_33 y0_34 y0_38 y0_39 y0_40 y0_41 y0_42 y0_43 y0_45 y0_46 y0_47 y0_48 : Nat) (x0_5 : Int32) (x0_7 : Int32) (x0_8 : Int32) (x0_9 : Int32) (x0_10 : Int32) (x0_11 : Int32) (x0_12 : Int32) (x0_13 : Int32) (x0_14 : Int32) (x0_15 : Int32) (x0_16 : Int32) (x0_17 : Int32) (x0_19 : Int32) (x0_20 : Int32) (x0_27 : Int32) (x0_28 : Int32) (x0_29 : Int32) (x0_30 : Int32) (x0_31 : Int32) (x0_32 : Int32) (x0_35 : Int32) (x0_36 : Int32) (x0_37 : Int32) (x0_44 : Int32) (x0_49 : Int32) (x0_50 : Int32) (a1 : Nat → Int32) (a2 : Nat → Int32) : va_W := [(h0, .inr (11, [.ref h1, .ref h2, .ref y0_2, .ref y0_3, .ref y0_4, .int x0_5, .ref y0_6, .int x0_7, .int x0_8, .int x0_9, .int x0_10, .int x0_11, .int x0_12, .int x0_13, .int x0_14, .int x0_15, .int x0_16, .int x0_17, .ref y0_18, .int x0_19, .int x0_20, .ref y0_21, .ref y0_22, .ref y0_23, .ref y0_24, .ref y0_25, .ref y0_26, .int x0_27, .int x0_28, .int x0_29, .int x0_30, .int x0_31, .int x0_32, .ref y0_33, .ref y0_34, .int x0_35, .int x0_36, .int x0_37, .ref y0_38, .ref y0_39, .ref y0_40, .ref y0_41, .ref y0_42, .ref y0_43, .int x0_44, .ref y0_45, .ref y0_46, .ref y0_47, .ref y0_48, .int x0_49, .int x0_50])), (h1, .inl (G.2.1, 121, .inl a1)), (h2, .inl (G.2.1, 2, .inl a2))]
set_option maxHeartbeats 4000000 in
set_option maxRecDepth 100000 in
theorem c_X11_writeBits (l : Launch) (G : GG) (h0 h1 h2 y0_2 y0_3 y0_4 y0_6 y0_18 y0_21 y0_22 y0_23 y0_24 y0_25 y0_26 y0_33 y0_34 y0_38 y0_39 y0_40 y0_41 y0_42 y0_43 y0_45 y0_46 y0_47 y0_48 : Nat) (sz : Nat) (x0_5 : Int32) (x0_7 : Int32) (x0_8 : Int32) (x0_9 : Int32) (x0_10 : Int32) (x0_11 : Int32) (x0_12 : Int32) (x0_13 : Int32) (x0_14 : Int32) (x0_15 : Int32) (x0_16 : Int32) (x0_17 : Int32) (x0_19 : Int32) (x0_20 : Int32) (x0_27 : Int32) (x0_28 : Int32) (x0_29 : Int32) (x0_30 : Int32) (x0_31 : Int32) (x0_32 : Int32) (x0_35 : Int32) (x0_36 : Int32) (x0_37 : Int32) (x0_44 : Int32) (x0_49 : Int32) (x0_50 : Int32) (a1 : Nat → Int32) (a2 : Nat → Int32) (F : Nat) (b1 : Int32) (b2 : Int32) (b3 : Int32)  (e_a1 : Nat → Int32) (hf : p_X11_writeBits F x0_5 a1 a2 b1 b2 b3 = some e_a1) : Met l yX11_writeBits (.code yX11_writeBits cX11_writeBits 8 none :: gtbl) ({ frames := 4, cells := 0, slots := 0, locals := 88 } : Room) (PcS G [.ref h0, .int b1, .int b2, .int b3] (wW_X11_writeBits G h0 h1 h2 y0_2 y0_3 y0_4 y0_6 y0_18 y0_21 y0_22 y0_23 y0_24 y0_25 y0_26 y0_33 y0_34 y0_38 y0_39 y0_40 y0_41 y0_42 y0_43 y0_45 y0_46 y0_47 y0_48 x0_5 x0_7 x0_8 x0_9 x0_10 x0_11 x0_12 x0_13 x0_14 x0_15 x0_16 x0_17 x0_19 x0_20 x0_27 x0_28 x0_29 x0_30 x0_31 x0_32 x0_35 x0_36 x0_37 x0_44 x0_49 x0_50 a1 a2) sz) (QvS G (va_A (wW_X11_writeBits G h0 h1 h2 y0_2 y0_3 y0_4 y0_6 y0_18 y0_21 y0_22 y0_23 y0_24 y0_25 y0_26 y0_33 y0_34 y0_38 y0_39 y0_40 y0_41 y0_42 y0_43 y0_45 y0_46 y0_47 y0_48 x0_5 x0_7 x0_8 x0_9 x0_10 x0_11 x0_12 x0_13 x0_14 x0_15 x0_16 x0_17 x0_19 x0_20 x0_27 x0_28 x0_29 x0_30 x0_31 x0_32 x0_35 x0_36 x0_37 x0_44 x0_49 x0_50 a1 a2) sz) (wW_X11_writeBits G h0 h1 h2 y0_2 y0_3 y0_4 y0_6 y0_18 y0_21 y0_22 y0_23 y0_24 y0_25 y0_26 y0_33 y0_34 y0_38 y0_39 y0_40 y0_41 y0_42 y0_43 y0_45 y0_46 y0_47 y0_48 x0_5 x0_7 x0_8 x0_9 x0_10 x0_11 x0_12 x0_13 x0_14 x0_15 x0_16 x0_17 x0_19 x0_20 x0_27 x0_28 x0_29 x0_30 x0_31 x0_32 x0_35 x0_36 x0_37 x0_44 x0_49 x0_50 e_a1 a2)) 0 0 (va_A (wW_X11_writeBits G h0 h1 h2 y0_2 y0_3 y0_4 y0_6 y0_18 y0_21 y0_22 y0_23 y0_24 y0_25 y0_26 y0_33 y0_34 y0_38 y0_39 y0_40 y0_41 y0_42 y0_43 y0_45 y0_46 y0_47 y0_48 x0_5 x0_7 x0_8 x0_9 x0_10 x0_11 x0_12 x0_13 x0_14 x0_15 x0_16 x0_17 x0_19 x0_20 x0_27 x0_28 x0_29 x0_30 x0_31 x0_32 x0_35 x0_36 x0_37 x0_44 x0_49 x0_50 a1 a2) sz) := by
  refine met_start (by decide) (Nat.le_of_ble_eq_true rfl) ?_
  intro p e s m below meth c hC hr hlk hnm hK hP hD hA hS hX ls hl
  obtain ⟨hx, hb, hml, hown, ht0⟩ := hC
  have hown : s.vm.findClass RX11 = some m.cls := hown
  generalize va_A (wW_X11_writeBits G h0 h1 h2 y0_2 y0_3 y0_4 y0_6 y0_18 y0_21 y0_22 y0_23 y0_24 y0_25 y0_26 y0_33 y0_34 y0_38 y0_39 y0_40 y0_41 y0_42 y0_43 y0_45 y0_46 y0_47 y0_48 x0_5 x0_7 x0_8 x0_9 x0_10 x0_11 x0_12 x0_13 x0_14 x0_15 x0_16 x0_17 x0_19 x0_20 x0_27 x0_28 x0_29 x0_30 x0_31 x0_32 x0_35 x0_36 x0_37 x0_44 x0_49 x0_50 a1 a2) sz = A at hD hA hS hX ⊢
  have hl : lv_has ls 8 [(0, .ref h0), (1, .int b1), (2, .int b2), (3, .int b3)] := hl
  have hf : p_X11_writeBits F x0_5 a1 a2 b1 b2 b3 = some e_a1 := hf
  have kJ86 : ∀ (u86_1 : Int32) (u86_5 : Int32) (u86_7 : Int32) (a1_86 : Nat → Int32), p_X11_writeBits_J86 F x0_5 a2 u86_1 u86_5 u86_7 a1_86 = some e_a1 → ∀ (H : Heap) (locs : List Loc), va_P G.1 vwCl (wW_X11_writeBits G h0 h1 h2 y0_2 y0_3 y0_4 y0_6 y0_18 y0_21 y0_22 y0_23 y0_24 y0_25 y0_26 y0_33 y0_34 y0_38 y0_39 y0_40 y0_41 y0_42 y0_43 y0_45 y0_46 y0_47 y0_48 x0_5 x0_7 x0_8 x0_9 x0_10 x0_11 x0_12 x0_13 x0_14 x0_15 x0_16 x0_17 x0_19 x0_20 x0_27 x0_28 x0_29 x0_30 x0_31 x0_32 x0_35 x0_36 x0_37 x0_44 x0_49 x0_50 a1_86 a2) H → va_D A (wW_X11_writeBits G h0 h1 h2 y0_2 y0_3 y0_4 y0_6 y0_18 y0_21 y0_22 y0_23 y0_24 y0_25 y0_26 y0_33 y0_34 y0_38 y0_39 y0_40 y0_41 y0_42 y0_43 y0_45 y0_46 y0_47 y0_48 x0_5 x0_7 x0_8 x0_9 x0_10 x0_11 x0_12 x0_13 x0_14 x0_15 x0_16 x0_17 x0_19 x0_20 x0_27 x0_28 x0_29 x0_30 x0_31 x0_32 x0_35 x0_36 x0_37 x0_44 x0_49 x0_50 a1_86 a2) → va_S A s.heap H locs → ∀ ls : Array Slot, lv_has ls 8 [(0, .ref h0), (1, .int u86_1), (5, .int u86_5), (7, .int u86_7)] → W p l e ({ frames := 4, cells := 0, slots := 0, locals := 88 } : Room) s m (List.toArray [.ref h0, .int b1, .int b2, .int b3]) below meth c H locs 0 0 (MQ below (QvS G A (wW_X11_writeBits G h0 h1 h2 y0_2 y0_3 y0_4 y0_6 y0_18 y0_21 y0_22 y0_23 y0_24 y0_25 y0_26 y0_33 y0_34 y0_38 y0_39 y0_40 y0_41 y0_42 y0_43 y0_45 y0_46 y0_47 y0_48 x0_5 x0_7 x0_8 x0_9 x0_10 x0_11 x0_12 x0_13 x0_14 x0_15 x0_16 x0_17 x0_19 x0_20 x0_27 x0_28 x0_29 x0_30 x0_31 x0_32 x0_35 x0_36 x0_37 x0_44 x0_49 x0_50 e_a1 a2)) (List.toArray [.ref h0, .int b1, .int b2, .int b3]) s 0 0 A) (F0 m 86 ls []) := by
    intro u86_1 u86_5 u86_7 a1_86 hf H locs hP hD hS ls hl
    refine lv_iload hx hb dX11_writeBits_86 (lv_at hl 2 rfl) ?_
    refine lv_if_lt (tgt := 100) hx hb dX11_writeBits_88 (by decide) (fun c1 => ?_) (fun c1 => ?_)
    · have hf := of_pos hf c1
      cases hf
      exact ret_v hx hb hr hlk hK hP hD hS dX11_writeBits_100
    · have hf := of_neg hf c1
      refine lv_aload_n hx hb dX11_writeBits_91 rfl (lv_at hl 0 rfl) ?_
      refine lv_iload_n hx hb dX11_writeBits_92 rfl (lv_at hl 1 rfl) ?_
      refine lv_iload hx hb dX11_writeBits_93 (lv_at hl 2 rfl) ?_
      refine lv_iload hx hb dX11_writeBits_95 (lv_at hl 3 rfl) ?_
      obtain ⟨r_97_1_a1, hc_r_97_1, hf⟩ := of_bnd hf
      refine cl_Vv (w2 := (wW_X11_writeBits G h0 h1 h2 y0_2 y0_3 y0_4 y0_6 y0_18 y0_21 y0_22 y0_23 y0_24 y0_25 y0_26 y0_33 y0_34 y0_38 y0_39 y0_40 y0_41 y0_42 y0_43 y0_45 y0_46 y0_47 y0_48 x0_5 x0_7 x0_8 x0_9 x0_10 x0_11 x0_12 x0_13 x0_14 x0_15 x0_16 x0_17 x0_19 x0_20 x0_27 x0_28 x0_29 x0_30 x0_31 x0_32 x0_35 x0_36 x0_37 x0_44 x0_49 x0_50 r_97_1_a1 a2)) (As := [.int u86_1, .int u86_5, .int u86_7]) (rest := []) ⟨hx, hb, hml, hown, ht0⟩ (c_X11_setBit l G h0 h1 h2 y0_2 y0_3 y0_4 y0_6 y0_18 y0_21 y0_22 y0_23 y0_24 y0_25 y0_26 y0_33 y0_34 y0_38 y0_39 y0_40 y0_41 y0_42 y0_43 y0_45 y0_46 y0_47 y0_48 _ x0_5 x0_7 x0_8 x0_9 x0_10 x0_11 x0_12 x0_13 x0_14 x0_15 x0_16 x0_17 x0_19 x0_20 x0_27 x0_28 x0_29 x0_30 x0_31 x0_32 x0_35 x0_36 x0_37 x0_44 x0_49 x0_50 a1_86 a2 F u86_1 u86_5 u86_7 _ hc_r_97_1) yk_X11_setBit wd_1619 ⟨rfl, rfl, by decide, by decide⟩ ⟨Nat.le_refl _, Nat.le_refl _⟩ hX hK hP hD hS hA [0, 1, 2] [] [0, 1, 2] (va_recv hK hP (ci := 11) (q0 := 0) rfl rfl) rfl rfl (by decide) rfl rfl rfl rfl rfl hl.1 rfl (Nat.le_of_ble_eq_true rfl) dX11_writeBits_97 (fun H locs hP hD hS => ?_)
      cases hf
      exact ret_v hx hb hr hlk hK hP hD hS dX11_writeBits_100
  have kJ50 : ∀ (u50_1 : Int32) (u50_2 : Int32) (u50_3 : Int32) (u50_4 : Int32) (u50_5 : Int32) (u50_6 : Int32) (s50_0 : Int32) (a1_50 : Nat → Int32), p_X11_writeBits_J50 F x0_5 a2 u50_1 u50_2 u50_3 u50_4 u50_5 u50_6 s50_0 a1_50 = some e_a1 → ∀ (H : Heap) (locs : List Loc), va_P G.1 vwCl (wW_X11_writeBits G h0 h1 h2 y0_2 y0_3 y0_4 y0_6 y0_18 y0_21 y0_22 y0_23 y0_24 y0_25 y0_26 y0_33 y0_34 y0_38 y0_39 y0_40 y0_41 y0_42 y0_43 y0_45 y0_46 y0_47 y0_48 x0_5 x0_7 x0_8 x0_9 x0_10 x0_11 x0_12 x0_13 x0_14 x0_15 x0_16 x0_17 x0_19 x0_20 x0_27 x0_28 x0_29 x0_30 x0_31 x0_32 x0_35 x0_36 x0_37 x0_44 x0_49 x0_50 a1_50 a2) H → va_D A (wW_X11_writeBits G h0 h1 h2 y0_2 y0_3 y0_4 y0_6 y0_18 y0_21 y0_22 y0_23 y0_24 y0_25 y0_26 y0_33 y0_34 y0_38 y0_39 y0_40 y0_41 y0_42 y0_43 y0_45 y0_46 y0_47 y0_48 x0_5 x0_7 x0_8 x0_9 x0_10 x0_11 x0_12 x0_13 x0_14 x0_15 x0_16 x0_17 x0_19 x0_20 x0_27 x0_28 x0_29 x0_30 x0_31 x0_32 x0_35 x0_36 x0_37 x0_44 x0_49 x0_50 a1_50 a2) → va_S A s.heap H locs → ∀ ls : Array Slot, lv_has ls 8 [(0, .ref h0), (1, .int u50_1), (2, .int u50_2), (3, .int u50_3), (4, .int u50_4), (5, .int u50_5), (6, .int u50_6)] → W p l e ({ frames := 4, cells := 0, slots := 0, locals := 88 } : Room) s m (List.toArray [.ref h0, .int b1, .int b2, .int b3]) below meth c H locs 0 0 (MQ below (QvS G A (wW_X11_writeBits G h0 h1 h2 y0_2 y0_3 y0_4 y0_6 y0_18 y0_21 y0_22 y0_23 y0_24 y0_25 y0_26 y0_33 y0_34 y0_38 y0_39 y0_40 y0_41 y0_42 y0_43 y0_45 y0_46 y0_47 y0_48 x0_5 x0_7 x0_8 x0_9 x0_10 x0_11 x0_12 x0_13 x0_14 x0_15 x0_16 x0_17 x0_19 x0_20 x0_27 x0_28 x0_29 x0_30 x0_31 x0_32 x0_35 x0_36 x0_37 x0_44 x0_49 x0_50 e_a1 a2)) (List.toArray [.ref h0, .int b1, .int b2, .int b3]) s 0 0 A) (F0 m 50 ls [.int s50_0]) := by
    intro u50_1 u50_2 u50_3 u50_4 u50_5 u50_6 s50_0 a1_50 hf H locs hP hD hS ls hl
    refine lv_istore (lv' := [(7, .int s50_0), (0, .ref h0), (1, .int u50_1), (2, .int u50_2), (3, .int u50_3), (4, .int u50_4), (5, .int u50_5), (6, .int u50_6)]) hx hb dX11_writeBits_50 hl (by decide) rfl (fun ls hl => ?_)
    refine lv_aload_n hx hb dX11_writeBits_52 rfl (lv_at hl 1 rfl) ?_
    refine va_get (ci := 11) (v := .ref h1) (C := RX11) (T := TX11) (N := 51) hx hb ht0 iX11 hown hK hP 0 rfl rfl 0 (by decide) (ht0 _ wd_1406) (fun _ h9 => h9) rfl dX11_writeBits_53 ?_
    refine lv_bipush (v := (33 : Int32)) hx hb dX11_writeBits_56 (by decide) ?_
    refine lv_iload_n hx hb dX11_writeBits_58 rfl (lv_at hl 2 rfl) ?_
    refine lv_iadd hx hb dX11_writeBits_59 ?_
    refine lv_iload_n hx hb dX11_writeBits_60 rfl (lv_at hl 3 rfl) ?_
    obtain ⟨g3, hf⟩ := of_grd hf
    refine va_iast hx hb hK hP hD hS 1 0 rfl rfl g3 dX11_writeBits_61 (fun H locs hP hD hS => ?_)
    have hP : va_P G.1 vwCl (wW_X11_writeBits G h0 h1 h2 y0_2 y0_3 y0_4 y0_6 y0_18 y0_21 y0_22 y0_23 y0_24 y0_25 y0_26 y0_33 y0_34 y0_38 y0_39 y0_40 y0_41 y0_42 y0_43 y0_45 y0_46 y0_47 y0_48 x0_5 x0_7 x0_8 x0_9 x0_10 x0_11 x0_12 x0_13 x0_14 x0_15 x0_16 x0_17 x0_19 x0_20 x0_27 x0_28 x0_29 x0_30 x0_31 x0_32 x0_35 x0_36 x0_37 x0_44 x0_49 x0_50 (upd a1_50 ((33 : Int32) + u50_1).toNatClampNeg u50_2) a2) H := hP
    have hD : va_D A (wW_X11_writeBits G h0 h1 h2 y0_2 y0_3 y0_4 y0_6 y0_18 y0_21 y0_22 y0_23 y0_24 y0_25 y0_26 y0_33 y0_34 y0_38 y0_39 y0_40 y0_41 y0_42 y0_43 y0_45 y0_46 y0_47 y0_48 x0_5 x0_7 x0_8 x0_9 x0_10 x0_11 x0_12 x0_13 x0_14 x0_15 x0_16 x0_17 x0_19 x0_20 x0_27 x0_28 x0_29 x0_30 x0_31 x0_32 x0_35 x0_36 x0_37 x0_44 x0_49 x0_50 (upd a1_50 ((33 : Int32) + u50_1).toNatClampNeg u50_2) a2) := hD
    refine lv_aload_n hx hb dX11_writeBits_62 rfl (lv_at hl 1 rfl) ?_
    refine va_get (ci := 11) (v := .ref h1) (C := RX11) (T := TX11) (N := 51) hx hb ht0 iX11 hown hK hP 0 rfl rfl 0 (by decide) (ht0 _ wd_1406) (fun _ h9 => h9) rfl dX11_writeBits_63 ?_
    refine lv_bipush (v := (49 : Int32)) hx hb dX11_writeBits_66 (by decide) ?_
    refine lv_iload_n hx hb dX11_writeBits_68 rfl (lv_at hl 2 rfl) ?_
    refine lv_iadd hx hb dX11_writeBits_69 ?_
    refine lv_iload_n hx hb dX11_writeBits_70 rfl (lv_at hl 4 rfl) ?_
    obtain ⟨g4, hf⟩ := of_grd hf
    refine va_iast hx hb hK hP hD hS 1 0 rfl rfl g4 dX11_writeBits_71 (fun H locs hP hD hS => ?_)
    have hP : va_P G.1 vwCl (wW_X11_writeBits G h0 h1 h2 y0_2 y0_3 y0_4 y0_6 y0_18 y0_21 y0_22 y0_23 y0_24 y0_25 y0_26 y0_33 y0_34 y0_38 y0_39 y0_40 y0_41 y0_42 y0_43 y0_45 y0_46 y0_47 y0_48 x0_5 x0_7 x0_8 x0_9 x0_10 x0_11 x0_12 x0_13 x0_14 x0_15 x0_16 x0_17 x0_19 x0_20 x0_27 x0_28 x0_29 x0_30 x0_31 x0_32 x0_35 x0_36 x0_37 x0_44 x0_49 x0_50 (upd (upd a1_50 ((33 : Int32) + u50_1).toNatClampNeg u50_2) ((49 : Int32) + u50_1).toNatClampNeg u50_3) a2) H := hP
    have hD : va_D A (wW_X11_writeBits G h0 h1 h2 y0_2 y0_3 y0_4 y0_6 y0_18 y0_21 y0_22 y0_23 y0_24 y0_25 y0_26 y0_33 y0_34 y0_38 y0_39 y0_40 y0_41 y0_42 y0_43 y0_45 y0_46 y0_47 y0_48 x0_5 x0_7 x0_8 x0_9 x0_10 x0_11 x0_12 x0_13 x0_14 x0_15 x0_16 x0_17 x0_19 x0_20 x0_27 x0_28 x0_29 x0_30 x0_31 x0_32 x0_35 x0_36 x0_37 x0_44 x0_49 x0_50 (upd (upd a1_50 ((33 : Int32) + u50_1).toNatClampNeg u50_2) ((49 : Int32) + u50_1).toNatClampNeg u50_3) a2) := hD
    refine lv_iload hx hb dX11_writeBits_72 (lv_at hl 5 rfl) ?_
    refine lv_if_lt (tgt := 86) hx hb dX11_writeBits_74 (by decide) (fun c5 => ?_) (fun c5 => ?_)
    · have hf := of_pos hf c5
      exact kJ86 _ _ _ _ hf _ _ hP hD hS _ (lv_sub hl [1, 2, 6, 0] rfl)
    · have hf := of_neg hf c5
      refine lv_aload_n hx hb dX11_writeBits_77 rfl (lv_at hl 1 rfl) ?_
      refine lv_iload_n hx hb dX11_writeBits_78 rfl (lv_at hl 2 rfl) ?_
      refine lv_iload hx hb dX11_writeBits_79 (lv_at hl 5 rfl) ?_
      refine lv_iload hx hb dX11_writeBits_81 (lv_at hl 7 rfl) ?_
      obtain ⟨r_83_5_a1, hc_r_83_5, hf⟩ := of_bnd hf
      refine cl_Vv (w2 := (wW_X11_writeBits G h0 h1 h2 y0_2 y0_3 y0_4 y0_6 y0_18 y0_21 y0_22 y0_23 y0_24 y0_25 y0_26 y0_33 y0_34 y0_38 y0_39 y0_40 y0_41 y0_42 y0_43 y0_45 y0_46 y0_47 y0_48 x0_5 x0_7 x0_8 x0_9 x0_10 x0_11 x0_12 x0_13 x0_14 x0_15 x0_16 x0_17 x0_19 x0_20 x0_27 x0_28 x0_29 x0_30 x0_31 x0_32 x0_35 x0_36 x0_37 x0_44 x0_49 x0_50 r_83_5_a1 a2)) (As := [.int u50_1, .int u50_4, .int u50_6]) (rest := []) ⟨hx, hb, hml, hown, ht0⟩ (c_X11_setBit l G h0 h1 h2 y0_2 y0_3 y0_4 y0_6 y0_18 y0_21 y0_22 y0_23 y0_24 y0_25 y0_26 y0_33 y0_34 y0_38 y0_39 y0_40 y0_41 y0_42 y0_43 y0_45 y0_46 y0_47 y0_48 _ x0_5 x0_7 x0_8 x0_9 x0_10 x0_11 x0_12 x0_13 x0_14 x0_15 x0_16 x0_17 x0_19 x0_20 x0_27 x0_28 x0_29 x0_30 x0_31 x0_32 x0_35 x0_36 x0_37 x0_44 x0_49 x0_50 (upd (upd a1_50 ((33 : Int32) + u50_1).toNatClampNeg u50_2) ((49 : Int32) + u50_1).toNatClampNeg u50_3) a2 F u50_1 u50_4 u50_6 _ hc_r_83_5) yk_X11_setBit wd_1619 ⟨rfl, rfl, by decide, by decide⟩ ⟨Nat.le_refl _, Nat.le_refl _⟩ hX hK hP hD hS hA [0, 1, 2] [] [0, 1, 2] (va_recv hK hP (ci := 11) (q0 := 0) rfl rfl) rfl rfl (by decide) rfl rfl rfl rfl rfl hl.1 rfl (Nat.le_of_ble_eq_true rfl) dX11_writeBits_83 (fun H locs hP hD hS => ?_)
      exact kJ86 _ _ _ _ hf _ _ hP hD hS _ (lv_sub hl [1, 2, 6, 0] rfl)
  have kJ32 : ∀ (u32_1 : Int32) (u32_2 : Int32) (u32_3 : Int32) (u32_4 : Int32) (u32_5 : Int32) (s32_0 : Int32) (a1_32 : Nat → Int32), p_X11_writeBits_J32 F x0_5 a2 u32_1 u32_2 u32_3 u32_4 u32_5 s32_0 a1_32 = some e_a1 → ∀ (H : Heap) (locs : List Loc), va_P G.1 vwCl (wW_X11_writeBits G h0 h1 h2 y0_2 y0_3 y0_4 y0_6 y0_18 y0_21 y0_22 y0_23 y0_24 y0_25 y0_26 y0_33 y0_34 y0_38 y0_39 y0_40 y0_41 y0_42 y0_43 y0_45 y0_46 y0_47 y0_48 x0_5 x0_7 x0_8 x0_9 x0_10 x0_11 x0_12 x0_13 x0_14 x0_15 x0_16 x0_17 x0_19 x0_20 x0_27 x0_28 x0_29 x0_30 x0_31 x0_32 x0_35 x0_36 x0_37 x0_44 x0_49 x0_50 a1_32 a2) H → va_D A (wW_X11_writeBits G h0 h1 h2 y0_2 y0_3 y0_4 y0_6 y0_18 y0_21 y0_22 y0_23 y0_24 y0_25 y0_26 y0_33 y0_34 y0_38 y0_39 y0_40 y0_41 y0_42 y0_43 y0_45 y0_46 y0_47 y0_48 x0_5 x0_7 x0_8 x0_9 x0_10 x0_11 x0_12 x0_13 x0_14 x0_15 x0_16 x0_17 x0_19 x0_20 x0_27 x0_28 x0_29 x0_30 x0_31 x0_32 x0_35 x0_36 x0_37 x0_44 x0_49 x0_50 a1_32 a2) → va_S A s.heap H locs → ∀ ls : Array Slot, lv_has ls 8 [(0, .ref h0), (1, .int u32_1), (2, .int u32_2), (3, .int u32_3), (4, .int u32_4), (5, .int u32_5)] → W p l e ({ frames := 4, cells := 0, slots := 0, locals := 88 } : Room) s m (List.toArray [.ref h0, .int b1, .int b2, .int b3]) below meth c H locs 0 0 (MQ below (QvS G A (wW_X11_writeBits G h0 h1 h2 y0_2 y0_3 y0_4 y0_6 y0_18 y0_21 y0_22 y0_23 y0_24 y0_25 y0_26 y0_33 y0_34 y0_38 y0_39 y0_40 y0_41 y0_42 y0_43 y0_45 y0_46 y0_47 y0_48 x0_5 x0_7 x0_8 x0_9 x0_10 x0_11 x0_12 x0_13 x0_14 x0_15 x0_16 x0_17 x0_19 x0_20 x0_27 x0_28 x0_29 x0_30 x0_31 x0_32 x0_35 x0_36 x0_37 x0_44 x0_49 x0_50 e_a1 a2)) (List.toArray [.ref h0, .int b1, .int b2, .int b3]) s 0 0 A) (F0 m 32 ls [.int s32_0]) := by
    intro u32_1 u32_2 u32_3 u32_4 u32_5 s32_0 a1_32 hf H locs hP hD hS ls hl
    refine lv_istore (lv' := [(6, .int s32_0), (0, .ref h0), (1, .int u32_1), (2, .int u32_2), (3, .int u32_3), (4, .int u32_4), (5, .int u32_5)]) hx hb dX11_writeBits_32 hl (by decide) rfl (fun ls hl => ?_)
    refine lv_iload hx hb dX11_writeBits_34 (lv_at hl 6 rfl) ?_
    refine lv_if_ge (tgt := 43) hx hb dX11_writeBits_36 (by decide) (fun c7 => ?_) (fun c7 => ?_)
    · have hf := of_pos hf c7
      refine lv_aload_n hx hb dX11_writeBits_43 rfl (lv_at hl 1 rfl) ?_
      refine lv_iload_n hx hb dX11_writeBits_44 rfl (lv_at hl 2 rfl) ?_
      refine lv_iload hx hb dX11_writeBits_45 (lv_at hl 6 rfl) ?_
      obtain ⟨r_47_7, hc_r_47_7, hf⟩ := of_bnd hf
      refine cl_Vi (w2 := (wW_X11_writeBits G h0 h1 h2 y0_2 y0_3 y0_4 y0_6 y0_18 y0_21 y0_22 y0_23 y0_24 y0_25 y0_26 y0_33 y0_34 y0_38 y0_39 y0_40 y0_41 y0_42 y0_43 y0_45 y0_46 y0_47 y0_48 x0_5 x0_7 x0_8 x0_9 x0_10 x0_11 x0_12 x0_13 x0_14 x0_15 x0_16 x0_17 x0_19 x0_20 x0_27 x0_28 x0_29 x0_30 x0_31 x0_32 x0_35 x0_36 x0_37 x0_44 x0_49 x0_50 a1_32 a2)) (As := [.int u32_1, .int u32_5]) (rest := []) ⟨hx, hb, hml, hown, ht0⟩ (c_X11_bitOf l G h0 h1 h2 y0_2 y0_3 y0_4 y0_6 y0_18 y0_21 y0_22 y0_23 y0_24 y0_25 y0_26 y0_33 y0_34 y0_38 y0_39 y0_40 y0_41 y0_42 y0_43 y0_45 y0_46 y0_47 y0_48 _ x0_5 x0_7 x0_8 x0_9 x0_10 x0_11 x0_12 x0_13 x0_14 x0_15 x0_16 x0_17 x0_19 x0_20 x0_27 x0_28 x0_29 x0_30 x0_31 x0_32 x0_35 x0_36 x0_37 x0_44 x0_49 x0_50 a1_32 a2 F u32_1 u32_5 _ hc_r_47_7) yk_X11_bitOf wd_1611 ⟨rfl, rfl, by decide, by decide⟩ ⟨Nat.le_refl _, Nat.le_refl _⟩ hX hK hP hD hS hA [0, 1, 2] [] [0, 1, 2] (va_recv hK hP (ci := 11) (q0 := 0) rfl rfl) rfl rfl (by decide) rfl rfl rfl rfl rfl hl.1 rfl (Nat.le_of_ble_eq_true rfl) dX11_writeBits_47 (fun H locs hP hD hS => ?_)
      exact kJ50 _ _ _ _ _ _ _ _ hf _ _ hP hD hS _ (lv_sub hl [1, 2, 3, 4, 5, 6, 0] rfl)
    · have hf := of_neg hf c7
      refine lv_iconst (v := (0 : Int32)) hx hb dX11_writeBits_39 (by decide) ?_
      refine lv_goto (tgt := 50) hx hb dX11_writeBits_40 (by decide) ?_
      exact kJ50 _ _ _ _ _ _ _ _ hf _ _ hP hD hS _ (lv_sub hl [1, 2, 3, 4, 5, 6, 0] rfl)
  refine lv_aload_n hx hb dX11_writeBits_0 rfl (lv_at hl 0 rfl) ?_
  refine lv_iload_n hx hb dX11_writeBits_1 rfl (lv_at hl 1 rfl) ?_
  refine lv_iconst (v := (0 : Int32)) hx hb dX11_writeBits_2 (by decide) ?_
  obtain ⟨r_3_8, hc_r_3_8, hf⟩ := of_bnd hf
  refine cl_Vi (w2 := (wW_X11_writeBits G h0 h1 h2 y0_2 y0_3 y0_4 y0_6 y0_18 y0_21 y0_22 y0_23 y0_24 y0_25 y0_26 y0_33 y0_34 y0_38 y0_39 y0_40 y0_41 y0_42 y0_43 y0_45 y0_46 y0_47 y0_48 x0_5 x0_7 x0_8 x0_9 x0_10 x0_11 x0_12 x0_13 x0_14 x0_15 x0_16 x0_17 x0_19 x0_20 x0_27 x0_28 x0_29 x0_30 x0_31 x0_32 x0_35 x0_36 x0_37 x0_44 x0_49 x0_50 a1 a2)) (As := [.int b1, .int (0 : Int32)]) (rest := []) ⟨hx, hb, hml, hown, ht0⟩ (c_X11_stuckAt l G h0 h1 h2 y0_2 y0_3 y0_4 y0_6 y0_18 y0_21 y0_22 y0_23 y0_24 y0_25 y0_26 y0_33 y0_34 y0_38 y0_39 y0_40 y0_41 y0_42 y0_43 y0_45 y0_46 y0_47 y0_48 _ x0_5 x0_7 x0_8 x0_9 x0_10 x0_11 x0_12 x0_13 x0_14 x0_15 x0_16 x0_17 x0_19 x0_20 x0_27 x0_28 x0_29 x0_30 x0_31 x0_32 x0_35 x0_36 x0_37 x0_44 x0_49 x0_50 a1 F b1 (0 : Int32) _ hc_r_3_8) yk_X11_stuckAt wd_1607 ⟨rfl, rfl, by decide, by decide⟩ ⟨Nat.le_refl _, Nat.le_refl _⟩ hX hK hP hD hS hA [0, 1] [2] [1, 2, 0] (va_recv hK hP (ci := 11) (q0 := 0) rfl rfl) rfl rfl (by decide) rfl rfl rfl rfl rfl hl.1 rfl (Nat.le_of_ble_eq_true rfl) dX11_writeBits_3 (fun H locs hP hD hS => ?_)
  refine lv_istore (lv' := [(4, .int r_3_8), (0, .ref h0), (1, .int b1), (2, .int b2), (3, .int b3)]) hx hb dX11_writeBits_6 hl (by decide) rfl (fun ls hl => ?_)
  refine lv_aload_n hx hb dX11_writeBits_8 rfl (lv_at hl 1 rfl) ?_
  refine lv_iload_n hx hb dX11_writeBits_9 rfl (lv_at hl 2 rfl) ?_
  refine lv_iconst (v := (1 : Int32)) hx hb dX11_writeBits_10 (by decide) ?_
  obtain ⟨r_11_9, hc_r_11_9, hf⟩ := of_bnd hf
  refine cl_Vi (w2 := (wW_X11_writeBits G h0 h1 h2 y0_2 y0_3 y0_4 y0_6 y0_18 y0_21 y0_22 y0_23 y0_24 y0_25 y0_26 y0_33 y0_34 y0_38 y0_39 y0_40 y0_41 y0_42 y0_43 y0_45 y0_46 y0_47 y0_48 x0_5 x0_7 x0_8 x0_9 x0_10 x0_11 x0_12 x0_13 x0_14 x0_15 x0_16 x0_17 x0_19 x0_20 x0_27 x0_28 x0_29 x0_30 x0_31 x0_32 x0_35 x0_36 x0_37 x0_44 x0_49 x0_50 a1 a2)) (As := [.int b1, .int (1 : Int32)]) (rest := []) ⟨hx, hb, hml, hown, ht0⟩ (c_X11_stuckAt l G h0 h1 h2 y0_2 y0_3 y0_4 y0_6 y0_18 y0_21 y0_22 y0_23 y0_24 y0_25 y0_26 y0_33 y0_34 y0_38 y0_39 y0_40 y0_41 y0_42 y0_43 y0_45 y0_46 y0_47 y0_48 _ x0_5 x0_7 x0_8 x0_9 x0_10 x0_11 x0_12 x0_13 x0_14 x0_15 x0_16 x0_17 x0_19 x0_20 x0_27 x0_28 x0_29 x0_30 x0_31 x0_32 x0_35 x0_36 x0_37 x0_44 x0_49 x0_50 a1 F b1 (1 : Int32) _ hc_r_11_9) yk_X11_stuckAt wd_1607 ⟨rfl, rfl, by decide, by decide⟩ ⟨Nat.le_refl _, Nat.le_refl _⟩ hX hK hP hD hS hA [0, 1] [2] [1, 2, 0] (va_recv hK hP (ci := 11) (q0 := 0) rfl rfl) rfl rfl (by decide) rfl rfl rfl rfl rfl hl.1 rfl (Nat.le_of_ble_eq_true rfl) dX11_writeBits_11 (fun H locs hP hD hS => ?_)
  refine lv_istore (lv' := [(5, .int r_11_9), (4, .int r_3_8), (0, .ref h0), (1, .int b1), (2, .int b2), (3, .int b3)]) hx hb dX11_writeBits_14 hl (by decide) rfl (fun ls hl => ?_)
  refine lv_iload hx hb dX11_writeBits_16 (lv_at hl 1 rfl) ?_
  refine lv_if_ge (tgt := 25) hx hb dX11_writeBits_18 (by decide) (fun c11 => ?_) (fun c11 => ?_)
  · have hf := of_pos hf c11
    refine lv_aload_n hx hb dX11_writeBits_25 rfl (lv_at hl 2 rfl) ?_
    refine lv_iload_n hx hb dX11_writeBits_26 rfl (lv_at hl 3 rfl) ?_
    refine lv_iload hx hb dX11_writeBits_27 (lv_at hl 1 rfl) ?_
    obtain ⟨r_29_11, hc_r_29_11, hf⟩ := of_bnd hf
    refine cl_Vi (w2 := (wW_X11_writeBits G h0 h1 h2 y0_2 y0_3 y0_4 y0_6 y0_18 y0_21 y0_22 y0_23 y0_24 y0_25 y0_26 y0_33 y0_34 y0_38 y0_39 y0_40 y0_41 y0_42 y0_43 y0_45 y0_46 y0_47 y0_48 x0_5 x0_7 x0_8 x0_9 x0_10 x0_11 x0_12 x0_13 x0_14 x0_15 x0_16 x0_17 x0_19 x0_20 x0_27 x0_28 x0_29 x0_30 x0_31 x0_32 x0_35 x0_36 x0_37 x0_44 x0_49 x0_50 a1 a2)) (As := [.int b1, .int r_3_8]) (rest := []) ⟨hx, hb, hml, hown, ht0⟩ (c_X11_bitOf l G h0 h1 h2 y0_2 y0_3 y0_4 y0_6 y0_18 y0_21 y0_22 y0_23 y0_24 y0_25 y0_26 y0_33 y0_34 y0_38 y0_39 y0_40 y0_41 y0_42 y0_43 y0_45 y0_46 y0_47 y0_48 _ x0_5 x0_7 x0_8 x0_9 x0_10 x0_11 x0_12 x0_13 x0_14 x0_15 x0_16 x0_17 x0_19 x0_20 x0_27 x0_28 x0_29 x0_30 x0_31 x0_32 x0_35 x0_36 x0_37 x0_44 x0_49 x0_50 a1 a2 F b1 r_3_8 _ hc_r_29_11) yk_X11_bitOf wd_1611 ⟨rfl, rfl, by decide, by decide⟩ ⟨Nat.le_refl _, Nat.le_refl _⟩ hX hK hP hD hS hA [0, 1, 2] [] [0, 1, 2] (va_recv hK hP (ci := 11) (q0 := 0) rfl rfl) rfl rfl (by decide) rfl rfl rfl rfl rfl hl.1 rfl (Nat.le_of_ble_eq_true rfl) dX11_writeBits_29 (fun H locs hP hD hS => ?_)
    exact kJ32 _ _ _ _ _ _ _ hf _ _ hP hD hS _ (lv_sub hl [2, 3, 4, 5, 1, 0] rfl)
  · have hf := of_neg hf c11
    refine lv_iconst (v := (0 : Int32)) hx hb dX11_writeBits_21 (by decide) ?_
    refine lv_goto (tgt := 32) hx hb dX11_writeBits_22 (by decide) ?_
    exact kJ32 _ _ _ _ _ _ _ hf _ _ hP hD hS _ (lv_sub hl [2, 3, 4, 5, 1, 0] rfl)
theorem yk_X11_writeBits : ykV yX11_writeBits RX11 cX11_writeBits 8 none 3 := ⟨wd_1605, wd_75, wd_142, wd_1606, rfl, by decide +kernel, by decide +kernel, by decide +kernel⟩
theorem dX11_writeWhole_0 : decode cX11_writeWhole 0 = .ok (.aload_n 0, 1) := by decide +kernel
theorem dX11_writeWhole_1 : decode cX11_writeWhole 1 = .ok (.iload_n 1, 1) := by decide +kernel
theorem dX11_writeWhole_2 : decode cX11_writeWhole 2 = .ok (.iload_n 2, 1) := by decide +kernel
theorem dX11_writeWhole_3 : decode cX11_writeWhole 3 = .ok (.aload_n 0, 1) := by decide +kernel
theorem dX11_writeWhole_4 : decode cX11_writeWhole 4 = .ok (.iload_n 2, 1) := by decide +kernel
theorem dX11_writeWhole_5 : decode cX11_writeWhole 5 = .ok (.invokevirtual 227, 3) := by decide +kernel
theorem dX11_writeWhole_8 : decode cX11_writeWhole 8 = .ok (.invokevirtual 284, 3) := by decide +kernel
theorem dX11_writeWhole_11 : decode cX11_writeWhole 11 = .ok (.return_, 1) := by decide +kernel
def wW_X11_writeWhole (G : GG) (h0 h1 h2 y0_2 y0_3 y0_4 y0_6 y0_18 y0_21 y0_22 y0_23 y0_24 y0_25 y0_26 y0_33 y0_34 y0_38 y0_39 y0_40 y0_41 y0_42 y0_43 y0_45 y0_46 y0_47 y0_48 : Nat) (x0_5 : Int32) (x0_7 : Int32) (x0_8 : Int32) (x0_9 : Int32) (x0_10 : Int32) (x0_11 : Int32) (x0_12 : Int32) (x0_13 : Int32) (x0_14 : Int32) (x0_15 : Int32) (x0_16 : Int32) (x0_17 : Int32) (x0_19 : Int32) (x0_20 : Int32) (x0_27 : Int32) (x0_28 : Int32) (x0_29 : Int32) (x0_30 : Int32) (x0_31 : Int32) (x0_32 : Int32) (x0_35 : Int32) (x0_36 : Int32) (x0_37 : Int32) (x0_44 : Int32) (x0_49 : Int32) (x0_50 : Int32) (a1 : Nat → Int32) (a2 : Nat → Int32) : va_W := [(h0, .inr (11, [.ref h1, .ref h2, .ref y0_2, .ref y0_3, .ref y0_4, .int x0_5, .ref y0_6, .int x0_7, .int x0_8, .int x0_9, .int x0_10, .int x0_11, .int x0_12, .int x0_13, .int x0_14, .int x0_15, .int x0_16, .int x0_17, .ref y0_18, .int x0_19, .int x0_20, .ref y0_21, .ref y0_22, .ref y0_23, .ref y0_24, .ref y0_25, .ref y0_26, .int x0_27, .int x0_28, .int x0_29, .int x0_30, .int x0_31, .int x0_32, .ref y0_33, .ref y0_34, .int x0_35, .int x0_36, .int x0_37, .ref y0_38, .ref y0_39, .ref y0_40, .ref y0_41, .ref y0_42, .ref y0_43, .int x0_44, .ref y0_45, .ref y0_46, .ref y0_47, .ref y0_48, .int x0_49, .int x0_50])), (h1, .inl (G.2.1, 121, .inl a1)), (h2, .inl (G.2.1, 2, .inl a2))]
set_option maxHeartbeats 4000000 in
set_option maxRecDepth 100000 in
theorem c_X11_writeWhole (l : Launch) (G : GG) (h0 h1 h2 y0_2 y0_3 y0_4 y0_6 y0_18 y0_21 y0_22 y0_23 y0_24 y0_25 y0_26 y0_33 y0_34 y0_38 y0_39 y0_40 y0_41 y0_42 y0_43 y0_45 y0_46 y0_47 y0_48 : Nat) (sz : Nat) (x0_5 : Int32) (x0_7 : Int32) (x0_8 : Int32) (x0_9 : Int32) (x0_10 : Int32) (x0_11 : Int32) (x0_12 : Int32) (x0_13 : Int32) (x0_14 : Int32) (x0_15 : Int32) (x0_16 : Int32) (x0_17 : Int32) (x0_19 : Int32) (x0_20 : Int32) (x0_27 : Int32) (x0_28 : Int32) (x0_29 : Int32) (x0_30 : Int32) (x0_31 : Int32) (x0_32 : Int32) (x0_35 : Int32) (x0_36 : Int32) (x0_37 : Int32) (x0_44 : Int32) (x0_49 : Int32) (x0_50 : Int32) (a1 : Nat → Int32) (a2 : Nat → Int32) (F : Nat) (b1 : Int32) (b2 : Int32)  (e_a1 : Nat → Int32) (hf : p_X11_writeWhole F x0_5 a1 a2 b1 b2 = some e_a1) : Met l yX11_writeWhole (.code yX11_writeWhole cX11_writeWhole 3 none :: gtbl) ({ frames := 5, cells := 0, slots := 0, locals := 115 } : Room) (PcS G [.ref h0, .int b1, .int b2] (wW_X11_writeWhole G h0 h1 h2 y0_2 y0_3 y0_4 y0_6 y0_18 y0_21 y0_22 y0_23 y0_24 y0_25 y0_26 y0_33 y0_34 y0_38 y0_39 y0_40 y0_41 y0_42 y0_43 y0_45 y0_46 y0_47 y0_48 x0_5 x0_7 x0_8 x0_9 x0_10 x0_11 x0_12 x0_13 x0_14 x0_15 x0_16 x0_17 x0_19 x0_20 x0_27 x0_28 x0_29 x0_30 x0_31 x0_32 x0_35 x0_36 x0_37 x0_44 x0_49 x0_50 a1 a2) sz) (QvS G (va_A (wW_X11_writeWhole G h0 h1 h2 y0_2 y0_3 y0_4 y0_6 y0_18 y0_21 y0_22 y0_23 y0_24 y0_25 y0_26 y0_33 y0_34 y0_38 y0_39 y0_40 y0_41 y0_42 y0_43 y0_45 y0_46 y0_47 y0_48 x0_5 x0_7 x0_8 x0_9 x0_10 x0_11 x0_12 x0_13 x0_14 x0_15 x0_16 x0_17 x0_19 x0_20 x0_27 x0_28 x0_29 x0_30 x0_31 x0_32 x0_35 x0_36 x0_37 x0_44 x0_49 x0_50 a1 a2) sz) (wW_X11_writeWhole G h0 h1 h2 y0_2 y0_3 y0_4 y0_6 y0_18 y0_21 y0_22 y0_23 y0_24 y0_25 y0_26 y0_33 y0_34 y0_38 y0_39 y0_40 y0_41 y0_42 y0_43 y0_45 y0_46 y0_47 y0_48 x0_5 x0_7 x0_8 x0_9 x0_10 x0_11 x0_12 x0_13 x0_14 x0_15 x0_16 x0_17 x0_19 x0_20 x0_27 x0_28 x0_29 x0_30 x0_31 x0_32 x0_35 x0_36 x0_37 x0_44 x0_49 x0_50 e_a1 a2)) 0 0 (va_A (wW_X11_writeWhole G h0 h1 h2 y0_2 y0_3 y0_4 y0_6 y0_18 y0_21 y0_22 y0_23 y0_24 y0_25 y0_26 y0_33 y0_34 y0_38 y0_39 y0_40 y0_41 y0_42 y0_43 y0_45 y0_46 y0_47 y0_48 x0_5 x0_7 x0_8 x0_9 x0_10 x0_11 x0_12 x0_13 x0_14 x0_15 x0_16 x0_17 x0_19 x0_20 x0_27 x0_28 x0_29 x0_30 x0_31 x0_32 x0_35 x0_36 x0_37 x0_44 x0_49 x0_50 a1 a2) sz) := by
  refine met_start (by decide) (Nat.le_of_ble_eq_true rfl) ?_
  intro p e s m below meth c hC hr hlk hnm hK hP hD hA hS hX ls hl
  obtain ⟨hx, hb, hml, hown, ht0⟩ := hC
  have hown : s.vm.findClass RX11 = some m.cls := hown
  generalize va_A (wW_X11_writeWhole G h0 h1 h2 y0_2 y0_3 y0_4 y0_6 y0_18 y0_21 y0_22 y0_23 y0_24 y0_25 y0_26 y0_33 y0_34 y0_38 y0_39 y0_40 y0_41 y0_42 y0_43 y0_45 y0_46 y0_47 y0_48 x0_5 x0_7 x0_8 x0_9 x0_10 x0_11 x0_12 x0_13 x0_14 x0_15 x0_16 x0_17 x0_19 x0_20 x0_27 x0_28 x0_29 x0_30 x0_31 x0_32 x0_35 x0_36 x0_37 x0_44 x0_49 x0_50 a1 a2) sz = A at hD hA hS hX ⊢
  have hl : lv_has ls 3 [(0, .ref h0), (1, .int b1), (2, .int b2)] := hl
  have hf : p_X11_writeWhole F x0_5 a1 a2 b1 b2 = some e_a1 := hf
  refine lv_aload_n hx hb dX11_writeWhole_0 rfl (lv_at hl 0 rfl) ?_
  refine lv_iload_n hx hb dX11_writeWhole_1 rfl (lv_at hl 1 rfl) ?_
  refine lv_iload_n hx hb dX11_writeWhole_2 rfl (lv_at hl 2 rfl) ?_
  refine lv_aload_n hx hb dX11_writeWhole_3 rfl (lv_at hl 0 rfl) ?_
  refine lv_iload_n hx hb dX11_writeWhole_4 rfl (lv_at hl 2 rfl) ?_
  obtain ⟨r_5_0, hc_r_5_0, hf⟩ := of_bnd hf
  refine cl_Vi (w2 := (wW_X11_writeWhole G h0 h1 h2 y0_2 y0_3 y0_4 y0_6 y0_18 y0_21 y0_22 y0_23 y0_24 y0_25 y0_26 y0_33 y0_34 y0_38 y0_39 y0_40 y0_41 y0_42 y0_43 y0_45 y0_46 y0_47 y0_48 x0_5 x0_7 x0_8 x0_9 x0_10 x0_11 x0_12 x0_13 x0_14 x0_15 x0_16 x0_17 x0_19 x0_20 x0_27 x0_28 x0_29 x0_30 x0_31 x0_32 x0_35 x0_36 x0_37 x0_44 x0_49 x0_50 a1 a2)) (As := [.int b2]) (rest := [.int b2, .int b1, .ref h0]) ⟨hx, hb, hml, hown, ht0⟩ (c_X11_checksOf l G h0 h1 h2 y0_2 y0_3 y0_4 y0_6 y0_18 y0_21 y0_22 y0_23 y0_24 y0_25 y0_26 y0_33 y0_34 y0_38 y0_39 y0_40 y0_41 y0_42 y0_43 y0_45 y0_46 y0_47 y0_48 _ x0_5 x0_7 x0_8 x0_9 x0_10 x0_11 x0_12 x0_13 x0_14 x0_15 x0_16 x0_17 x0_19 x0_20 x0_27 x0_28 x0_29 x0_30 x0_31 x0_32 x0_35 x0_36 x0_37 x0_44 x0_49 x0_50 a1 a2 F b2 _ hc_r_5_0) yk_X11_checksOf wd_1394 ⟨rfl, rfl, by decide, by decide⟩ ⟨Nat.le_refl _, Nat.le_refl _⟩ hX hK hP hD hS hA [0, 1, 2] [] [0, 1, 2] (va_recv hK hP (ci := 11) (q0 := 0) rfl rfl) rfl rfl (by decide) rfl rfl rfl rfl rfl hl.1 rfl (Nat.le_of_ble_eq_true rfl) dX11_writeWhole_5 (fun H locs hP hD hS => ?_)
  obtain ⟨r_8_1_a1, hc_r_8_1, hf⟩ := of_bnd hf
  refine cl_Vv (w2 := (wW_X11_writeWhole G h0 h1 h2 y0_2 y0_3 y0_4 y0_6 y0_18 y0_21 y0_22 y0_23 y0_24 y0_25 y0_26 y0_33 y0_34 y0_38 y0_39 y0_40 y0_41 y0_42 y0_43 y0_45 y0_46 y0_47 y0_48 x0_5 x0_7 x0_8 x0_9 x0_10 x0_11 x0_12 x0_13 x0_14 x0_15 x0_16 x0_17 x0_19 x0_20 x0_27 x0_28 x0_29 x0_30 x0_31 x0_32 x0_35 x0_36 x0_37 x0_44 x0_49 x0_50 r_8_1_a1 a2)) (As := [.int b1, .int b2, .int r_5_0]) (rest := []) ⟨hx, hb, hml, hown, ht0⟩ (c_X11_writeBits l G h0 h1 h2 y0_2 y0_3 y0_4 y0_6 y0_18 y0_21 y0_22 y0_23 y0_24 y0_25 y0_26 y0_33 y0_34 y0_38 y0_39 y0_40 y0_41 y0_42 y0_43 y0_45 y0_46 y0_47 y0_48 _ x0_5 x0_7 x0_8 x0_9 x0_10 x0_11 x0_12 x0_13 x0_14 x0_15 x0_16 x0_17 x0_19 x0_20 x0_27 x0_28 x0_29 x0_30 x0_31 x0_32 x0_35 x0_36 x0_37 x0_44 x0_49 x0_50 a1 a2 F b1 b2 r_5_0 _ hc_r_8_1) yk_X11_writeBits wd_1603 ⟨rfl, rfl, by decide, by decide⟩ ⟨Nat.le_refl _, Nat.le_refl _⟩ hX hK hP hD hS hA [0, 1, 2] [] [0, 1, 2] (va_recv hK hP (ci := 11) (q0 := 0) rfl rfl) rfl rfl (by decide) rfl rfl rfl rfl rfl hl.1 rfl (Nat.le_of_ble_eq_true rfl) dX11_writeWhole_8 (fun H locs hP hD hS => ?_)
  cases hf
  exact ret_v hx hb hr hlk hK hP hD hS dX11_writeWhole_11
theorem yk_X11_writeWhole : ykV yX11_writeWhole RX11 cX11_writeWhole 3 none 2 := ⟨wd_1601, wd_74, wd_142, wd_1602, rfl, by decide +kernel, by decide +kernel, by decide +kernel⟩
theorem dX11_writeAnew_0 : decode cX11_writeAnew 0 = .ok (.iconst 0, 1) := by decide +kernel
theorem dX11_writeAnew_1 : decode cX11_writeAnew 1 = .ok (.istore_n 1, 1) := by decide +kernel
theorem dX11_writeAnew_2 : decode cX11_writeAnew 2 = .ok (.iload_n 1, 1) := by decide +kernel
theorem dX11_writeAnew_3 : decode cX11_writeAnew 3 = .ok (.bipush 16, 2) := by decide +kernel
theorem dX11_writeAnew_5 : decode cX11_writeAnew 5 = .ok (.if_icmp .ge 23, 3) := by decide +kernel
theorem dX11_writeAnew_8 : decode cX11_writeAnew 8 = .ok (.aload_n 0, 1) := by decide +kernel
theorem dX11_writeAnew_9 : decode cX11_writeAnew 9 = .ok (.iload_n 1, 1) := by decide +kernel
theorem dX11_writeAnew_10 : decode cX11_writeAnew 10 = .ok (.aload_n 0, 1) := by decide +kernel
theorem dX11_writeAnew_11 : decode cX11_writeAnew 11 = .ok (.getfield 7, 3) := by decide +kernel
theorem dX11_writeAnew_14 : decode cX11_writeAnew 14 = .ok (.bipush 65, 2) := by decide +kernel
theorem dX11_writeAnew_16 : decode cX11_writeAnew 16 = .ok (.iload_n 1, 1) := by decide +kernel
theorem dX11_writeAnew_17 : decode cX11_writeAnew 17 = .ok (.iadd, 1) := by decide +kernel
theorem dX11_writeAnew_18 : decode cX11_writeAnew 18 = .ok (.iaload, 1) := by decide +kernel
theorem dX11_writeAnew_19 : decode cX11_writeAnew 19 = .ok (.invokevirtual 287, 3) := by decide +kernel
theorem dX11_writeAnew_22 : decode cX11_writeAnew 22 = .ok (.iinc 1 1, 3) := by decide +kernel
theorem dX11_writeAnew_25 : decode cX11_writeAnew 25 = .ok (.goto (-23), 3) := by decide +kernel
theorem dX11_writeAnew_28 : decode cX11_writeAnew 28 = .ok (.return_, 1) := by decide +kernel
def wW_X11_writeAnew (G : GG) (h0 h1 h2 y0_2 y0_3 y0_4 y0_6 y0_18 y0_21 y0_22 y0_23 y0_24 y0_25 y0_26 y0_33 y0_34 y0_38 y0_39 y0_40 y0_41 y0_42 y0_43 y0_45 y0_46 y0_47 y0_48 : Nat) (x0_5 : Int32) (x0_7 : Int32) (x0_8 : Int32) (x0_9 : Int32) (x0_10 : Int32) (x0_11 : Int32) (x0_12 : Int32) (x0_13 : Int32) (x0_14 : Int32) (x0_15 : Int32) (x0_16 : Int32) (x0_17 : Int32) (x0_19 : Int32) (x0_20 : Int32) (x0_27 : Int32) (x0_28 : Int32) (x0_29 : Int32) (x0_30 : Int32) (x0_31 : Int32) (x0_32 : Int32) (x0_35 : Int32) (x0_36 : Int32) (x0_37 : Int32) (x0_44 : Int32) (x0_49 : Int32) (x0_50 : Int32) (a1 : Nat → Int32) (a2 : Nat → Int32) : va_W := [(h0, .inr (11, [.ref h1, .ref h2, .ref y0_2, .ref y0_3, .ref y0_4, .int x0_5, .ref y0_6, .int x0_7, .int x0_8, .int x0_9, .int x0_10, .int x0_11, .int x0_12, .int x0_13, .int x0_14, .int x0_15, .int x0_16, .int x0_17, .ref y0_18, .int x0_19, .int x0_20, .ref y0_21, .ref y0_22, .ref y0_23, .ref y0_24, .ref y0_25, .ref y0_26, .int x0_27, .int x0_28, .int x0_29, .int x0_30, .int x0_31, .int x0_32, .ref y0_33, .ref y0_34, .int x0_35, .int x0_36, .int x0_37, .ref y0_38, .ref y0_39, .ref y0_40, .ref y0_41, .ref y0_42, .ref y0_43, .int x0_44, .ref y0_45, .ref y0_46, .ref y0_47, .ref y0_48, .int x0_49, .int x0_50])), (h1, .inl (G.2.1, 121, .inl a1)), (h2, .inl (G.2.1, 2, .inl a2))]
set_option maxHeartbeats 4000000 in
set_option maxRecDepth 100000 in
theorem c_X11_writeAnew (l : Launch) (G : GG) (h0 h1 h2 y0_2 y0_3 y0_4 y0_6 y0_18 y0_21 y0_22 y0_23 y0_24 y0_25 y0_26 y0_33 y0_34 y0_38 y0_39 y0_40 y0_41 y0_42 y0_43 y0_45 y0_46 y0_47 y0_48 : Nat) (sz : Nat) (x0_5 : Int32) (x0_7 : Int32) (x0_8 : Int32) (x0_9 : Int32) (x0_10 : Int32) (x0_11 : Int32) (x0_12 : Int32) (x0_13 : Int32) (x0_14 : Int32) (x0_15 : Int32) (x0_16 : Int32) (x0_17 : Int32) (x0_19 : Int32) (x0_20 : Int32) (x0_27 : Int32) (x0_28 : Int32) (x0_29 : Int32) (x0_30 : Int32) (x0_31 : Int32) (x0_32 : Int32) (x0_35 : Int32) (x0_36 : Int32) (x0_37 : Int32) (x0_44 : Int32) (x0_49 : Int32) (x0_50 : Int32) (a1 : Nat → Int32) (a2 : Nat → Int32) (F : Nat)   (e_a1 : Nat → Int32) (hf : p_X11_writeAnew F x0_5 a1 a2  = some e_a1) : Met l yX11_writeAnew (.code yX11_writeAnew cX11_writeAnew 2 none :: gtbl) ({ frames := 6, cells := 0, slots := 0, locals := 137 } : Room) (PcS G [.ref h0] (wW_X11_writeAnew G h0 h1 h2 y0_2 y0_3 y0_4 y0_6 y0_18 y0_21 y0_22 y0_23 y0_24 y0_25 y0_26 y0_33 y0_34 y0_38 y0_39 y0_40 y0_41 y0_42 y0_43 y0_45 y0_46 y0_47 y0_48 x0_5 x0_7 x0_8 x0_9 x0_10 x0_11 x0_12 x0_13 x0_14 x0_15 x0_16 x0_17 x0_19 x0_20 x0_27 x0_28 x0_29 x0_30 x0_31 x0_32 x0_35 x0_36 x0_37 x0_44 x0_49 x0_50 a1 a2) sz) (QvS G (va_A (wW_X11_writeAnew G h0 h1 h2 y0_2 y0_3 y0_4 y0_6 y0_18 y0_21 y0_22 y0_23 y0_24 y0_25 y0_26 y0_33 y0_34 y0_38 y0_39 y0_40 y0_41 y0_42 y0_43 y0_45 y0_46 y0_47 y0_48 x0_5 x0_7 x0_8 x0_9 x0_10 x0_11 x0_12 x0_13 x0_14 x0_15 x0_16 x0_17 x0_19 x0_20 x0_27 x0_28 x0_29 x0_30 x0_31 x0_32 x0_35 x0_36 x0_37 x0_44 x0_49 x0_50 a1 a2) sz) (wW_X11_writeAnew G h0 h1 h2 y0_2 y0_3 y0_4 y0_6 y0_18 y0_21 y0_22 y0_23 y0_24 y0_25 y0_26 y0_33 y0_34 y0_38 y0_39 y0_40 y0_41 y0_42 y0_43 y0_45 y0_46 y0_47 y0_48 x0_5 x0_7 x0_8 x0_9 x0_10 x0_11 x0_12 x0_13 x0_14 x0_15 x0_16 x0_17 x0_19 x0_20 x0_27 x0_28 x0_29 x0_30 x0_31 x0_32 x0_35 x0_36 x0_37 x0_44 x0_49 x0_50 e_a1 a2)) 0 0 (va_A (wW_X11_writeAnew G h0 h1 h2 y0_2 y0_3 y0_4 y0_6 y0_18 y0_21 y0_22 y0_23 y0_24 y0_25 y0_26 y0_33 y0_34 y0_38 y0_39 y0_40 y0_41 y0_42 y0_43 y0_45 y0_46 y0_47 y0_48 x0_5 x0_7 x0_8 x0_9 x0_10 x0_11 x0_12 x0_13 x0_14 x0_15 x0_16 x0_17 x0_19 x0_20 x0_27 x0_28 x0_29 x0_30 x0_31 x0_32 x0_35 x0_36 x0_37 x0_44 x0_49 x0_50 a1 a2) sz) := by
  refine met_start (by decide) (Nat.le_of_ble_eq_true rfl) ?_
  intro p e s m below meth c hC hr hlk hnm hK hP hD hA hS hX ls hl
  obtain ⟨hx, hb, hml, hown, ht0⟩ := hC
  have hown : s.vm.findClass RX11 = some m.cls := hown
  generalize va_A (wW_X11_writeAnew G h0 h1 h2 y0_2 y0_3 y0_4 y0_6 y0_18 y0_21 y0_22 y0_23 y0_24 y0_25 y0_26 y0_33 y0_34 y0_38 y0_39 y0_40 y0_41 y0_42 y0_43 y0_45 y0_46 y0_47 y0_48 x0_5 x0_7 x0_8 x0_9 x0_10 x0_11 x0_12 x0_13 x0_14 x0_15 x0_16 x0_17 x0_19 x0_20 x0_27 x0_28 x0_29 x0_30 x0_31 x0_32 x0_35 x0_36 x0_37 x0_44 x0_49 x0_50 a1 a2) sz = A at hD hA hS hX ⊢
  have hl : lv_has ls 2 [(0, .ref h0)] := hl
  have hf : p_X11_writeAnew F x0_5 a1 a2  = some e_a1 := hf
  have kL2 : ∀ (n2 : Nat) (u2_1 : Int32) (a1_2 : Nat → Int32), p_X11_writeAnew_L2 F x0_5 a2 n2 u2_1 a1_2 = some e_a1 → ∀ (H : Heap) (locs : List Loc), va_P G.1 vwCl (wW_X11_writeAnew G h0 h1 h2 y0_2 y0_3 y0_4 y0_6 y0_18 y0_21 y0_22 y0_23 y0_24 y0_25 y0_26 y0_33 y0_34 y0_38 y0_39 y0_40 y0_41 y0_42 y0_43 y0_45 y0_46 y0_47 y0_48 x0_5 x0_7 x0_8 x0_9 x0_10 x0_11 x0_12 x0_13 x0_14 x0_15 x0_16 x0_17 x0_19 x0_20 x0_27 x0_28 x0_29 x0_30 x0_31 x0_32 x0_35 x0_36 x0_37 x0_44 x0_49 x0_50 a1_2 a2) H → va_D A (wW_X11_writeAnew G h0 h1 h2 y0_2 y0_3 y0_4 y0_6 y0_18 y0_21 y0_22 y0_23 y0_24 y0_25 y0_26 y0_33 y0_34 y0_38 y0_39 y0_40 y0_41 y0_42 y0_43 y0_45 y0_46 y0_47 y0_48 x0_5 x0_7 x0_8 x0_9 x0_10 x0_11 x0_12 x0_13 x0_14 x0_15 x0_16 x0_17 x0_19 x0_20 x0_27 x0_28 x0_29 x0_30 x0_31 x0_32 x0_35 x0_36 x0_37 x0_44 x0_49 x0_50 a1_2 a2) → va_S A s.heap H locs → ∀ ls : Array Slot, lv_has ls 2 [(0, .ref h0), (1, .int u2_1)] → W p l e ({ frames := 6, cells := 0, slots := 0, locals := 137 } : Room) s m (List.toArray [.ref h0]) below meth c H locs 0 0 (MQ below (QvS G A (wW_X11_writeAnew G h0 h1 h2 y0_2 y0_3 y0_4 y0_6 y0_18 y0_21 y0_22 y0_23 y0_24 y0_25 y0_26 y0_33 y0_34 y0_38 y0_39 y0_40 y0_41 y0_42 y0_43 y0_45 y0_46 y0_47 y0_48 x0_5 x0_7 x0_8 x0_9 x0_10 x0_11 x0_12 x0_13 x0_14 x0_15 x0_16 x0_17 x0_19 x0_20 x0_27 x0_28 x0_29 x0_30 x0_31 x0_32 x0_35 x0_36 x0_37 x0_44 x0_49 x0_50 e_a1 a2)) (List.toArray [.ref h0]) s 0 0 A) (F0 m 2 ls []) := by
    intro n2
    induction n2 with
    | zero =>
      intro u2_1 a1_2 hf
      cases hf
    | succ n2 ih2 =>
      intro u2_1 a1_2 hf H locs hP hD hS ls hl
      have hf : p_X11_writeAnew_L2b F x0_5 a2 (p_X11_writeAnew_L2 F x0_5 a2 n2) u2_1 a1_2 = some e_a1 := hf
      refine lv_iload_n hx hb dX11_writeAnew_2 rfl (lv_at hl 1 rfl) ?_
      refine lv_bipush (v := (16 : Int32)) hx hb dX11_writeAnew_3 (by decide) ?_
      refine lv_icmp_ge (tgt := 28) hx hb dX11_writeAnew_5 (by decide) (fun c1 => ?_) (fun c1 => ?_)
      · have hf := of_pos hf c1
        cases hf
        exact ret_v hx hb hr hlk hK hP hD hS dX11_writeAnew_28
      · have hf := of_neg hf c1
        refine lv_aload_n hx hb dX11_writeAnew_8 rfl (lv_at hl 0 rfl) ?_
        refine lv_iload_n hx hb dX11_writeAnew_9 rfl (lv_at hl 1 rfl) ?_
        refine lv_aload_n hx hb dX11_writeAnew_10 rfl (lv_at hl 0 rfl) ?_
        refine va_get (ci := 11) (v := .ref h1) (C := RX11) (T := TX11) (N := 51) hx hb ht0 iX11 hown hK hP 0 rfl rfl 0 (by decide) (ht0 _ wd_1406) (fun _ h9 => h9) rfl dX11_writeAnew_11 ?_
        refine lv_bipush (v := (65 : Int32)) hx hb dX11_writeAnew_14 (by decide) ?_
        refine lv_iload_n hx hb dX11_writeAnew_16 rfl (lv_at hl 1 rfl) ?_
        refine lv_iadd hx hb dX11_writeAnew_17 ?_
        obtain ⟨g2, hf⟩ := of_grd hf
        refine va_iald hx hb hK hP 1 0 rfl rfl g2 dX11_writeAnew_18 ?_
        obtain ⟨r_19_2_a1, hc_r_19_2, hf⟩ := of_bnd hf
        refine cl_Vv (w2 := (wW_X11_writeAnew G h0 h1 h2 y0_2 y0_3 y0_4 y0_6 y0_18 y0_21 y0_22 y0_23 y0_24 y0_25 y0_26 y0_33 y0_34 y0_38 y0_39 y0_40 y0_41 y0_42 y0_43 y0_45 y0_46 y0_47 y0_48 x0_5 x0_7 x0_8 x0_9 x0_10 x0_11 x0_12 x0_13 x0_14 x0_15 x0_16 x0_17 x0_19 x0_20 x0_27 x0_28 x0_29 x0_30 x0_31 x0_32 x0_35 x0_36 x0_37 x0_44 x0_49 x0_50 r_19_2_a1 a2)) (As := [.int u2_1, .int (a1_2 ((65 : Int32) + u2_1).toNatClampNeg)]) (rest := []) ⟨hx, hb, hml, hown, ht0⟩ (c_X11_writeWhole l G h0 h1 h2 y0_2 y0_3 y0_4 y0_6 y0_18 y0_21 y0_22 y0_23 y0_24 y0_25 y0_26 y0_33 y0_34 y0_38 y0_39 y0_40 y0_41 y0_42 y0_43 y0_45 y0_46 y0_47 y0_48 _ x0_5 x0_7 x0_8 x0_9 x0_10 x0_11 x0_12 x0_13 x0_14 x0_15 x0_16 x0_17 x0_19 x0_20 x0_27 x0_28 x0_29 x0_30 x0_31 x0_32 x0_35 x0_36 x0_37 x0_44 x0_49 x0_50 a1_2 a2 F u2_1 (a1_2 ((65 : Int32) + u2_1).toNatClampNeg) _ hc_r_19_2) yk_X11_writeWhole wd_1599 ⟨rfl, rfl, by decide, by decide⟩ ⟨Nat.le_refl _, Nat.le_refl _⟩ hX hK hP hD hS hA [0, 1, 2] [] [0, 1, 2] (va_recv hK hP (ci := 11) (q0 := 0) rfl rfl) rfl rfl (by decide) rfl rfl rfl rfl rfl hl.1 rfl (Nat.le_of_ble_eq_true rfl) dX11_writeAnew_19 (fun H locs hP hD hS => ?_)
        refine lv_iinc (v := u2_1 + (1 : Int32)) (lv' := [(1, .int (u2_1 + (1 : Int32))), (0, .ref h0)]) hx hb dX11_writeAnew_22 hl (k := 1) rfl (by rfl) (by decide) rfl (fun ls hl => ?_)
        refine lv_goto (tgt := 2) hx hb dX11_writeAnew_25 (by decide) ?_
        exact ih2 _ _ hf _ _ hP hD hS _ (lv_sub hl [1, 0] rfl)
  refine lv_iconst (v := (0 : Int32)) hx hb dX11_writeAnew_0 (by decide) ?_
  refine lv_istore_n (lv' := [(1, .int (0 : Int32)), (0, .ref h0)]) hx hb dX11_writeAnew_1 rfl hl (by decide) rfl (fun ls hl => ?_)
  exact kL2 _ _ _ hf _ _ hP hD hS _ (lv_sub hl [1, 0] rfl)
theorem yk_X11_writeAnew : ykV yX11_writeAnew RX11 cX11_writeAnew 2 none 0 := ⟨wd_1748, wd_101, wd_142, wd_1749, rfl, by decide +kernel, by decide +kernel, by decide +kernel⟩
theorem dX11_syndromeOf_0 : decode cX11_syndromeOf 0 = .ok (.aload_n 0, 1) := by decide +kernel
theorem dX11_syndromeOf_1 : decode cX11_syndromeOf 1 = .ok (.iload_n 1, 1) := by decide +kernel
theorem dX11_syndromeOf_2 : decode cX11_syndromeOf 2 = .ok (.invokevirtual 227, 3) := by decide +kernel
theorem dX11_syndromeOf_5 : decode cX11_syndromeOf 5 = .ok (.iload_n 2, 1) := by decide +kernel
theorem dX11_syndromeOf_6 : decode cX11_syndromeOf 6 = .ok (.ixor, 1) := by decide +kernel
theorem dX11_syndromeOf_7 : decode cX11_syndromeOf 7 = .ok (.ireturn, 1) := by decide +kernel
def wW_X11_syndromeOf (G : GG) (h0 h1 h2 y0_2 y0_3 y0_4 y0_6 y0_18 y0_21 y0_22 y0_23 y0_24 y0_25 y0_26 y0_33 y0_34 y0_38 y0_39 y0_40 y0_41 y0_42 y0_43 y0_45 y0_46 y0_47 y0_48 : Nat) (x0_5 : Int32) (x0_7 : Int32) (x0_8 : Int32) (x0_9 : Int32) (x0_10 : Int32) (x0_11 : Int32) (x0_12 : Int32) (x0_13 : Int32) (x0_14 : Int32) (x0_15 : Int32) (x0_16 : Int32) (x0_17 : Int32) (x0_19 : Int32) (x0_20 : Int32) (x0_27 : Int32) (x0_28 : Int32) (x0_29 : Int32) (x0_30 : Int32) (x0_31 : Int32) (x0_32 : Int32) (x0_35 : Int32) (x0_36 : Int32) (x0_37 : Int32) (x0_44 : Int32) (x0_49 : Int32) (x0_50 : Int32) (a1 : Nat → Int32) (a2 : Nat → Int32) : va_W := [(h0, .inr (11, [.ref h1, .ref h2, .ref y0_2, .ref y0_3, .ref y0_4, .int x0_5, .ref y0_6, .int x0_7, .int x0_8, .int x0_9, .int x0_10, .int x0_11, .int x0_12, .int x0_13, .int x0_14, .int x0_15, .int x0_16, .int x0_17, .ref y0_18, .int x0_19, .int x0_20, .ref y0_21, .ref y0_22, .ref y0_23, .ref y0_24, .ref y0_25, .ref y0_26, .int x0_27, .int x0_28, .int x0_29, .int x0_30, .int x0_31, .int x0_32, .ref y0_33, .ref y0_34, .int x0_35, .int x0_36, .int x0_37, .ref y0_38, .ref y0_39, .ref y0_40, .ref y0_41, .ref y0_42, .ref y0_43, .int x0_44, .ref y0_45, .ref y0_46, .ref y0_47, .ref y0_48, .int x0_49, .int x0_50])), (h1, .inl (G.2.1, 121, .inl a1)), (h2, .inl (G.2.1, 2, .inl a2))]
set_option maxHeartbeats 4000000 in
set_option maxRecDepth 100000 in
theorem c_X11_syndromeOf (l : Launch) (G : GG) (h0 h1 h2 y0_2 y0_3 y0_4 y0_6 y0_18 y0_21 y0_22 y0_23 y0_24 y0_25 y0_26 y0_33 y0_34 y0_38 y0_39 y0_40 y0_41 y0_42 y0_43 y0_45 y0_46 y0_47 y0_48 : Nat) (sz : Nat) (x0_5 : Int32) (x0_7 : Int32) (x0_8 : Int32) (x0_9 : Int32) (x0_10 : Int32) (x0_11 : Int32) (x0_12 : Int32) (x0_13 : Int32) (x0_14 : Int32) (x0_15 : Int32) (x0_16 : Int32) (x0_17 : Int32) (x0_19 : Int32) (x0_20 : Int32) (x0_27 : Int32) (x0_28 : Int32) (x0_29 : Int32) (x0_30 : Int32) (x0_31 : Int32) (x0_32 : Int32) (x0_35 : Int32) (x0_36 : Int32) (x0_37 : Int32) (x0_44 : Int32) (x0_49 : Int32) (x0_50 : Int32) (a1 : Nat → Int32) (a2 : Nat → Int32) (F : Nat) (b1 : Int32) (b2 : Int32)  (r0 : Int32) (hf : p_X11_syndromeOf F x0_5 a1 a2 b1 b2 = some r0) : Met l yX11_syndromeOf (.code yX11_syndromeOf cX11_syndromeOf 3 (some .int) :: gtbl) ({ frames := 2, cells := 0, slots := 0, locals := 44 } : Room) (PcS G [.ref h0, .int b1, .int b2] (wW_X11_syndromeOf G h0 h1 h2 y0_2 y0_3 y0_4 y0_6 y0_18 y0_21 y0_22 y0_23 y0_24 y0_25 y0_26 y0_33 y0_34 y0_38 y0_39 y0_40 y0_41 y0_42 y0_43 y0_45 y0_46 y0_47 y0_48 x0_5 x0_7 x0_8 x0_9 x0_10 x0_11 x0_12 x0_13 x0_14 x0_15 x0_16 x0_17 x0_19 x0_20 x0_27 x0_28 x0_29 x0_30 x0_31 x0_32 x0_35 x0_36 x0_37 x0_44 x0_49 x0_50 a1 a2) sz) (QiS G r0 (va_A (wW_X11_syndromeOf G h0 h1 h2 y0_2 y0_3 y0_4 y0_6 y0_18 y0_21 y0_22 y0_23 y0_24 y0_25 y0_26 y0_33 y0_34 y0_38 y0_39 y0_40 y0_41 y0_42 y0_43 y0_45 y0_46 y0_47 y0_48 x0_5 x0_7 x0_8 x0_9 x0_10 x0_11 x0_12 x0_13 x0_14 x0_15 x0_16 x0_17 x0_19 x0_20 x0_27 x0_28 x0_29 x0_30 x0_31 x0_32 x0_35 x0_36 x0_37 x0_44 x0_49 x0_50 a1 a2) sz) (wW_X11_syndromeOf G h0 h1 h2 y0_2 y0_3 y0_4 y0_6 y0_18 y0_21 y0_22 y0_23 y0_24 y0_25 y0_26 y0_33 y0_34 y0_38 y0_39 y0_40 y0_41 y0_42 y0_43 y0_45 y0_46 y0_47 y0_48 x0_5 x0_7 x0_8 x0_9 x0_10 x0_11 x0_12 x0_13 x0_14 x0_15 x0_16 x0_17 x0_19 x0_20 x0_27 x0_28 x0_29 x0_30 x0_31 x0_32 x0_35 x0_36 x0_37 x0_44 x0_49 x0_50 a1 a2)) 0 0 (va_A (wW_X11_syndromeOf G h0 h1 h2 y0_2 y0_3 y0_4 y0_6 y0_18 y0_21 y0_22 y0_23 y0_24 y0_25 y0_26 y0_33 y0_34 y0_38 y0_39 y0_40 y0_41 y0_42 y0_43 y0_45 y0_46 y0_47 y0_48 x0_5 x0_7 x0_8 x0_9 x0_10 x0_11 x0_12 x0_13 x0_14 x0_15 x0_16 x0_17 x0_19 x0_20 x0_27 x0_28 x0_29 x0_30 x0_31 x0_32 x0_35 x0_36 x0_37 x0_44 x0_49 x0_50 a1 a2) sz) := by
  refine met_start (by decide) (Nat.le_of_ble_eq_true rfl) ?_
  intro p e s m below meth c hC hr hlk hnm hK hP hD hA hS hX ls hl
  obtain ⟨hx, hb, hml, hown, ht0⟩ := hC
  have hown : s.vm.findClass RX11 = some m.cls := hown
  generalize va_A (wW_X11_syndromeOf G h0 h1 h2 y0_2 y0_3 y0_4 y0_6 y0_18 y0_21 y0_22 y0_23 y0_24 y0_25 y0_26 y0_33 y0_34 y0_38 y0_39 y0_40 y0_41 y0_42 y0_43 y0_45 y0_46 y0_47 y0_48 x0_5 x0_7 x0_8 x0_9 x0_10 x0_11 x0_12 x0_13 x0_14 x0_15 x0_16 x0_17 x0_19 x0_20 x0_27 x0_28 x0_29 x0_30 x0_31 x0_32 x0_35 x0_36 x0_37 x0_44 x0_49 x0_50 a1 a2) sz = A at hD hA hS hX ⊢
  have hl : lv_has ls 3 [(0, .ref h0), (1, .int b1), (2, .int b2)] := hl
  have hf : p_X11_syndromeOf F x0_5 a1 a2 b1 b2 = some r0 := hf
  refine lv_aload_n hx hb dX11_syndromeOf_0 rfl (lv_at hl 0 rfl) ?_
  refine lv_iload_n hx hb dX11_syndromeOf_1 rfl (lv_at hl 1 rfl) ?_
  obtain ⟨r_2_0, hc_r_2_0, hf⟩ := of_bnd hf
  refine cl_Vi (w2 := (wW_X11_syndromeOf G h0 h1 h2 y0_2 y0_3 y0_4 y0_6 y0_18 y0_21 y0_22 y0_23 y0_24 y0_25 y0_26 y0_33 y0_34 y0_38 y0_39 y0_40 y0_41 y0_42 y0_43 y0_45 y0_46 y0_47 y0_48 x0_5 x0_7 x0_8 x0_9 x0_10 x0_11 x0_12 x0_13 x0_14 x0_15 x0_16 x0_17 x0_19 x0_20 x0_27 x0_28 x0_29 x0_30 x0_31 x0_32 x0_35 x0_36 x0_37 x0_44 x0_49 x0_50 a1 a2)) (As := [.int b1]) (rest := []) ⟨hx, hb, hml, hown, ht0⟩ (c_X11_checksOf l G h0 h1 h2 y0_2 y0_3 y0_4 y0_6 y0_18 y0_21 y0_22 y0_23 y0_24 y0_25 y0_26 y0_33 y0_34 y0_38 y0_39 y0_40 y0_41 y0_42 y0_43 y0_45 y0_46 y0_47 y0_48 _ x0_5 x0_7 x0_8 x0_9 x0_10 x0_11 x0_12 x0_13 x0_14 x0_15 x0_16 x0_17 x0_19 x0_20 x0_27 x0_28 x0_29 x0_30 x0_31 x0_32 x0_35 x0_36 x0_37 x0_44 x0_49 x0_50 a1 a2 F b1 _ hc_r_2_0) yk_X11_checksOf wd_1394 ⟨rfl, rfl, by decide, by decide⟩ ⟨Nat.le_refl _, Nat.le_refl _⟩ hX hK hP hD hS hA [0, 1, 2] [] [0, 1, 2] (va_recv hK hP (ci := 11) (q0 := 0) rfl rfl) rfl rfl (by decide) rfl rfl rfl rfl rfl hl.1 rfl (Nat.le_of_ble_eq_true rfl) dX11_syndromeOf_2 (fun H locs hP hD hS => ?_)
  refine lv_iload_n hx hb dX11_syndromeOf_5 rfl (lv_at hl 2 rfl) ?_
  refine lv_ixor hx hb dX11_syndromeOf_6 ?_
  cases hf
  exact ret_i hx hb hr hlk hK hP hD hS dX11_syndromeOf_7
theorem yk_X11_syndromeOf : ykV yX11_syndromeOf RX11 cX11_syndromeOf 3 (some .int) 2 := ⟨wd_1637, wd_82, wd_142, wd_1638, rfl, by decide +kernel, by decide +kernel, by decide +kernel⟩
theorem dX11_placeOf_0 : decode cX11_placeOf 0 = .ok (.iconst 0, 1) := by decide +kernel
theorem dX11_placeOf_1 : decode cX11_placeOf 1 = .ok (.istore_n 2, 1) := by decide +kernel
theorem dX11_placeOf_2 : decode cX11_placeOf 2 = .ok (.iload_n 2, 1) := by decide +kernel
theorem dX11_placeOf_3 : decode cX11_placeOf 3 = .ok (.aload_n 0, 1) := by decide +kernel
theorem dX11_placeOf_4 : decode cX11_placeOf 4 = .ok (.invokevirtual 217, 3) := by decide +kernel
theorem dX11_placeOf_7 : decode cX11_placeOf 7 = .ok (.if_icmp .ge 20, 3) := by decide +kernel
theorem dX11_placeOf_10 : decode cX11_placeOf 10 = .ok (.aload_n 0, 1) := by decide +kernel
theorem dX11_placeOf_11 : decode cX11_placeOf 11 = .ok (.iload_n 2, 1) := by decide +kernel
theorem dX11_placeOf_12 : decode cX11_placeOf 12 = .ok (.invokevirtual 269, 3) := by decide +kernel
theorem dX11_placeOf_15 : decode cX11_placeOf 15 = .ok (.iload_n 1, 1) := by decide +kernel
theorem dX11_placeOf_16 : decode cX11_placeOf 16 = .ok (.if_icmp .ne 5, 3) := by decide +kernel
theorem dX11_placeOf_19 : decode cX11_placeOf 19 = .ok (.iload_n 2, 1) := by decide +kernel
theorem dX11_placeOf_20 : decode cX11_placeOf 20 = .ok (.ireturn, 1) := by decide +kernel
theorem dX11_placeOf_21 : decode cX11_placeOf 21 = .ok (.iinc 2 1, 3) := by decide +kernel
theorem dX11_placeOf_24 : decode cX11_placeOf 24 = .ok (.goto (-22), 3) := by decide +kernel
theorem dX11_placeOf_27 : decode cX11_placeOf 27 = .ok (.iconst (-1), 1) := by decide +kernel
theorem dX11_placeOf_28 : decode cX11_placeOf 28 = .ok (.ireturn, 1) := by decide +kernel
def wW_X11_placeOf (G : GG) (h0 h1 h2 h3 y0_3 y0_4 y0_6 y0_18 y0_21 y0_22 y0_23 y0_24 y0_25 y0_26 y0_33 y0_34 y0_38 y0_39 y0_40 y0_41 y0_42 y0_43 y0_45 y0_46 y0_47 y0_48 : Nat) (x0_5 : Int32) (x0_7 : Int32) (x0_8 : Int32) (x0_9 : Int32) (x0_10 : Int32) (x0_11 : Int32) (x0_12 : Int32) (x0_13 : Int32) (x0_14 : Int32) (x0_15 : Int32) (x0_16 : Int32) (x0_17 : Int32) (x0_19 : Int32) (x0_20 : Int32) (x0_27 : Int32) (x0_28 : Int32) (x0_29 : Int32) (x0_30 : Int32) (x0_31 : Int32) (x0_32 : Int32) (x0_35 : Int32) (x0_36 : Int32) (x0_37 : Int32) (x0_44 : Int32) (x0_49 : Int32) (x0_50 : Int32) (a1 : Nat → Int32) (a2 : Nat → Int32) (a3 : Nat → Int32) : va_W := [(h0, .inr (11, [.ref h1, .ref h2, .ref h3, .ref y0_3, .ref y0_4, .int x0_5, .ref y0_6, .int x0_7, .int x0_8, .int x0_9, .int x0_10, .int x0_11, .int x0_12, .int x0_13, .int x0_14, .int x0_15, .int x0_16, .int x0_17, .ref y0_18, .int x0_19, .int x0_20, .ref y0_21, .ref y0_22, .ref y0_23, .ref y0_24, .ref y0_25, .ref y0_26, .int x0_27, .int x0_28, .int x0_29, .int x0_30, .int x0_31, .int x0_32, .ref y0_33, .ref y0_34, .int x0_35, .int x0_36, .int x0_37, .ref y0_38, .ref y0_39, .ref y0_40, .ref y0_41, .ref y0_42, .ref y0_43, .int x0_44, .ref y0_45, .ref y0_46, .ref y0_47, .ref y0_48, .int x0_49, .int x0_50])), (h1, .inl (G.2.1, 121, .inl a1)), (h2, .inl (G.2.1, 2, .inl a2)), (h3, .inl (G.2.1, 2, .inl a3))]
set_option maxHeartbeats 4000000 in
set_option maxRecDepth 100000 in
theorem c_X11_placeOf (l : Launch) (G : GG) (h0 h1 h2 h3 y0_3 y0_4 y0_6 y0_18 y0_21 y0_22 y0_23 y0_24 y0_25 y0_26 y0_33 y0_34 y0_38 y0_39 y0_40 y0_41 y0_42 y0_43 y0_45 y0_46 y0_47 y0_48 : Nat) (sz : Nat) (x0_5 : Int32) (x0_7 : Int32) (x0_8 : Int32) (x0_9 : Int32) (x0_10 : Int32) (x0_11 : Int32) (x0_12 : Int32) (x0_13 : Int32) (x0_14 : Int32) (x0_15 : Int32) (x0_16 : Int32) (x0_17 : Int32) (x0_19 : Int32) (x0_20 : Int32) (x0_27 : Int32) (x0_28 : Int32) (x0_29 : Int32) (x0_30 : Int32) (x0_31 : Int32) (x0_32 : Int32) (x0_35 : Int32) (x0_36 : Int32) (x0_37 : Int32) (x0_44 : Int32) (x0_49 : Int32) (x0_50 : Int32) (a1 : Nat → Int32) (a2 : Nat → Int32) (a3 : Nat → Int32) (F : Nat) (b1 : Int32)  (r0 : Int32) (hf : p_X11_placeOf F x0_5 a1 a2 a3 b1 = some r0) : Met l yX11_placeOf (.code yX11_placeOf cX11_placeOf 3 (some .int) :: gtbl) ({ frames := 2, cells := 0, slots := 0, locals := 40 } : Room) (PcS G [.ref h0, .int b1] (wW_X11_placeOf G h0 h1 h2 h3 y0_3 y0_4 y0_6 y0_18 y0_21 y0_22 y0_23 y0_24 y0_25 y0_26 y0_33 y0_34 y0_38 y0_39 y0_40 y0_41 y0_42 y0_43 y0_45 y0_46 y0_47 y0_48 x0_5 x0_7 x0_8 x0_9 x0_10 x0_11 x0_12 x0_13 x0_14 x0_15 x0_16 x0_17 x0_19 x0_20 x0_27 x0_28 x0_29 x0_30 x0_31 x0_32 x0_35 x0_36 x0_37 x0_44 x0_49 x0_50 a1 a2 a3) sz) (QiS G r0 (va_A (wW_X11_placeOf G h0 h1 h2 h3 y0_3 y0_4 y0_6 y0_18 y0_21 y0_22 y0_23 y0_24 y0_25 y0_26 y0_33 y0_34 y0_38 y0_39 y0_40 y0_41 y0_42 y0_43 y0_45 y0_46 y0_47 y0_48 x0_5 x0_7 x0_8 x0_9 x0_10 x0_11 x0_12 x0_13 x0_14 x0_15 x0_16 x0_17 x0_19 x0_20 x0_27 x0_28 x0_29 x0_30 x0_31 x0_32 x0_35 x0_36 x0_37 x0_44 x0_49 x0_50 a1 a2 a3) sz) (wW_X11_placeOf G h0 h1 h2 h3 y0_3 y0_4 y0_6 y0_18 y0_21 y0_22 y0_23 y0_24 y0_25 y0_26 y0_33 y0_34 y0_38 y0_39 y0_40 y0_41 y0_42 y0_43 y0_45 y0_46 y0_47 y0_48 x0_5 x0_7 x0_8 x0_9 x0_10 x0_11 x0_12 x0_13 x0_14 x0_15 x0_16 x0_17 x0_19 x0_20 x0_27 x0_28 x0_29 x0_30 x0_31 x0_32 x0_35 x0_36 x0_37 x0_44 x0_49 x0_50 a1 a2 a3)) 0 0 (va_A (wW_X11_placeOf G h0 h1 h2 h3 y0_3 y0_4 y0_6 y0_18 y0_21 y0_22 y0_23 y0_24 y0_25 y0_26 y0_33 y0_34 y0_38 y0_39 y0_40 y0_41 y0_42 y0_43 y0_45 y0_46 y0_47 y0_48 x0_5 x0_7 x0_8 x0_9 x0_10 x0_11 x0_12 x0_13 x0_14 x0_15 x0_16 x0_17 x0_19 x0_20 x0_27 x0_28 x0_29 x0_30 x0_31 x0_32 x0_35 x0_36 x0_37 x0_44 x0_49 x0_50 a1 a2 a3) sz) := by
  refine met_start (by decide) (Nat.le_of_ble_eq_true rfl) ?_
  intro p e s m below meth c hC hr hlk hnm hK hP hD hA hS hX ls hl
  obtain ⟨hx, hb, hml, hown, ht0⟩ := hC
  have hown : s.vm.findClass RX11 = some m.cls := hown
  generalize va_A (wW_X11_placeOf G h0 h1 h2 h3 y0_3 y0_4 y0_6 y0_18 y0_21 y0_22 y0_23 y0_24 y0_25 y0_26 y0_33 y0_34 y0_38 y0_39 y0_40 y0_41 y0_42 y0_43 y0_45 y0_46 y0_47 y0_48 x0_5 x0_7 x0_8 x0_9 x0_10 x0_11 x0_12 x0_13 x0_14 x0_15 x0_16 x0_17 x0_19 x0_20 x0_27 x0_28 x0_29 x0_30 x0_31 x0_32 x0_35 x0_36 x0_37 x0_44 x0_49 x0_50 a1 a2 a3) sz = A at hD hA hS hX ⊢
  have hl : lv_has ls 3 [(0, .ref h0), (1, .int b1)] := hl
  have hf : p_X11_placeOf F x0_5 a1 a2 a3 b1 = some r0 := hf
  have kL2 : ∀ (c2_1 : Int32) (n2 : Nat) (u2_2 : Int32), p_X11_placeOf_L2 F x0_5 a1 a2 a3 c2_1 n2 u2_2 = some r0 → ∀ (H : Heap) (locs : List Loc), va_P G.1 vwCl (wW_X11_placeOf G h0 h1 h2 h3 y0_3 y0_4 y0_6 y0_18 y0_21 y0_22 y0_23 y0_24 y0_25 y0_26 y0_33 y0_34 y0_38 y0_39 y0_40 y0_41 y0_42 y0_43 y0_45 y0_46 y0_47 y0_48 x0_5 x0_7 x0_8 x0_9 x0_10 x0_11 x0_12 x0_13 x0_14 x0_15 x0_16 x0_17 x0_19 x0_20 x0_27 x0_28 x0_29 x0_30 x0_31 x0_32 x0_35 x0_36 x0_37 x0_44 x0_49 x0_50 a1 a2 a3) H → va_D A (wW_X11_placeOf G h0 h1 h2 h3 y0_3 y0_4 y0_6 y0_18 y0_21 y0_22 y0_23 y0_24 y0_25 y0_26 y0_33 y0_34 y0_38 y0_39 y0_40 y0_41 y0_42 y0_43 y0_45 y0_46 y0_47 y0_48 x0_5 x0_7 x0_8 x0_9 x0_10 x0_11 x0_12 x0_13 x0_14 x0_15 x0_16 x0_17 x0_19 x0_20 x0_27 x0_28 x0_29 x0_30 x0_31 x0_32 x0_35 x0_36 x0_37 x0_44 x0_49 x0_50 a1 a2 a3) → va_S A s.heap H locs → ∀ ls : Array Slot, lv_has ls 3 [(0, .ref h0), (1, .int c2_1), (2, .int u2_2)] → W p l e ({ frames := 2, cells := 0, slots := 0, locals := 40 } : Room) s m (List.toArray [.ref h0, .int b1]) below meth c H locs 0 0 (MQ below (QiS G r0 A (wW_X11_placeOf G h0 h1 h2 h3 y0_3 y0_4 y0_6 y0_18 y0_21 y0_22 y0_23 y0_24 y0_25 y0_26 y0_33 y0_34 y0_38 y0_39 y0_40 y0_41 y0_42 y0_43 y0_45 y0_46 y0_47 y0_48 x0_5 x0_7 x0_8 x0_9 x0_10 x0_11 x0_12 x0_13 x0_14 x0_15 x0_16 x0_17 x0_19 x0_20 x0_27 x0_28 x0_29 x0_30 x0_31 x0_32 x0_35 x0_36 x0_37 x0_44 x0_49 x0_50 a1 a2 a3)) (List.toArray [.ref h0, .int b1]) s 0 0 A) (F0 m 2 ls []) := by
    intro c2_1 n2
    induction n2 with
    | zero =>
      intro u2_2 hf
      cases hf
    | succ n2 ih2 =>
      intro u2_2 hf H locs hP hD hS ls hl
      have hf : p_X11_placeOf_L2b F x0_5 a1 a2 a3 c2_1 (p_X11_placeOf_L2 F x0_5 a1 a2 a3 c2_1 n2) u2_2 = some r0 := hf
      refine lv_iload_n hx hb dX11_placeOf_2 rfl (lv_at hl 2 rfl) ?_
      refine lv_aload_n hx hb dX11_placeOf_3 rfl (lv_at hl 0 rfl) ?_
      obtain ⟨r_4_0, hc_r_4_0, hf⟩ := of_bnd hf
      refine cl_Vi (w2 := (wW_X11_placeOf G h0 h1 h2 h3 y0_3 y0_4 y0_6 y0_18 y0_21 y0_22 y0_23 y0_24 y0_25 y0_26 y0_33 y0_34 y0_38 y0_39 y0_40 y0_41 y0_42 y0_43 y0_45 y0_46 y0_47 y0_48 x0_5 x0_7 x0_8 x0_9 x0_10 x0_11 x0_12 x0_13 x0_14 x0_15 x0_16 x0_17 x0_19 x0_20 x0_27 x0_28 x0_29 x0_30 x0_31 x0_32 x0_35 x0_36 x0_37 x0_44 x0_49 x0_50 a1 a2 a3)) (As := []) (rest := [.int u2_2]) ⟨hx, hb, hml, hown, ht0⟩ (c_X11_places l G h0 h2 h3 h1 y0_3 y0_4 y0_6 y0_18 y0_21 y0_22 y0_23 y0_24 y0_25 y0_26 y0_33 y0_34 y0_38 y0_39 y0_40 y0_41 y0_42 y0_43 y0_45 y0_46 y0_47 y0_48 _ x0_5 x0_7 x0_8 x0_9 x0_10 x0_11 x0_12 x0_13 x0_14 x0_15 x0_16 x0_17 x0_19 x0_20 x0_27 x0_28 x0_29 x0_30 x0_31 x0_32 x0_35 x0_36 x0_37 x0_44 x0_49 x0_50 a2 a3 F _ hc_r_4_0) yk_X11_places wd_1572 ⟨rfl, rfl, by decide, by decide⟩ ⟨Nat.le_refl _, Nat.le_refl _⟩ hX hK hP hD hS hA [0, 2, 3] [1] [1, 0, 2, 3] (va_recv hK hP (ci := 11) (q0 := 0) rfl rfl) rfl rfl (by decide) rfl rfl rfl rfl rfl hl.1 rfl (Nat.le_of_ble_eq_true rfl) dX11_placeOf_4 (fun H locs hP hD hS => ?_)
      refine lv_icmp_ge (tgt := 27) hx hb dX11_placeOf_7 (by decide) (fun c2 => ?_) (fun c2 => ?_)
      · have hf := of_pos hf c2
        refine lv_iconst (v := (-1 : Int32)) hx hb dX11_placeOf_27 (by decide) ?_
        cases hf
        exact ret_i hx hb hr hlk hK hP hD hS dX11_placeOf_28
      · have hf := of_neg hf c2
        refine lv_aload_n hx hb dX11_placeOf_10 rfl (lv_at hl 0 rfl) ?_
        refine lv_iload_n hx hb dX11_placeOf_11 rfl (lv_at hl 2 rfl) ?_
        obtain ⟨r_12_2, hc_r_12_2, hf⟩ := of_bnd hf
        refine cl_Vi (w2 := (wW_X11_placeOf G h0 h1 h2 h3 y0_3 y0_4 y0_6 y0_18 y0_21 y0_22 y0_23 y0_24 y0_25 y0_26 y0_33 y0_34 y0_38 y0_39 y0_40 y0_41 y0_42 y0_43 y0_45 y0_46 y0_47 y0_48 x0_5 x0_7 x0_8 x0_9 x0_10 x0_11 x0_12 x0_13 x0_14 x0_15 x0_16 x0_17 x0_19 x0_20 x0_27 x0_28 x0_29 x0_30 x0_31 x0_32 x0_35 x0_36 x0_37 x0_44 x0_49 x0_50 a1 a2 a3)) (As := [.int u2_2]) (rest := []) ⟨hx, hb, hml, hown, ht0⟩ (c_X11_columnAt l G h0 h1 h2 h3 y0_3 y0_4 y0_6 y0_18 y0_21 y0_22 y0_23 y0_24 y0_25 y0_26 y0_33 y0_34 y0_38 y0_39 y0_40 y0_41 y0_42 y0_43 y0_45 y0_46 y0_47 y0_48 _ x0_5 x0_7 x0_8 x0_9 x0_10 x0_11 x0_12 x0_13 x0_14 x0_15 x0_16 x0_17 x0_19 x0_20 x0_27 x0_28 x0_29 x0_30 x0_31 x0_32 x0_35 x0_36 x0_37 x0_44 x0_49 x0_50 a1 F u2_2 _ hc_r_12_2) yk_X11_columnAt wd_1402 ⟨rfl, rfl, by decide, by decide⟩ ⟨Nat.le_refl _, Nat.le_refl _⟩ hX hK hP hD hS hA [0, 1] [2, 3] [2, 3, 0, 1] (va_recv hK hP (ci := 11) (q0 := 0) rfl rfl) rfl rfl (by decide) rfl rfl rfl rfl rfl hl.1 rfl (Nat.le_of_ble_eq_true rfl) dX11_placeOf_12 (fun H locs hP hD hS => ?_)
        refine lv_iload_n hx hb dX11_placeOf_15 rfl (lv_at hl 1 rfl) ?_
        refine lv_icmp_ne (tgt := 21) hx hb dX11_placeOf_16 (by decide) (fun c4 => ?_) (fun c4 => ?_)
        · have hf := of_neg hf c4
          refine lv_iinc (v := u2_2 + (1 : Int32)) (lv' := [(2, .int (u2_2 + (1 : Int32))), (0, .ref h0), (1, .int c2_1)]) hx hb dX11_placeOf_21 hl (k := 2) rfl (by rfl) (by decide) rfl (fun ls hl => ?_)
          refine lv_goto (tgt := 2) hx hb dX11_placeOf_24 (by decide) ?_
          exact ih2 _ hf _ _ hP hD hS _ (lv_sub hl [1, 2, 0] rfl)
        · have hf := of_pos hf c4
          refine lv_iload_n hx hb dX11_placeOf_19 rfl (lv_at hl 2 rfl) ?_
          cases hf
          exact ret_i hx hb hr hlk hK hP hD hS dX11_placeOf_20
  refine lv_iconst (v := (0 : Int32)) hx hb dX11_placeOf_0 (by decide) ?_
  refine lv_istore_n (lv' := [(2, .int (0 : Int32)), (0, .ref h0), (1, .int b1)]) hx hb dX11_placeOf_1 rfl hl (by decide) rfl (fun ls hl => ?_)
  exact kL2 _ _ _ hf _ _ hP hD hS _ (lv_sub hl [1, 2, 0] rfl)
theorem yk_X11_placeOf : ykV yX11_placeOf RX11 cX11_placeOf 3 (some .int) 1 := ⟨wd_1653, wd_86, wd_142, wd_1654, rfl, by decide +kernel, by decide +kernel, by decide +kernel⟩
theorem dX11_pairOf_0 : decode cX11_pairOf 0 = .ok (.iconst 0, 1) := by decide +kernel
theorem dX11_pairOf_1 : decode cX11_pairOf 1 = .ok (.istore_n 2, 1) := by decide +kernel
theorem dX11_pairOf_2 : decode cX11_pairOf 2 = .ok (.iload_n 2, 1) := by decide +kernel
theorem dX11_pairOf_3 : decode cX11_pairOf 3 = .ok (.iconst 1, 1) := by decide +kernel
theorem dX11_pairOf_4 : decode cX11_pairOf 4 = .ok (.iadd, 1) := by decide +kernel
theorem dX11_pairOf_5 : decode cX11_pairOf 5 = .ok (.aload_n 0, 1) := by decide +kernel
theorem dX11_pairOf_6 : decode cX11_pairOf 6 = .ok (.invokevirtual 217, 3) := by decide +kernel
theorem dX11_pairOf_9 : decode cX11_pairOf 9 = .ok (.if_icmp .ge 28, 3) := by decide +kernel
theorem dX11_pairOf_12 : decode cX11_pairOf 12 = .ok (.aload_n 0, 1) := by decide +kernel
theorem dX11_pairOf_13 : decode cX11_pairOf 13 = .ok (.iload_n 2, 1) := by decide +kernel
theorem dX11_pairOf_14 : decode cX11_pairOf 14 = .ok (.invokevirtual 269, 3) := by decide +kernel
theorem dX11_pairOf_17 : decode cX11_pairOf 17 = .ok (.aload_n 0, 1) := by decide +kernel
theorem dX11_pairOf_18 : decode cX11_pairOf 18 = .ok (.iload_n 2, 1) := by decide +kernel
theorem dX11_pairOf_19 : decode cX11_pairOf 19 = .ok (.iconst 1, 1) := by decide +kernel
theorem dX11_pairOf_20 : decode cX11_pairOf 20 = .ok (.iadd, 1) := by decide +kernel
theorem dX11_pairOf_21 : decode cX11_pairOf 21 = .ok (.invokevirtual 269, 3) := by decide +kernel
theorem dX11_pairOf_24 : decode cX11_pairOf 24 = .ok (.ixor, 1) := by decide +kernel
theorem dX11_pairOf_25 : decode cX11_pairOf 25 = .ok (.iload_n 1, 1) := by decide +kernel
theorem dX11_pairOf_26 : decode cX11_pairOf 26 = .ok (.if_icmp .ne 5, 3) := by decide +kernel
theorem dX11_pairOf_29 : decode cX11_pairOf 29 = .ok (.iload_n 2, 1) := by decide +kernel
theorem dX11_pairOf_30 : decode cX11_pairOf 30 = .ok (.ireturn, 1) := by decide +kernel
theorem dX11_pairOf_31 : decode cX11_pairOf 31 = .ok (.iinc 2 1, 3) := by decide +kernel
theorem dX11_pairOf_34 : decode cX11_pairOf 34 = .ok (.goto (-32), 3) := by decide +kernel
theorem dX11_pairOf_37 : decode cX11_pairOf 37 = .ok (.iconst (-1), 1) := by decide +kernel
theorem dX11_pairOf_38 : decode cX11_pairOf 38 = .ok (.ireturn, 1) := by decide +kernel
def wW_X11_pairOf (G : GG) (h0 h1 h2 h3 y0_3 y0_4 y0_6 y0_18 y0_21 y0_22 y0_23 y0_24 y0_25 y0_26 y0_33 y0_34 y0_38 y0_39 y0_40 y0_41 y0_42 y0_43 y0_45 y0_46 y0_47 y0_48 : Nat) (x0_5 : Int32) (x0_7 : Int32) (x0_8 : Int32) (x0_9 : Int32) (x0_10 : Int32) (x0_11 : Int32) (x0_12 : Int32) (x0_13 : Int32) (x0_14 : Int32) (x0_15 : Int32) (x0_16 : Int32) (x0_17 : Int32) (x0_19 : Int32) (x0_20 : Int32) (x0_27 : Int32) (x0_28 : Int32) (x0_29 : Int32) (x0_30 : Int32) (x0_31 : Int32) (x0_32 : Int32) (x0_35 : Int32) (x0_36 : Int32) (x0_37 : Int32) (x0_44 : Int32) (x0_49 : Int32) (x0_50 : Int32) (a1 : Nat → Int32) (a2 : Nat → Int32) (a3 : Nat → Int32) : va_W := [(h0, .inr (11, [.ref h1, .ref h2, .ref h3, .ref y0_3, .ref y0_4, .int x0_5, .ref y0_6, .int x0_7, .int x0_8, .int x0_9, .int x0_10, .int x0_11, .int x0_12, .int x0_13, .int x0_14, .int x0_15, .int x0_16, .int x0_17, .ref y0_18, .int x0_19, .int x0_20, .ref y0_21, .ref y0_22, .ref y0_23, .ref y0_24, .ref y0_25, .ref y0_26, .int x0_27, .int x0_28, .int x0_29, .int x0_30, .int x0_31, .int x0_32, .ref y0_33, .ref y0_34, .int x0_35, .int x0_36, .int x0_37, .ref y0_38, .ref y0_39, .ref y0_40, .ref y0_41, .ref y0_42, .ref y0_43, .int x0_44, .ref y0_45, .ref y0_46, .ref y0_47, .ref y0_48, .int x0_49, .int x0_50])), (h1, .inl (G.2.1, 121, .inl a1)), (h2, .inl (G.2.1, 2, .inl a2)), (h3, .inl (G.2.1, 2, .inl a3))]
set_option maxHeartbeats 4000000 in
set_option maxRecDepth 100000 in
theorem c_X11_pairOf (l : Launch) (G : GG) (h0 h1 h2 h3 y0_3 y0_4 y0_6 y0_18 y0_21 y0_22 y0_23 y0_24 y0_25 y0_26 y0_33 y0_34 y0_38 y0_39 y0_40 y0_41 y0_42 y0_43 y0_45 y0_46 y0_47 y0_48 : Nat) (sz : Nat) (x0_5 : Int32) (x0_7 : Int32) (x0_8 : Int32) (x0_9 : Int32) (x0_10 : Int32) (x0_11 : Int32) (x0_12 : Int32) (x0_13 : Int32) (x0_14 : Int32) (x0_15 : Int32) (x0_16 : Int32) (x0_17 : Int32) (x0_19 : Int32) (x0_20 : Int32) (x0_27 : Int32) (x0_28 : Int32) (x0_29 : Int32) (x0_30 : Int32) (x0_31 : Int32) (x0_32 : Int32) (x0_35 : Int32) (x0_36 : Int32) (x0_37 : Int32) (x0_44 : Int32) (x0_49 : Int32) (x0_50 : Int32) (a1 : Nat → Int32) (a2 : Nat → Int32) (a3 : Nat → Int32) (F : Nat) (b1 : Int32)  (r0 : Int32) (hf : p_X11_pairOf F x0_5 a1 a2 a3 b1 = some r0) : Met l yX11_pairOf (.code yX11_pairOf cX11_pairOf 3 (some .int) :: gtbl) ({ frames := 2, cells := 0, slots := 0, locals := 40 } : Room) (PcS G [.ref h0, .int b1] (wW_X11_pairOf G h0 h1 h2 h3 y0_3 y0_4 y0_6 y0_18 y0_21 y0_22 y0_23 y0_24 y0_25 y0_26 y0_33 y0_34 y0_38 y0_39 y0_40 y0_41 y0_42 y0_43 y0_45 y0_46 y0_47 y0_48 x0_5 x0_7 x0_8 x0_9 x0_10 x0_11 x0_12 x0_13 x0_14 x0_15 x0_16 x0_17 x0_19 x0_20 x0_27 x0_28 x0_29 x0_30 x0_31 x0_32 x0_35 x0_36 x0_37 x0_44 x0_49 x0_50 a1 a2 a3) sz) (QiS G r0 (va_A (wW_X11_pairOf G h0 h1 h2 h3 y0_3 y0_4 y0_6 y0_18 y0_21 y0_22 y0_23 y0_24 y0_25 y0_26 y0_33 y0_34 y0_38 y0_39 y0_40 y0_41 y0_42 y0_43 y0_45 y0_46 y0_47 y0_48 x0_5 x0_7 x0_8 x0_9 x0_10 x0_11 x0_12 x0_13 x0_14 x0_15 x0_16 x0_17 x0_19 x0_20 x0_27 x0_28 x0_29 x0_30 x0_31 x0_32 x0_35 x0_36 x0_37 x0_44 x0_49 x0_50 a1 a2 a3) sz) (wW_X11_pairOf G h0 h1 h2 h3 y0_3 y0_4 y0_6 y0_18 y0_21 y0_22 y0_23 y0_24 y0_25 y0_26 y0_33 y0_34 y0_38 y0_39 y0_40 y0_41 y0_42 y0_43 y0_45 y0_46 y0_47 y0_48 x0_5 x0_7 x0_8 x0_9 x0_10 x0_11 x0_12 x0_13 x0_14 x0_15 x0_16 x0_17 x0_19 x0_20 x0_27 x0_28 x0_29 x0_30 x0_31 x0_32 x0_35 x0_36 x0_37 x0_44 x0_49 x0_50 a1 a2 a3)) 0 0 (va_A (wW_X11_pairOf G h0 h1 h2 h3 y0_3 y0_4 y0_6 y0_18 y0_21 y0_22 y0_23 y0_24 y0_25 y0_26 y0_33 y0_34 y0_38 y0_39 y0_40 y0_41 y0_42 y0_43 y0_45 y0_46 y0_47 y0_48 x0_5 x0_7 x0_8 x0_9 x0_10 x0_11 x0_12 x0_13 x0_14 x0_15 x0_16 x0_17 x0_19 x0_20 x0_27 x0_28 x0_29 x0_30 x0_31 x0_32 x0_35 x0_36 x0_37 x0_44 x0_49 x0_50 a1 a2 a3) sz) := by
  refine met_start (by decide) (Nat.le_of_ble_eq_true rfl) ?_
  intro p e s m below meth c hC hr hlk hnm hK hP hD hA hS hX ls hl
  obtain ⟨hx, hb, hml, hown, ht0⟩ := hC
  have hown : s.vm.findClass RX11 = some m.cls := hown
  generalize va_A (wW_X11_pairOf G h0 h1 h2 h3 y0_3 y0_4 y0_6 y0_18 y0_21 y0_22 y0_23 y0_24 y0_25 y0_26 y0_33 y0_34 y0_38 y0_39 y0_40 y0_41 y0_42 y0_43 y0_45 y0_46 y0_47 y0_48 x0_5 x0_7 x0_8 x0_9 x0_10 x0_11 x0_12 x0_13 x0_14 x0_15 x0_16 x0_17 x0_19 x0_20 x0_27 x0_28 x0_29 x0_30 x0_31 x0_32 x0_35 x0_36 x0_37 x0_44 x0_49 x0_50 a1 a2 a3) sz = A at hD hA hS hX ⊢
  have hl : lv_has ls 3 [(0, .ref h0), (1, .int b1)] := hl
  have hf : p_X11_pairOf F x0_5 a1 a2 a3 b1 = some r0 := hf
  have kL2 : ∀ (c2_1 : Int32) (n2 : Nat) (u2_2 : Int32), p_X11_pairOf_L2 F x0_5 a1 a2 a3 c2_1 n2 u2_2 = some r0 → ∀ (H : Heap) (locs : List Loc), va_P G.1 vwCl (wW_X11_pairOf G h0 h1 h2 h3 y0_3 y0_4 y0_6 y0_18 y0_21 y0_22 y0_23 y0_24 y0_25 y0_26 y0_33 y0_34 y0_38 y0_39 y0_40 y0_41 y0_42 y0_43 y0_45 y0_46 y0_47 y0_48 x0_5 x0_7 x0_8 x0_9 x0_10 x0_11 x0_12 x0_13 x0_14 x0_15 x0_16 x0_17 x0_19 x0_20 x0_27 x0_28 x0_29 x0_30 x0_31 x0_32 x0_35 x0_36 x0_37 x0_44 x0_49 x0_50 a1 a2 a3) H → va_D A (wW_X11_pairOf G h0 h1 h2 h3 y0_3 y0_4 y0_6 y0_18 y0_21 y0_22 y0_23 y0_24 y0_25 y0_26 y0_33 y0_34 y0_38 y0_39 y0_40 y0_41 y0_42 y0_43 y0_45 y0_46 y0_47 y0_48 x0_5 x0_7 x0_8 x0_9 x0_10 x0_11 x0_12 x0_13 x0_14 x0_15 x0_16 x0_17 x0_19 x0_20 x0_27 x0_28 x0_29 x0_30 x0_31 x0_32 x0_35 x0_36 x0_37 x0_44 x0_49 x0_50 a1 a2 a3) → va_S A s.heap H locs → ∀ ls : Array Slot, lv_has ls 3 [(0, .ref h0), (1, .int c2_1), (2, .int u2_2)] → W p l e ({ frames := 2, cells := 0, slots := 0, locals := 40 } : Room) s m (List.toArray [.ref h0, .int b1]) below meth c H locs 0 0 (MQ below (QiS G r0 A (wW_X11_pairOf G h0 h1 h2 h3 y0_3 y0_4 y0_6 y0_18 y0_21 y0_22 y0_23 y0_24 y0_25 y0_26 y0_33 y0_34 y0_38 y0_39 y0_40 y0_41 y0_42 y0_43 y0_45 y0_46 y0_47 y0_48 x0_5 x0_7 x0_8 x0_9 x0_10 x0_11 x0_12 x0_13 x0_14 x0_15 x0_16 x0_17 x0_19 x0_20 x0_27 x0_28 x0_29 x0_30 x0_31 x0_32 x0_35 x0_36 x0_37 x0_44 x0_49 x0_50 a1 a2 a3)) (List.toArray [.ref h0, .int b1]) s 0 0 A) (F0 m 2 ls []) := by
    intro c2_1 n2
    induction n2 with
    | zero =>
      intro u2_2 hf
      cases hf
    | succ n2 ih2 =>
      intro u2_2 hf H locs hP hD hS ls hl
      have hf : p_X11_pairOf_L2b F x0_5 a1 a2 a3 c2_1 (p_X11_pairOf_L2 F x0_5 a1 a2 a3 c2_1 n2) u2_2 = some r0 := hf
      refine lv_iload_n hx hb dX11_pairOf_2 rfl (lv_at hl 2 rfl) ?_
      refine lv_iconst (v := (1 : Int32)) hx hb dX11_pairOf_3 (by decide) ?_
      refine lv_iadd hx hb dX11_pairOf_4 ?_
      refine lv_aload_n hx hb dX11_pairOf_5 rfl (lv_at hl 0 rfl) ?_
      obtain ⟨r_6_0, hc_r_6_0, hf⟩ := of_bnd hf
      refine cl_Vi (w2 := (wW_X11_pairOf G h0 h1 h2 h3 y0_3 y0_4 y0_6 y0_18 y0_21 y0_22 y0_23 y0_24 y0_25 y0_26 y0_33 y0_34 y0_38 y0_39 y0_40 y0_41 y0_42 y0_43 y0_45 y0_46 y0_47 y0_48 x0_5 x0_7 x0_8 x0_9 x0_10 x0_11 x0_12 x0_13 x0_14 x0_15 x0_16 x0_17 x0_19 x0_20 x0_27 x0_28 x0_29 x0_30 x0_31 x0_32 x0_35 x0_36 x0_37 x0_44 x0_49 x0_50 a1 a2 a3)) (As := []) (rest := [.int (u2_2 + (1 : Int32))]) ⟨hx, hb, hml, hown, ht0⟩ (c_X11_places l G h0 h2 h3 h1 y0_3 y0_4 y0_6 y0_18 y0_21 y0_22 y0_23 y0_24 y0_25 y0_26 y0_33 y0_34 y0_38 y0_39 y0_40 y0_41 y0_42 y0_43 y0_45 y0_46 y0_47 y0_48 _ x0_5 x0_7 x0_8 x0_9 x0_10 x0_11 x0_12 x0_13 x0_14 x0_15 x0_16 x0_17 x0_19 x0_20 x0_27 x0_28 x0_29 x0_30 x0_31 x0_32 x0_35 x0_36 x0_37 x0_44 x0_49 x0_50 a2 a3 F _ hc_r_6_0) yk_X11_places wd_1572 ⟨rfl, rfl, by decide, by decide⟩ ⟨Nat.le_refl _, Nat.le_refl _⟩ hX hK hP hD hS hA [0, 2, 3] [1] [1, 0, 2, 3] (va_recv hK hP (ci := 11) (q0 := 0) rfl rfl) rfl rfl (by decide) rfl rfl rfl rfl rfl hl.1 rfl (Nat.le_of_ble_eq_true rfl) dX11_pairOf_6 (fun H locs hP hD hS => ?_)
      refine lv_icmp_ge (tgt := 37) hx hb dX11_pairOf_9 (by decide) (fun c2 => ?_) (fun c2 => ?_)
      · have hf := of_pos hf c2
        refine lv_iconst (v := (-1 : Int32)) hx hb dX11_pairOf_37 (by decide) ?_
        cases hf
        exact ret_i hx hb hr hlk hK hP hD hS dX11_pairOf_38
      · have hf := of_neg hf c2
        refine lv_aload_n hx hb dX11_pairOf_12 rfl (lv_at hl 0 rfl) ?_
        refine lv_iload_n hx hb dX11_pairOf_13 rfl (lv_at hl 2 rfl) ?_
        obtain ⟨r_14_2, hc_r_14_2, hf⟩ := of_bnd hf
        refine cl_Vi (w2 := (wW_X11_pairOf G h0 h1 h2 h3 y0_3 y0_4 y0_6 y0_18 y0_21 y0_22 y0_23 y0_24 y0_25 y0_26 y0_33 y0_34 y0_38 y0_39 y0_40 y0_41 y0_42 y0_43 y0_45 y0_46 y0_47 y0_48 x0_5 x0_7 x0_8 x0_9 x0_10 x0_11 x0_12 x0_13 x0_14 x0_15 x0_16 x0_17 x0_19 x0_20 x0_27 x0_28 x0_29 x0_30 x0_31 x0_32 x0_35 x0_36 x0_37 x0_44 x0_49 x0_50 a1 a2 a3)) (As := [.int u2_2]) (rest := []) ⟨hx, hb, hml, hown, ht0⟩ (c_X11_columnAt l G h0 h1 h2 h3 y0_3 y0_4 y0_6 y0_18 y0_21 y0_22 y0_23 y0_24 y0_25 y0_26 y0_33 y0_34 y0_38 y0_39 y0_40 y0_41 y0_42 y0_43 y0_45 y0_46 y0_47 y0_48 _ x0_5 x0_7 x0_8 x0_9 x0_10 x0_11 x0_12 x0_13 x0_14 x0_15 x0_16 x0_17 x0_19 x0_20 x0_27 x0_28 x0_29 x0_30 x0_31 x0_32 x0_35 x0_36 x0_37 x0_44 x0_49 x0_50 a1 F u2_2 _ hc_r_14_2) yk_X11_columnAt wd_1402 ⟨rfl, rfl, by decide, by decide⟩ ⟨Nat.le_refl _, Nat.le_refl _⟩ hX hK hP hD hS hA [0, 1] [2, 3] [2, 3, 0, 1] (va_recv hK hP (ci := 11) (q0 := 0) rfl rfl) rfl rfl (by decide) rfl rfl rfl rfl rfl hl.1 rfl (Nat.le_of_ble_eq_true rfl) dX11_pairOf_14 (fun H locs hP hD hS => ?_)
        refine lv_aload_n hx hb dX11_pairOf_17 rfl (lv_at hl 0 rfl) ?_
        refine lv_iload_n hx hb dX11_pairOf_18 rfl (lv_at hl 2 rfl) ?_
        refine lv_iconst (v := (1 : Int32)) hx hb dX11_pairOf_19 (by decide) ?_
        refine lv_iadd hx hb dX11_pairOf_20 ?_
        obtain ⟨r_21_3, hc_r_21_3, hf⟩ := of_bnd hf
        refine cl_Vi (w2 := (wW_X11_pairOf G h0 h1 h2 h3 y0_3 y0_4 y0_6 y0_18 y0_21 y0_22 y0_23 y0_24 y0_25 y0_26 y0_33 y0_34 y0_38 y0_39 y0_40 y0_41 y0_42 y0_43 y0_45 y0_46 y0_47 y0_48 x0_5 x0_7 x0_8 x0_9 x0_10 x0_11 x0_12 x0_13 x0_14 x0_15 x0_16 x0_17 x0_19 x0_20 x0_27 x0_28 x0_29 x0_30 x0_31 x0_32 x0_35 x0_36 x0_37 x0_44 x0_49 x0_50 a1 a2 a3)) (As := [.int (u2_2 + (1 : Int32))]) (rest := [.int r_14_2]) ⟨hx, hb, hml, hown, ht0⟩ (c_X11_columnAt l G h0 h1 h2 h3 y0_3 y0_4 y0_6 y0_18 y0_21 y0_22 y0_23 y0_24 y0_25 y0_26 y0_33 y0_34 y0_38 y0_39 y0_40 y0_41 y0_42 y0_43 y0_45 y0_46 y0_47 y0_48 _ x0_5 x0_7 x0_8 x0_9 x0_10 x0_11 x0_12 x0_13 x0_14 x0_15 x0_16 x0_17 x0_19 x0_20 x0_27 x0_28 x0_29 x0_30 x0_31 x0_32 x0_35 x0_36 x0_37 x0_44 x0_49 x0_50 a1 F (u2_2 + (1 : Int32)) _ hc_r_21_3) yk_X11_columnAt wd_1402 ⟨rfl, rfl, by decide, by decide⟩ ⟨Nat.le_refl _, Nat.le_refl _⟩ hX hK hP hD hS hA [0, 1] [2, 3] [2, 3, 0, 1] (va_recv hK hP (ci := 11) (q0 := 0) rfl rfl) rfl rfl (by decide) rfl rfl rfl rfl rfl hl.1 rfl (Nat.le_of_ble_eq_true rfl) dX11_pairOf_21 (fun H locs hP hD hS => ?_)
        refine lv_ixor hx hb dX11_pairOf_24 ?_
        refine lv_iload_n hx hb dX11_pairOf_25 rfl (lv_at hl 1 rfl) ?_
        refine lv_icmp_ne (tgt := 31) hx hb dX11_pairOf_26 (by decide) (fun c5 => ?_) (fun c5 => ?_)
        · have hf := of_neg hf c5
          refine lv_iinc (v := u2_2 + (1 : Int32)) (lv' := [(2, .int (u2_2 + (1 : Int32))), (0, .ref h0), (1, .int c2_1)]) hx hb dX11_pairOf_31 hl (k := 2) rfl (by rfl) (by decide) rfl (fun ls hl => ?_)
          refine lv_goto (tgt := 2) hx hb dX11_pairOf_34 (by decide) ?_
          exact ih2 _ hf _ _ hP hD hS _ (lv_sub hl [1, 2, 0] rfl)
        · have hf := of_pos hf c5
          refine lv_iload_n hx hb dX11_pairOf_29 rfl (lv_at hl 2 rfl) ?_
          cases hf
          exact ret_i hx hb hr hlk hK hP hD hS dX11_pairOf_30
  refine lv_iconst (v := (0 : Int32)) hx hb dX11_pairOf_0 (by decide) ?_
  refine lv_istore_n (lv' := [(2, .int (0 : Int32)), (0, .ref h0), (1, .int b1)]) hx hb dX11_pairOf_1 rfl hl (by decide) rfl (fun ls hl => ?_)
  exact kL2 _ _ _ hf _ _ hP hD hS _ (lv_sub hl [1, 2, 0] rfl)
theorem yk_X11_pairOf : ykV yX11_pairOf RX11 cX11_pairOf 3 (some .int) 1 := ⟨wd_1657, wd_87, wd_142, wd_1658, rfl, by decide +kernel, by decide +kernel, by decide +kernel⟩
theorem dX11_turnRead_0 : decode cX11_turnRead 0 = .ok (.aload_n 0, 1) := by decide +kernel
theorem dX11_turnRead_1 : decode cX11_turnRead 1 = .ok (.iload_n 1, 1) := by decide +kernel
theorem dX11_turnRead_2 : decode cX11_turnRead 2 = .ok (.invokevirtual 272, 3) := by decide +kernel
theorem dX11_turnRead_5 : decode cX11_turnRead 5 = .ok (.ifCond .eq 18, 3) := by decide +kernel
theorem dX11_turnRead_8 : decode cX11_turnRead 8 = .ok (.aload_n 0, 1) := by decide +kernel
theorem dX11_turnRead_9 : decode cX11_turnRead 9 = .ok (.dup, 1) := by decide +kernel
theorem dX11_turnRead_10 : decode cX11_turnRead 10 = .ok (.getfield 290, 3) := by decide +kernel
theorem dX11_turnRead_13 : decode cX11_turnRead 13 = .ok (.iconst 1, 1) := by decide +kernel
theorem dX11_turnRead_14 : decode cX11_turnRead 14 = .ok (.iload_n 1, 1) := by decide +kernel
theorem dX11_turnRead_15 : decode cX11_turnRead 15 = .ok (.ishl, 1) := by decide +kernel
theorem dX11_turnRead_16 : decode cX11_turnRead 16 = .ok (.ixor, 1) := by decide +kernel
theorem dX11_turnRead_17 : decode cX11_turnRead 17 = .ok (.putfield 290, 3) := by decide +kernel
theorem dX11_turnRead_20 : decode cX11_turnRead 20 = .ok (.goto 20, 3) := by decide +kernel
theorem dX11_turnRead_23 : decode cX11_turnRead 23 = .ok (.aload_n 0, 1) := by decide +kernel
theorem dX11_turnRead_24 : decode cX11_turnRead 24 = .ok (.dup, 1) := by decide +kernel
theorem dX11_turnRead_25 : decode cX11_turnRead 25 = .ok (.getfield 293, 3) := by decide +kernel
theorem dX11_turnRead_28 : decode cX11_turnRead 28 = .ok (.iconst 1, 1) := by decide +kernel
theorem dX11_turnRead_29 : decode cX11_turnRead 29 = .ok (.iload_n 1, 1) := by decide +kernel
theorem dX11_turnRead_30 : decode cX11_turnRead 30 = .ok (.aload_n 0, 1) := by decide +kernel
theorem dX11_turnRead_31 : decode cX11_turnRead 31 = .ok (.invokevirtual 221, 3) := by decide +kernel
theorem dX11_turnRead_34 : decode cX11_turnRead 34 = .ok (.isub, 1) := by decide +kernel
theorem dX11_turnRead_35 : decode cX11_turnRead 35 = .ok (.ishl, 1) := by decide +kernel
theorem dX11_turnRead_36 : decode cX11_turnRead 36 = .ok (.ixor, 1) := by decide +kernel
theorem dX11_turnRead_37 : decode cX11_turnRead 37 = .ok (.putfield 293, 3) := by decide +kernel
theorem dX11_turnRead_40 : decode cX11_turnRead 40 = .ok (.return_, 1) := by decide +kernel
def wW_X11_turnRead (G : GG) (h0 h1 y0_0 y0_2 y0_3 y0_4 y0_6 y0_18 y0_21 y0_22 y0_23 y0_24 y0_25 y0_26 y0_33 y0_34 y0_38 y0_39 y0_40 y0_41 y0_42 y0_43 y0_45 y0_46 y0_47 y0_48 : Nat) (x0_5 : Int32) (x0_7 : Int32) (x0_8 : Int32) (x0_9 : Int32) (x0_10 : Int32) (x0_11 : Int32) (x0_12 : Int32) (x0_13 : Int32) (x0_14 : Int32) (x0_15 : Int32) (x0_16 : Int32) (x0_17 : Int32) (x0_19 : Int32) (x0_20 : Int32) (x0_27 : Int32) (x0_28 : Int32) (x0_29 : Int32) (x0_30 : Int32) (x0_31 : Int32) (x0_32 : Int32) (x0_35 : Int32) (x0_36 : Int32) (x0_37 : Int32) (x0_44 : Int32) (x0_49 : Int32) (x0_50 : Int32) (a1 : Nat → Int32) : va_W := [(h0, .inr (11, [.ref y0_0, .ref h1, .ref y0_2, .ref y0_3, .ref y0_4, .int x0_5, .ref y0_6, .int x0_7, .int x0_8, .int x0_9, .int x0_10, .int x0_11, .int x0_12, .int x0_13, .int x0_14, .int x0_15, .int x0_16, .int x0_17, .ref y0_18, .int x0_19, .int x0_20, .ref y0_21, .ref y0_22, .ref y0_23, .ref y0_24, .ref y0_25, .ref y0_26, .int x0_27, .int x0_28, .int x0_29, .int x0_30, .int x0_31, .int x0_32, .ref y0_33, .ref y0_34, .int x0_35, .int x0_36, .int x0_37, .ref y0_38, .ref y0_39, .ref y0_40, .ref y0_41, .ref y0_42, .ref y0_43, .int x0_44, .ref y0_45, .ref y0_46, .ref y0_47, .ref y0_48, .int x0_49, .int x0_50])), (h1, .inl (G.2.1, 2, .inl a1))]
set_option maxHeartbeats 4000000 in
set_option maxRecDepth 100000 in
theorem c_X11_turnRead (l : Launch) (G : GG) (h0 h1 y0_0 y0_2 y0_3 y0_4 y0_6 y0_18 y0_21 y0_22 y0_23 y0_24 y0_25 y0_26 y0_33 y0_34 y0_38 y0_39 y0_40 y0_41 y0_42 y0_43 y0_45 y0_46 y0_47 y0_48 : Nat) (sz : Nat) (x0_5 : Int32) (x0_7 : Int32) (x0_8 : Int32) (x0_9 : Int32) (x0_10 : Int32) (x0_11 : Int32) (x0_12 : Int32) (x0_13 : Int32) (x0_14 : Int32) (x0_15 : Int32) (x0_16 : Int32) (x0_17 : Int32) (x0_19 : Int32) (x0_20 : Int32) (x0_27 : Int32) (x0_28 : Int32) (x0_29 : Int32) (x0_30 : Int32) (x0_31 : Int32) (x0_32 : Int32) (x0_35 : Int32) (x0_36 : Int32) (x0_37 : Int32) (x0_44 : Int32) (x0_49 : Int32) (x0_50 : Int32) (a1 : Nat → Int32) (F : Nat) (b1 : Int32)  (e_x0_31 : Int32) (e_x0_32 : Int32) (hf : p_X11_turnRead F x0_5 x0_31 x0_32 a1 b1 = some (e_x0_31, e_x0_32)) : Met l yX11_turnRead (.code yX11_turnRead cX11_turnRead 2 none :: gtbl) ({ frames := 2, cells := 0, slots := 0, locals := 43 } : Room) (PcS G [.ref h0, .int b1] (wW_X11_turnRead G h0 h1 y0_0 y0_2 y0_3 y0_4 y0_6 y0_18 y0_21 y0_22 y0_23 y0_24 y0_25 y0_26 y0_33 y0_34 y0_38 y0_39 y0_40 y0_41 y0_42 y0_43 y0_45 y0_46 y0_47 y0_48 x0_5 x0_7 x0_8 x0_9 x0_10 x0_11 x0_12 x0_13 x0_14 x0_15 x0_16 x0_17 x0_19 x0_20 x0_27 x0_28 x0_29 x0_30 x0_31 x0_32 x0_35 x0_36 x0_37 x0_44 x0_49 x0_50 a1) sz) (QvS G (va_A (wW_X11_turnRead G h0 h1 y0_0 y0_2 y0_3 y0_4 y0_6 y0_18 y0_21 y0_22 y0_23 y0_24 y0_25 y0_26 y0_33 y0_34 y0_38 y0_39 y0_40 y0_41 y0_42 y0_43 y0_45 y0_46 y0_47 y0_48 x0_5 x0_7 x0_8 x0_9 x0_10 x0_11 x0_12 x0_13 x0_14 x0_15 x0_16 x0_17 x0_19 x0_20 x0_27 x0_28 x0_29 x0_30 x0_31 x0_32 x0_35 x0_36 x0_37 x0_44 x0_49 x0_50 a1) sz) (wW_X11_turnRead G h0 h1 y0_0 y0_2 y0_3 y0_4 y0_6 y0_18 y0_21 y0_22 y0_23 y0_24 y0_25 y0_26 y0_33 y0_34 y0_38 y0_39 y0_40 y0_41 y0_42 y0_43 y0_45 y0_46 y0_47 y0_48 x0_5 x0_7 x0_8 x0_9 x0_10 x0_11 x0_12 x0_13 x0_14 x0_15 x0_16 x0_17 x0_19 x0_20 x0_27 x0_28 x0_29 x0_30 e_x0_31 e_x0_32 x0_35 x0_36 x0_37 x0_44 x0_49 x0_50 a1)) 0 0 (va_A (wW_X11_turnRead G h0 h1 y0_0 y0_2 y0_3 y0_4 y0_6 y0_18 y0_21 y0_22 y0_23 y0_24 y0_25 y0_26 y0_33 y0_34 y0_38 y0_39 y0_40 y0_41 y0_42 y0_43 y0_45 y0_46 y0_47 y0_48 x0_5 x0_7 x0_8 x0_9 x0_10 x0_11 x0_12 x0_13 x0_14 x0_15 x0_16 x0_17 x0_19 x0_20 x0_27 x0_28 x0_29 x0_30 x0_31 x0_32 x0_35 x0_36 x0_37 x0_44 x0_49 x0_50 a1) sz) := by
  refine met_start (by decide) (Nat.le_of_ble_eq_true rfl) ?_
  intro p e s m below meth c hC hr hlk hnm hK hP hD hA hS hX ls hl
  obtain ⟨hx, hb, hml, hown, ht0⟩ := hC
  have hown : s.vm.findClass RX11 = some m.cls := hown
  generalize va_A (wW_X11_turnRead G h0 h1 y0_0 y0_2 y0_3 y0_4 y0_6 y0_18 y0_21 y0_22 y0_23 y0_24 y0_25 y0_26 y0_33 y0_34 y0_38 y0_39 y0_40 y0_41 y0_42 y0_43 y0_45 y0_46 y0_47 y0_48 x0_5 x0_7 x0_8 x0_9 x0_10 x0_11 x0_12 x0_13 x0_14 x0_15 x0_16 x0_17 x0_19 x0_20 x0_27 x0_28 x0_29 x0_30 x0_31 x0_32 x0_35 x0_36 x0_37 x0_44 x0_49 x0_50 a1) sz = A at hD hA hS hX ⊢
  have hl : lv_has ls 2 [(0, .ref h0), (1, .int b1)] := hl
  have hf : p_X11_turnRead F x0_5 x0_31 x0_32 a1 b1 = some (e_x0_31, e_x0_32) := hf
  refine lv_aload_n hx hb dX11_turnRead_0 rfl (lv_at hl 0 rfl) ?_
  refine lv_iload_n hx hb dX11_turnRead_1 rfl (lv_at hl 1 rfl) ?_
  obtain ⟨r_2_0, hc_r_2_0, hf⟩ := of_bnd hf
  refine cl_Vi (w2 := (wW_X11_turnRead G h0 h1 y0_0 y0_2 y0_3 y0_4 y0_6 y0_18 y0_21 y0_22 y0_23 y0_24 y0_25 y0_26 y0_33 y0_34 y0_38 y0_39 y0_40 y0_41 y0_42 y0_43 y0_45 y0_46 y0_47 y0_48 x0_5 x0_7 x0_8 x0_9 x0_10 x0_11 x0_12 x0_13 x0_14 x0_15 x0_16 x0_17 x0_19 x0_20 x0_27 x0_28 x0_29 x0_30 x0_31 x0_32 x0_35 x0_36 x0_37 x0_44 x0_49 x0_50 a1)) (As := [.int b1]) (rest := []) ⟨hx, hb, hml, hown, ht0⟩ (c_X11_isData l G h0 h1 y0_0 y0_2 y0_3 y0_4 y0_6 y0_18 y0_21 y0_22 y0_23 y0_24 y0_25 y0_26 y0_33 y0_34 y0_38 y0_39 y0_40 y0_41 y0_42 y0_43 y0_45 y0_46 y0_47 y0_48 _ x0_5 x0_7 x0_8 x0_9 x0_10 x0_11 x0_12 x0_13 x0_14 x0_15 x0_16 x0_17 x0_19 x0_20 x0_27 x0_28 x0_29 x0_30 x0_31 x0_32 x0_35 x0_36 x0_37 x0_44 x0_49 x0_50 a1 F b1 _ hc_r_2_0) yk_X11_isData wd_1615 ⟨rfl, rfl, by decide, by decide⟩ ⟨Nat.le_refl _, Nat.le_refl _⟩ hX hK hP hD hS hA [0, 1] [] [0, 1] (va_recv hK hP (ci := 11) (q0 := 0) rfl rfl) rfl rfl (by decide) rfl rfl rfl rfl rfl hl.1 rfl (Nat.le_of_ble_eq_true rfl) dX11_turnRead_2 (fun H locs hP hD hS => ?_)
  refine lv_if_eq (tgt := 23) hx hb dX11_turnRead_5 (by decide) (fun c2 => ?_) (fun c2 => ?_)
  · have hf := of_pos hf c2
    refine lv_aload_n hx hb dX11_turnRead_23 rfl (lv_at hl 0 rfl) ?_
    refine lv_dup hx hb dX11_turnRead_24 rfl ?_
    refine va_get (ci := 11) (v := .int x0_32) (C := RX11) (T := TX11) (N := 51) hx hb ht0 iX11 hown hK hP 0 rfl rfl 32 (by decide) (ht0 _ wd_1438) (fun _ h9 => h9) rfl dX11_turnRead_25 ?_
    refine lv_iconst (v := (1 : Int32)) hx hb dX11_turnRead_28 (by decide) ?_
    refine lv_iload_n hx hb dX11_turnRead_29 rfl (lv_at hl 1 rfl) ?_
    refine lv_aload_n hx hb dX11_turnRead_30 rfl (lv_at hl 0 rfl) ?_
    obtain ⟨r_31_2, hc_r_31_2, hf⟩ := of_bnd hf
    refine cl_Vi (w2 := (wW_X11_turnRead G h0 h1 y0_0 y0_2 y0_3 y0_4 y0_6 y0_18 y0_21 y0_22 y0_23 y0_24 y0_25 y0_26 y0_33 y0_34 y0_38 y0_39 y0_40 y0_41 y0_42 y0_43 y0_45 y0_46 y0_47 y0_48 x0_5 x0_7 x0_8 x0_9 x0_10 x0_11 x0_12 x0_13 x0_14 x0_15 x0_16 x0_17 x0_19 x0_20 x0_27 x0_28 x0_29 x0_30 x0_31 x0_32 x0_35 x0_36 x0_37 x0_44 x0_49 x0_50 a1)) (As := []) (rest := [.int b1, .int (1 : Int32), .int x0_32, .ref h0]) ⟨hx, hb, hml, hown, ht0⟩ (c_X11_dataNow l G h0 h1 y0_0 y0_2 y0_3 y0_4 y0_6 y0_18 y0_21 y0_22 y0_23 y0_24 y0_25 y0_26 y0_33 y0_34 y0_38 y0_39 y0_40 y0_41 y0_42 y0_43 y0_45 y0_46 y0_47 y0_48 _ x0_5 x0_7 x0_8 x0_9 x0_10 x0_11 x0_12 x0_13 x0_14 x0_15 x0_16 x0_17 x0_19 x0_20 x0_27 x0_28 x0_29 x0_30 x0_31 x0_32 x0_35 x0_36 x0_37 x0_44 x0_49 x0_50 a1 F _ hc_r_31_2) yk_X11_dataNow wd_1398 ⟨rfl, rfl, by decide, by decide⟩ ⟨Nat.le_refl _, Nat.le_refl _⟩ hX hK hP hD hS hA [0, 1] [] [0, 1] (va_recv hK hP (ci := 11) (q0 := 0) rfl rfl) rfl rfl (by decide) rfl rfl rfl rfl rfl hl.1 rfl (Nat.le_of_ble_eq_true rfl) dX11_turnRead_31 (fun H locs hP hD hS => ?_)
    refine lv_isub hx hb dX11_turnRead_34 ?_
    refine lv_ishl hx hb dX11_turnRead_35 ?_
    refine lv_ixor hx hb dX11_turnRead_36 ?_
    refine va_put (ci := 11) (v := .int (x0_32 ^^^ ((1 : Int32) <<< ((b1 - r_31_2) &&& 31)))) (ty := .int) (C := RX11) (T := TX11) (N := 51) hx hb ht0 iX11 tyX11 tyX11_ok nmX11 hown hK hP hD hS 0 rfl rfl 32 (by decide) (ht0 _ wd_1438) (fun _ h9 => h9) rfl rfl rfl rfl (Nat.le_of_ble_eq_true rfl) dX11_turnRead_37 (fun H locs hP hD hS => ?_)
    have hP : va_P G.1 vwCl (wW_X11_turnRead G h0 h1 y0_0 y0_2 y0_3 y0_4 y0_6 y0_18 y0_21 y0_22 y0_23 y0_24 y0_25 y0_26 y0_33 y0_34 y0_38 y0_39 y0_40 y0_41 y0_42 y0_43 y0_45 y0_46 y0_47 y0_48 x0_5 x0_7 x0_8 x0_9 x0_10 x0_11 x0_12 x0_13 x0_14 x0_15 x0_16 x0_17 x0_19 x0_20 x0_27 x0_28 x0_29 x0_30 x0_31 (x0_32 ^^^ ((1 : Int32) <<< ((b1 - r_31_2) &&& 31))) x0_35 x0_36 x0_37 x0_44 x0_49 x0_50 a1) H := hP
    have hD : va_D A (wW_X11_turnRead G h0 h1 y0_0 y0_2 y0_3 y0_4 y0_6 y0_18 y0_21 y0_22 y0_23 y0_24 y0_25 y0_26 y0_33 y0_34 y0_38 y0_39 y0_40 y0_41 y0_42 y0_43 y0_45 y0_46 y0_47 y0_48 x0_5 x0_7 x0_8 x0_9 x0_10 x0_11 x0_12 x0_13 x0_14 x0_15 x0_16 x0_17 x0_19 x0_20 x0_27 x0_28 x0_29 x0_30 x0_31 (x0_32 ^^^ ((1 : Int32) <<< ((b1 - r_31_2) &&& 31))) x0_35 x0_36 x0_37 x0_44 x0_49 x0_50 a1) := hD
    cases hf
    exact ret_v hx hb hr hlk hK hP hD hS dX11_turnRead_40
  · have hf := of_neg hf c2
    refine lv_aload_n hx hb dX11_turnRead_8 rfl (lv_at hl 0 rfl) ?_
    refine lv_dup hx hb dX11_turnRead_9 rfl ?_
    refine va_get (ci := 11) (v := .int x0_31) (C := RX11) (T := TX11) (N := 51) hx hb ht0 iX11 hown hK hP 0 rfl rfl 31 (by decide) (ht0 _ wd_1437) (fun _ h9 => h9) rfl dX11_turnRead_10 ?_
    refine lv_iconst (v := (1 : Int32)) hx hb dX11_turnRead_13 (by decide) ?_
    refine lv_iload_n hx hb dX11_turnRead_14 rfl (lv_at hl 1 rfl) ?_
    refine lv_ishl hx hb dX11_turnRead_15 ?_
    refine lv_ixor hx hb dX11_turnRead_16 ?_
    refine va_put (ci := 11) (v := .int (x0_31 ^^^ ((1 : Int32) <<< (b1 &&& 31)))) (ty := .int) (C := RX11) (T := TX11) (N := 51) hx hb ht0 iX11 tyX11 tyX11_ok nmX11 hown hK hP hD hS 0 rfl rfl 31 (by decide) (ht0 _ wd_1437) (fun _ h9 => h9) rfl rfl rfl rfl (Nat.le_of_ble_eq_true rfl) dX11_turnRead_17 (fun H locs hP hD hS => ?_)
    have hP : va_P G.1 vwCl (wW_X11_turnRead G h0 h1 y0_0 y0_2 y0_3 y0_4 y0_6 y0_18 y0_21 y0_22 y0_23 y0_24 y0_25 y0_26 y0_33 y0_34 y0_38 y0_39 y0_40 y0_41 y0_42 y0_43 y0_45 y0_46 y0_47 y0_48 x0_5 x0_7 x0_8 x0_9 x0_10 x0_11 x0_12 x0_13 x0_14 x0_15 x0_16 x0_17 x0_19 x0_20 x0_27 x0_28 x0_29 x0_30 (x0_31 ^^^ ((1 : Int32) <<< (b1 &&& 31))) x0_32 x0_35 x0_36 x0_37 x0_44 x0_49 x0_50 a1) H := hP
    have hD : va_D A (wW_X11_turnRead G h0 h1 y0_0 y0_2 y0_3 y0_4 y0_6 y0_18 y0_21 y0_22 y0_23 y0_24 y0_25 y0_26 y0_33 y0_34 y0_38 y0_39 y0_40 y0_41 y0_42 y0_43 y0_45 y0_46 y0_47 y0_48 x0_5 x0_7 x0_8 x0_9 x0_10 x0_11 x0_12 x0_13 x0_14 x0_15 x0_16 x0_17 x0_19 x0_20 x0_27 x0_28 x0_29 x0_30 (x0_31 ^^^ ((1 : Int32) <<< (b1 &&& 31))) x0_32 x0_35 x0_36 x0_37 x0_44 x0_49 x0_50 a1) := hD
    refine lv_goto (tgt := 40) hx hb dX11_turnRead_20 (by decide) ?_
    cases hf
    exact ret_v hx hb hr hlk hK hP hD hS dX11_turnRead_40
theorem yk_X11_turnRead : ykV yX11_turnRead RX11 cX11_turnRead 2 none 1 := ⟨wd_1645, wd_84, wd_142, wd_1646, rfl, by decide +kernel, by decide +kernel, by decide +kernel⟩
