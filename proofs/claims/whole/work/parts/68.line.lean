theorem dX6_copyFrom_0 : decode cX6_copyFrom 0 = .ok (.aload_n 0, 1) := by decide +kernel
theorem dX6_copyFrom_1 : decode cX6_copyFrom 1 = .ok (.getfield 10, 3) := by decide +kernel
theorem dX6_copyFrom_4 : decode cX6_copyFrom 4 = .ok (.aload_n 1, 1) := by decide +kernel
theorem dX6_copyFrom_5 : decode cX6_copyFrom 5 = .ok (.getfield 10, 3) := by decide +kernel
theorem dX6_copyFrom_8 : decode cX6_copyFrom 8 = .ok (.invokevirtual 23, 3) := by decide +kernel
theorem dX6_copyFrom_11 : decode cX6_copyFrom 11 = .ok (.aload_n 0, 1) := by decide +kernel
theorem dX6_copyFrom_12 : decode cX6_copyFrom 12 = .ok (.getfield 19, 3) := by decide +kernel
theorem dX6_copyFrom_15 : decode cX6_copyFrom 15 = .ok (.aload_n 1, 1) := by decide +kernel
theorem dX6_copyFrom_16 : decode cX6_copyFrom 16 = .ok (.getfield 19, 3) := by decide +kernel
theorem dX6_copyFrom_19 : decode cX6_copyFrom 19 = .ok (.invokevirtual 27, 3) := by decide +kernel
theorem dX6_copyFrom_22 : decode cX6_copyFrom 22 = .ok (.return_, 1) := by decide +kernel
def wW_X6_copyFrom (G : GG) (h0 h1 h2 h3 h4 h5 h6 h7 h8 h9 h10 h11 h12 h13 h14 h15 h16 h17 h18 h19 : Nat) (x0_0 : Int32) (x0_1 : Int32) (x0_2 : Int32) (a1 : Nat → Int32) (a2 : Nat → Int32) (a3 : Nat → Int32) (a5 : Nat → Int32) (a6 : Nat → Int32) (a7 : Nat → Int32) (a8 : Nat → Int32) (a9 : Nat → Int32) (x10_0 : Int32) (x10_1 : Int32) (x10_2 : Int32) (a11 : Nat → Int32) (a12 : Nat → Int32) (a13 : Nat → Int32) (a15 : Nat → Int32) (a16 : Nat → Int32) (a17 : Nat → Int32) (a18 : Nat → Int32) (a19 : Nat → Int32) : va_W := [(h0, .inr (1, [.int x0_0, .int x0_1, .int x0_2, .ref h1, .ref h2, .ref h3])), (h1, .inl (G.2.1, 32, .inl a1)), (h2, .inl (G.2.1, 256, .inl a2)), (h3, .inl (G.2.1, 256, .inl a3)), (h4, .inr (9, [.ref h5, .ref h6, .ref h7, .ref h8, .ref h9])), (h5, .inl (G.2.1, 16, .inl a5)), (h6, .inl (G.2.1, 16, .inl a6)), (h7, .inl (G.2.1, 16, .inl a7)), (h8, .inl (G.2.1, 16, .inl a8)), (h9, .inl (G.2.1, 8, .inl a9)), (h10, .inr (1, [.int x10_0, .int x10_1, .int x10_2, .ref h11, .ref h12, .ref h13])), (h11, .inl (G.2.1, 32, .inl a11)), (h12, .inl (G.2.1, 256, .inl a12)), (h13, .inl (G.2.1, 256, .inl a13)), (h14, .inr (9, [.ref h15, .ref h16, .ref h17, .ref h18, .ref h19])), (h15, .inl (G.2.1, 16, .inl a15)), (h16, .inl (G.2.1, 16, .inl a16)), (h17, .inl (G.2.1, 16, .inl a17)), (h18, .inl (G.2.1, 16, .inl a18)), (h19, .inl (G.2.1, 8, .inl a19))]
set_option maxHeartbeats 4000000 in
set_option maxRecDepth 100000 in
theorem c_X6_copyFrom (l : Launch) (G : GG) (h0 h1 h2 h3 h4 h5 h6 h7 h8 h9 h10 h11 h12 h13 h14 h15 h16 h17 h18 h19 g_t g_p1 : Nat) (sz : Nat) (x0_0 : Int32) (x0_1 : Int32) (x0_2 : Int32) (a1 : Nat → Int32) (a2 : Nat → Int32) (a3 : Nat → Int32) (a5 : Nat → Int32) (a6 : Nat → Int32) (a7 : Nat → Int32) (a8 : Nat → Int32) (a9 : Nat → Int32) (x10_0 : Int32) (x10_1 : Int32) (x10_2 : Int32) (a11 : Nat → Int32) (a12 : Nat → Int32) (a13 : Nat → Int32) (a15 : Nat → Int32) (a16 : Nat → Int32) (a17 : Nat → Int32) (a18 : Nat → Int32) (a19 : Nat → Int32) (F : Nat)  (hq_t : (g_t, h0, h4) ∈ gS G) (hq_p1 : (g_p1, h10, h14) ∈ gS G)  (e_x0_0 : Int32) (e_x0_1 : Int32) (e_x0_2 : Int32) (e_a1 : Nat → Int32) (e_a2 : Nat → Int32) (e_a3 : Nat → Int32) (e_a5 : Nat → Int32) (e_a6 : Nat → Int32) (e_a7 : Nat → Int32) (e_a8 : Nat → Int32) (e_a9 : Nat → Int32) (hf : p_X6_copyFrom F g_t g_p1 x0_0 x0_1 x0_2 a1 a2 a3 a5 a6 a7 a8 a9 x10_0 x10_1 x10_2 a11 a12 a13 a15 a16 a17 a18 a19  = some (e_x0_0, e_x0_1, e_x0_2, e_a1, e_a2, e_a3, e_a5, e_a6, e_a7, e_a8, e_a9)) : Met l yX6_copyFrom (.code yX6_copyFrom cX6_copyFrom 2 none :: gtbl) ({ frames := 2, cells := 0, slots := 0, locals := 69 } : Room) (PcS G [.ref g_t, .ref g_p1] (wW_X6_copyFrom G h0 h1 h2 h3 h4 h5 h6 h7 h8 h9 h10 h11 h12 h13 h14 h15 h16 h17 h18 h19 x0_0 x0_1 x0_2 a1 a2 a3 a5 a6 a7 a8 a9 x10_0 x10_1 x10_2 a11 a12 a13 a15 a16 a17 a18 a19) sz) (QvS G (va_A (wW_X6_copyFrom G h0 h1 h2 h3 h4 h5 h6 h7 h8 h9 h10 h11 h12 h13 h14 h15 h16 h17 h18 h19 x0_0 x0_1 x0_2 a1 a2 a3 a5 a6 a7 a8 a9 x10_0 x10_1 x10_2 a11 a12 a13 a15 a16 a17 a18 a19) sz) (wW_X6_copyFrom G h0 h1 h2 h3 h4 h5 h6 h7 h8 h9 h10 h11 h12 h13 h14 h15 h16 h17 h18 h19 e_x0_0 e_x0_1 e_x0_2 e_a1 e_a2 e_a3 e_a5 e_a6 e_a7 e_a8 e_a9 x10_0 x10_1 x10_2 a11 a12 a13 a15 a16 a17 a18 a19)) 0 0 (va_A (wW_X6_copyFrom G h0 h1 h2 h3 h4 h5 h6 h7 h8 h9 h10 h11 h12 h13 h14 h15 h16 h17 h18 h19 x0_0 x0_1 x0_2 a1 a2 a3 a5 a6 a7 a8 a9 x10_0 x10_1 x10_2 a11 a12 a13 a15 a16 a17 a18 a19) sz) := by
  refine met_start (by decide) (Nat.le_of_ble_eq_true rfl) ?_
  intro p e s m below meth c hC hr hlk hnm hK hP hD hA hS hX ls hl
  obtain ⟨hx, hb, hml, hown, ht0⟩ := hC
  have hown : s.vm.findClass RX6 = some m.cls := hown
  generalize va_A (wW_X6_copyFrom G h0 h1 h2 h3 h4 h5 h6 h7 h8 h9 h10 h11 h12 h13 h14 h15 h16 h17 h18 h19 x0_0 x0_1 x0_2 a1 a2 a3 a5 a6 a7 a8 a9 x10_0 x10_1 x10_2 a11 a12 a13 a15 a16 a17 a18 a19) sz = A at hD hA hS hX ⊢
  have hl : lv_has ls 2 [(0, .ref g_t), (1, .ref g_p1)] := hl
  have hf : p_X6_copyFrom F g_t g_p1 x0_0 x0_1 x0_2 a1 a2 a3 a5 a6 a7 a8 a9 x10_0 x10_1 x10_2 a11 a12 a13 a15 a16 a17 a18 a19  = some (e_x0_0, e_x0_1, e_x0_2, e_a1, e_a2, e_a3, e_a5, e_a6, e_a7, e_a8, e_a9) := hf
  refine lv_aload_n hx hb dX6_copyFrom_0 rfl (lv_at hl 0 rfl) ?_
  refine vk_getf hx hb (hX.2.2 _ hq_t).2.1 hS hown (ht0 _ wd_341) (fun _ h => h) dX6_copyFrom_1 ?_
  refine lv_aload_n hx hb dX6_copyFrom_4 rfl (lv_at hl 1 rfl) ?_
  refine vk_getf hx hb (hX.2.2 _ hq_p1).2.1 hS hown (ht0 _ wd_341) (fun _ h => h) dX6_copyFrom_5 ?_
  obtain ⟨⟨r_8_0_x0_0, r_8_0_x0_1, r_8_0_x0_2, r_8_0_a1, r_8_0_a2, r_8_0_a3⟩, hc_r_8_0, hf⟩ := of_bnd hf
  refine cl_Vv (w2 := (wW_X6_copyFrom G h0 h1 h2 h3 h4 h5 h6 h7 h8 h9 h10 h11 h12 h13 h14 h15 h16 h17 h18 h19 r_8_0_x0_0 r_8_0_x0_1 r_8_0_x0_2 r_8_0_a1 r_8_0_a2 r_8_0_a3 a5 a6 a7 a8 a9 x10_0 x10_1 x10_2 a11 a12 a13 a15 a16 a17 a18 a19)) (As := [.ref h10]) (rest := []) ⟨hx, hb, hml, hown, ht0⟩ (c_X1_copyFrom l G h0 h1 h2 h3 h10 h11 h12 h13 _ x0_0 x0_1 x0_2 a1 a2 a3 x10_0 x10_1 x10_2 a11 a12 a13 F _ _ _ _ _ _ hc_r_8_0) yk_X1_copyFrom wd_810 ⟨rfl, rfl, by decide, by decide⟩ ⟨Nat.le_refl _, Nat.le_refl _⟩ hX hK hP hD hS hA [0, 1, 2, 3, 10, 11, 12, 13] [4, 5, 6, 7, 8, 9, 14, 15, 16, 17, 18, 19] [12, 13, 14, 15, 0, 1, 2, 3, 4, 5, 16, 17, 18, 19, 6, 7, 8, 9, 10, 11] (va_recv hK hP (ci := 1) (q0 := 0) rfl rfl) rfl rfl (by decide) rfl rfl rfl rfl rfl hl.1 rfl (Nat.le_of_ble_eq_true rfl) dX6_copyFrom_8 (fun H locs hP hD hS => ?_)
  refine lv_aload_n hx hb dX6_copyFrom_11 rfl (lv_at hl 0 rfl) ?_
  refine vk_getf hx hb (hX.2.2 _ hq_t).2.2 hS hown (ht0 _ wd_343) (fun _ h => h) dX6_copyFrom_12 ?_
  refine lv_aload_n hx hb dX6_copyFrom_15 rfl (lv_at hl 1 rfl) ?_
  refine vk_getf hx hb (hX.2.2 _ hq_p1).2.2 hS hown (ht0 _ wd_343) (fun _ h => h) dX6_copyFrom_16 ?_
  obtain ⟨⟨r_19_1_a1, r_19_1_a2, r_19_1_a3, r_19_1_a4, r_19_1_a5⟩, hc_r_19_1, hf⟩ := of_bnd hf
  refine cl_Vv (w2 := (wW_X6_copyFrom G h0 h1 h2 h3 h4 h5 h6 h7 h8 h9 h10 h11 h12 h13 h14 h15 h16 h17 h18 h19 r_8_0_x0_0 r_8_0_x0_1 r_8_0_x0_2 r_8_0_a1 r_8_0_a2 r_8_0_a3 r_19_1_a1 r_19_1_a2 r_19_1_a3 r_19_1_a4 r_19_1_a5 x10_0 x10_1 x10_2 a11 a12 a13 a15 a16 a17 a18 a19)) (As := [.ref h14]) (rest := []) ⟨hx, hb, hml, hown, ht0⟩ (c_X9_copyFrom l G h4 h5 h6 h7 h8 h9 h14 h15 h16 h17 h18 h19 _ a5 a6 a7 a8 a9 a15 a16 a17 a18 a19 F _ _ _ _ _ hc_r_19_1) yk_X9_copyFrom wd_811 ⟨rfl, rfl, by decide, by decide⟩ ⟨Nat.le_refl _, Nat.le_refl _⟩ hX hK hP hD hS hA [4, 5, 6, 7, 8, 9, 14, 15, 16, 17, 18, 19] [0, 1, 2, 3, 10, 11, 12, 13] [0, 1, 2, 3, 8, 9, 10, 11, 12, 13, 4, 5, 6, 7, 14, 15, 16, 17, 18, 19] (va_recv hK hP (ci := 9) (q0 := 4) rfl rfl) rfl rfl (by decide) rfl rfl rfl rfl rfl hl.1 rfl (Nat.le_of_ble_eq_true rfl) dX6_copyFrom_19 (fun H locs hP hD hS => ?_)
  cases hf
  exact ret_v hx hb hr hlk hK hP hD hS dX6_copyFrom_22
theorem yk_X6_copyFrom : ykV yX6_copyFrom RX6 cX6_copyFrom 2 none 1 := ⟨wd_807, wd_808, wd_133, wd_809, rfl, by decide +kernel, by decide +kernel, by decide +kernel⟩
theorem dX8_now_0 : decode cX8_now 0 = .ok (.aload_n 0, 1) := by decide +kernel
theorem dX8_now_1 : decode cX8_now 1 = .ok (.getfield 11, 3) := by decide +kernel
theorem dX8_now_4 : decode cX8_now 4 = .ok (.aload_n 0, 1) := by decide +kernel
theorem dX8_now_5 : decode cX8_now 5 = .ok (.getfield 16, 3) := by decide +kernel
theorem dX8_now_8 : decode cX8_now 8 = .ok (.aaload, 1) := by decide +kernel
theorem dX8_now_9 : decode cX8_now 9 = .ok (.areturn, 1) := by decide +kernel
def wW_X8_now (G : GG) (h0 h1 : Nat) (x0_1 : Int32) (x0_2 : Int32) (a1 : Nat → Option Nat) : va_W := [(h0, .inr (8, [.ref h1, .int x0_1, .int x0_2])), (h1, .inl (G.2.2.2.2.1, 13, .inr (.inr (.inr (.inr a1)))))]
set_option maxHeartbeats 4000000 in
set_option maxRecDepth 100000 in
theorem c_X8_now (l : Launch) (G : GG) (h0 h1 g_cur y_cur_code y_cur_words : Nat) (sz : Nat) (x0_1 : Int32) (x0_2 : Int32) (a1 : Nat → Option Nat) (F : Nat)  (hq_cur : (g_cur, y_cur_code, y_cur_words) ∈ gS G)   (hf : p_X8_now F g_cur x0_1 a1  = some ()) : Met l yX8_now (.code yX8_now cX8_now 1 (some (.object "OddColumns$State")) :: gtbl) ({ frames := 0, cells := 0, slots := 0, locals := 0 } : Room) (PcS G [.ref h0] (wW_X8_now G h0 h1 x0_1 x0_2 a1) sz) (QrS G g_cur (va_A (wW_X8_now G h0 h1 x0_1 x0_2 a1) sz) (wW_X8_now G h0 h1 x0_1 x0_2 a1)) 0 0 (va_A (wW_X8_now G h0 h1 x0_1 x0_2 a1) sz) := by
  refine met_start (by decide) (Nat.le_of_ble_eq_true rfl) ?_
  intro p e s m below meth c hC hr hlk hnm hK hP hD hA hS hX ls hl
  obtain ⟨hx, hb, hml, hown, ht0⟩ := hC
  have hown : s.vm.findClass RX8 = some m.cls := hown
  generalize va_A (wW_X8_now G h0 h1 x0_1 x0_2 a1) sz = A at hD hA hS hX ⊢
  have hl : lv_has ls 1 [(0, .ref h0)] := hl
  have hf : p_X8_now F g_cur x0_1 a1  = some () := hf
  refine lv_aload_n hx hb dX8_now_0 rfl (lv_at hl 0 rfl) ?_
  refine va_get (ci := 8) (v := .ref h1) (C := RX8) (T := TX8) (N := 3) hx hb ht0 iX8 hown hK hP 0 rfl rfl 0 (by decide) (ht0 _ wd_350) (fun _ h9 => h9) rfl dX8_now_1 ?_
  refine lv_aload_n hx hb dX8_now_4 rfl (lv_at hl 0 rfl) ?_
  refine va_get (ci := 8) (v := .int x0_1) (C := RX8) (T := TX8) (N := 3) hx hb ht0 iX8 hown hK hP 0 rfl rfl 1 (by decide) (ht0 _ wd_351) (fun _ h9 => h9) rfl dX8_now_5 ?_
  obtain ⟨g1, hf⟩ := of_grd hf
  obtain ⟨g2, hf⟩ := of_grd hf
  have g2 := Decidable.not_not.mp g2
  refine va_aldS hx hb hK hP 1 3 rfl rfl g1 g2 dX8_now_8 ?_
  cases hf
  exact ret_r hx hb hr hlk hK hP hD hS dX8_now_9
theorem yk_X8_now : ykV yX8_now RX8 cX8_now 1 (some (.object "OddColumns$State")) 0 := ⟨wd_532, wd_533, wd_132, wd_534, rfl, by decide +kernel, by decide +kernel, by decide +kernel⟩
theorem dX8_beginAct_0 : decode cX8_beginAct 0 = .ok (.aload_n 0, 1) := by decide +kernel
theorem dX8_beginAct_1 : decode cX8_beginAct 1 = .ok (.getfield 16, 3) := by decide +kernel
theorem dX8_beginAct_4 : decode cX8_beginAct 4 = .ok (.bipush 12, 2) := by decide +kernel
theorem dX8_beginAct_6 : decode cX8_beginAct 6 = .ok (.if_icmp .lt 7, 3) := by decide +kernel
theorem dX8_beginAct_9 : decode cX8_beginAct 9 = .ok (.aload_n 0, 1) := by decide +kernel
theorem dX8_beginAct_10 : decode cX8_beginAct 10 = .ok (.invokevirtual 20, 3) := by decide +kernel
theorem dX8_beginAct_13 : decode cX8_beginAct 13 = .ok (.aload_n 0, 1) := by decide +kernel
theorem dX8_beginAct_14 : decode cX8_beginAct 14 = .ok (.getfield 11, 3) := by decide +kernel
theorem dX8_beginAct_17 : decode cX8_beginAct 17 = .ok (.aload_n 0, 1) := by decide +kernel
theorem dX8_beginAct_18 : decode cX8_beginAct 18 = .ok (.getfield 16, 3) := by decide +kernel
theorem dX8_beginAct_21 : decode cX8_beginAct 21 = .ok (.iconst 1, 1) := by decide +kernel
theorem dX8_beginAct_22 : decode cX8_beginAct 22 = .ok (.iadd, 1) := by decide +kernel
theorem dX8_beginAct_23 : decode cX8_beginAct 23 = .ok (.aaload, 1) := by decide +kernel
theorem dX8_beginAct_24 : decode cX8_beginAct 24 = .ok (.aload_n 0, 1) := by decide +kernel
theorem dX8_beginAct_25 : decode cX8_beginAct 25 = .ok (.getfield 11, 3) := by decide +kernel
theorem dX8_beginAct_28 : decode cX8_beginAct 28 = .ok (.aload_n 0, 1) := by decide +kernel
theorem dX8_beginAct_29 : decode cX8_beginAct 29 = .ok (.getfield 16, 3) := by decide +kernel
theorem dX8_beginAct_32 : decode cX8_beginAct 32 = .ok (.aaload, 1) := by decide +kernel
theorem dX8_beginAct_33 : decode cX8_beginAct 33 = .ok (.invokevirtual 23, 3) := by decide +kernel
theorem dX8_beginAct_36 : decode cX8_beginAct 36 = .ok (.aload_n 0, 1) := by decide +kernel
theorem dX8_beginAct_37 : decode cX8_beginAct 37 = .ok (.dup, 1) := by decide +kernel
theorem dX8_beginAct_38 : decode cX8_beginAct 38 = .ok (.getfield 16, 3) := by decide +kernel
theorem dX8_beginAct_41 : decode cX8_beginAct 41 = .ok (.iconst 1, 1) := by decide +kernel
theorem dX8_beginAct_42 : decode cX8_beginAct 42 = .ok (.iadd, 1) := by decide +kernel
theorem dX8_beginAct_43 : decode cX8_beginAct 43 = .ok (.putfield 16, 3) := by decide +kernel
theorem dX8_beginAct_46 : decode cX8_beginAct 46 = .ok (.aload_n 0, 1) := by decide +kernel
theorem dX8_beginAct_47 : decode cX8_beginAct 47 = .ok (.aload_n 0, 1) := by decide +kernel
theorem dX8_beginAct_48 : decode cX8_beginAct 48 = .ok (.getfield 16, 3) := by decide +kernel
theorem dX8_beginAct_51 : decode cX8_beginAct 51 = .ok (.putfield 27, 3) := by decide +kernel
theorem dX8_beginAct_54 : decode cX8_beginAct 54 = .ok (.aload_n 0, 1) := by decide +kernel
theorem dX8_beginAct_55 : decode cX8_beginAct 55 = .ok (.getfield 11, 3) := by decide +kernel
theorem dX8_beginAct_58 : decode cX8_beginAct 58 = .ok (.aload_n 0, 1) := by decide +kernel
theorem dX8_beginAct_59 : decode cX8_beginAct 59 = .ok (.getfield 16, 3) := by decide +kernel
theorem dX8_beginAct_62 : decode cX8_beginAct 62 = .ok (.aaload, 1) := by decide +kernel
theorem dX8_beginAct_63 : decode cX8_beginAct 63 = .ok (.areturn, 1) := by decide +kernel
def wW_X8_beginAct (G : GG) (h0 h1 h2 h3 h4 h5 h6 h7 h8 h9 h10 h11 h12 h13 h14 h15 h16 h17 h18 h19 h20 h21 : Nat) (x0_1 : Int32) (x0_2 : Int32) (a1 : Nat → Option Nat) (x2_0 : Int32) (x2_1 : Int32) (x2_2 : Int32) (a3 : Nat → Int32) (a4 : Nat → Int32) (a5 : Nat → Int32) (a7 : Nat → Int32) (a8 : Nat → Int32) (a9 : Nat → Int32) (a10 : Nat → Int32) (a11 : Nat → Int32) (x12_0 : Int32) (x12_1 : Int32) (x12_2 : Int32) (a13 : Nat → Int32) (a14 : Nat → Int32) (a15 : Nat → Int32) (a17 : Nat → Int32) (a18 : Nat → Int32) (a19 : Nat → Int32) (a20 : Nat → Int32) (a21 : Nat → Int32) : va_W := [(h0, .inr (8, [.ref h1, .int x0_1, .int x0_2])), (h1, .inl (G.2.2.2.2.1, 13, .inr (.inr (.inr (.inr a1))))), (h2, .inr (1, [.int x2_0, .int x2_1, .int x2_2, .ref h3, .ref h4, .ref h5])), (h3, .inl (G.2.1, 32, .inl a3)), (h4, .inl (G.2.1, 256, .inl a4)), (h5, .inl (G.2.1, 256, .inl a5)), (h6, .inr (9, [.ref h7, .ref h8, .ref h9, .ref h10, .ref h11])), (h7, .inl (G.2.1, 16, .inl a7)), (h8, .inl (G.2.1, 16, .inl a8)), (h9, .inl (G.2.1, 16, .inl a9)), (h10, .inl (G.2.1, 16, .inl a10)), (h11, .inl (G.2.1, 8, .inl a11)), (h12, .inr (1, [.int x12_0, .int x12_1, .int x12_2, .ref h13, .ref h14, .ref h15])), (h13, .inl (G.2.1, 32, .inl a13)), (h14, .inl (G.2.1, 256, .inl a14)), (h15, .inl (G.2.1, 256, .inl a15)), (h16, .inr (9, [.ref h17, .ref h18, .ref h19, .ref h20, .ref h21])), (h17, .inl (G.2.1, 16, .inl a17)), (h18, .inl (G.2.1, 16, .inl a18)), (h19, .inl (G.2.1, 16, .inl a19)), (h20, .inl (G.2.1, 16, .inl a20)), (h21, .inl (G.2.1, 8, .inl a21))]
set_option maxHeartbeats 4000000 in
set_option maxRecDepth 100000 in
theorem c_X8_beginAct (l : Launch) (G : GG) (h0 h1 h2 h3 h4 h5 h6 h7 h8 h9 h10 h11 h12 h13 h14 h15 h16 h17 h18 h19 h20 h21 g_cur g_nxt : Nat) (sz : Nat) (x0_1 : Int32) (x0_2 : Int32) (a1 : Nat → Option Nat) (x2_0 : Int32) (x2_1 : Int32) (x2_2 : Int32) (a3 : Nat → Int32) (a4 : Nat → Int32) (a5 : Nat → Int32) (a7 : Nat → Int32) (a8 : Nat → Int32) (a9 : Nat → Int32) (a10 : Nat → Int32) (a11 : Nat → Int32) (x12_0 : Int32) (x12_1 : Int32) (x12_2 : Int32) (a13 : Nat → Int32) (a14 : Nat → Int32) (a15 : Nat → Int32) (a17 : Nat → Int32) (a18 : Nat → Int32) (a19 : Nat → Int32) (a20 : Nat → Int32) (a21 : Nat → Int32) (F : Nat)  (hq_cur : (g_cur, h2, h6) ∈ gS G) (hq_nxt : (g_nxt, h12, h16) ∈ gS G) (hall : stAll G a1)  (e_x0_1 : Int32) (e_x0_2 : Int32) (e_a1 : Nat → Option Nat) (e_x12_0 : Int32) (e_x12_1 : Int32) (e_x12_2 : Int32) (e_a13 : Nat → Int32) (e_a14 : Nat → Int32) (e_a15 : Nat → Int32) (e_a17 : Nat → Int32) (e_a18 : Nat → Int32) (e_a19 : Nat → Int32) (e_a20 : Nat → Int32) (e_a21 : Nat → Int32) (hf : p_X8_beginAct F g_cur g_nxt x0_1 x0_2 a1 x2_0 x2_1 x2_2 a3 a4 a5 a7 a8 a9 a10 a11 x12_0 x12_1 x12_2 a13 a14 a15 a17 a18 a19 a20 a21  = some (e_x0_1, e_x0_2, e_a1, e_x12_0, e_x12_1, e_x12_2, e_a13, e_a14, e_a15, e_a17, e_a18, e_a19, e_a20, e_a21)) : Met l yX8_beginAct (.code yX8_beginAct cX8_beginAct 1 (some (.object "OddColumns$State")) :: gtbl) ({ frames := 3, cells := 0, slots := 0, locals := 90 } : Room) (PcS G [.ref h0] (wW_X8_beginAct G h0 h1 h2 h3 h4 h5 h6 h7 h8 h9 h10 h11 h12 h13 h14 h15 h16 h17 h18 h19 h20 h21 x0_1 x0_2 a1 x2_0 x2_1 x2_2 a3 a4 a5 a7 a8 a9 a10 a11 x12_0 x12_1 x12_2 a13 a14 a15 a17 a18 a19 a20 a21) sz) (QrS G g_nxt (va_A (wW_X8_beginAct G h0 h1 h2 h3 h4 h5 h6 h7 h8 h9 h10 h11 h12 h13 h14 h15 h16 h17 h18 h19 h20 h21 x0_1 x0_2 a1 x2_0 x2_1 x2_2 a3 a4 a5 a7 a8 a9 a10 a11 x12_0 x12_1 x12_2 a13 a14 a15 a17 a18 a19 a20 a21) sz) (wW_X8_beginAct G h0 h1 h2 h3 h4 h5 h6 h7 h8 h9 h10 h11 h12 h13 h14 h15 h16 h17 h18 h19 h20 h21 e_x0_1 e_x0_2 e_a1 x2_0 x2_1 x2_2 a3 a4 a5 a7 a8 a9 a10 a11 e_x12_0 e_x12_1 e_x12_2 e_a13 e_a14 e_a15 e_a17 e_a18 e_a19 e_a20 e_a21)) 0 0 (va_A (wW_X8_beginAct G h0 h1 h2 h3 h4 h5 h6 h7 h8 h9 h10 h11 h12 h13 h14 h15 h16 h17 h18 h19 h20 h21 x0_1 x0_2 a1 x2_0 x2_1 x2_2 a3 a4 a5 a7 a8 a9 a10 a11 x12_0 x12_1 x12_2 a13 a14 a15 a17 a18 a19 a20 a21) sz) := by
  refine met_start (by decide) (Nat.le_of_ble_eq_true rfl) ?_
  intro p e s m below meth c hC hr hlk hnm hK hP hD hA hS hX ls hl
  obtain ⟨hx, hb, hml, hown, ht0⟩ := hC
  have hown : s.vm.findClass RX8 = some m.cls := hown
  generalize va_A (wW_X8_beginAct G h0 h1 h2 h3 h4 h5 h6 h7 h8 h9 h10 h11 h12 h13 h14 h15 h16 h17 h18 h19 h20 h21 x0_1 x0_2 a1 x2_0 x2_1 x2_2 a3 a4 a5 a7 a8 a9 a10 a11 x12_0 x12_1 x12_2 a13 a14 a15 a17 a18 a19 a20 a21) sz = A at hD hA hS hX ⊢
  have hl : lv_has ls 1 [(0, .ref h0)] := hl
  have hf : p_X8_beginAct F g_cur g_nxt x0_1 x0_2 a1 x2_0 x2_1 x2_2 a3 a4 a5 a7 a8 a9 a10 a11 x12_0 x12_1 x12_2 a13 a14 a15 a17 a18 a19 a20 a21  = some (e_x0_1, e_x0_2, e_a1, e_x12_0, e_x12_1, e_x12_2, e_a13, e_a14, e_a15, e_a17, e_a18, e_a19, e_a20, e_a21) := hf
  have kJ13 : ∀ (x0_1_13 : Int32) (x0_2_13 : Int32) (a1_13 : Nat → Option Nat) (x12_0_13 : Int32) (x12_1_13 : Int32) (x12_2_13 : Int32) (a13_13 : Nat → Int32) (a14_13 : Nat → Int32) (a15_13 : Nat → Int32) (a17_13 : Nat → Int32) (a18_13 : Nat → Int32) (a19_13 : Nat → Int32) (a20_13 : Nat → Int32) (a21_13 : Nat → Int32), p_X8_beginAct_J13 F g_cur g_nxt x2_0 x2_1 x2_2 a3 a4 a5 a7 a8 a9 a10 a11 x0_1_13 x0_2_13 a1_13 x12_0_13 x12_1_13 x12_2_13 a13_13 a14_13 a15_13 a17_13 a18_13 a19_13 a20_13 a21_13 = some (e_x0_1, e_x0_2, e_a1, e_x12_0, e_x12_1, e_x12_2, e_a13, e_a14, e_a15, e_a17, e_a18, e_a19, e_a20, e_a21) → ∀ (H : Heap) (locs : List Loc), va_P G.1 vwCl (wW_X8_beginAct G h0 h1 h2 h3 h4 h5 h6 h7 h8 h9 h10 h11 h12 h13 h14 h15 h16 h17 h18 h19 h20 h21 x0_1_13 x0_2_13 a1_13 x2_0 x2_1 x2_2 a3 a4 a5 a7 a8 a9 a10 a11 x12_0_13 x12_1_13 x12_2_13 a13_13 a14_13 a15_13 a17_13 a18_13 a19_13 a20_13 a21_13) H → va_D A (wW_X8_beginAct G h0 h1 h2 h3 h4 h5 h6 h7 h8 h9 h10 h11 h12 h13 h14 h15 h16 h17 h18 h19 h20 h21 x0_1_13 x0_2_13 a1_13 x2_0 x2_1 x2_2 a3 a4 a5 a7 a8 a9 a10 a11 x12_0_13 x12_1_13 x12_2_13 a13_13 a14_13 a15_13 a17_13 a18_13 a19_13 a20_13 a21_13) → va_S A s.heap H locs → ∀ ls : Array Slot, lv_has ls 1 [(0, .ref h0)] → W p l e ({ frames := 3, cells := 0, slots := 0, locals := 90 } : Room) s m (List.toArray [.ref h0]) below meth c H locs 0 0 (MQ below (QrS G g_nxt A (wW_X8_beginAct G h0 h1 h2 h3 h4 h5 h6 h7 h8 h9 h10 h11 h12 h13 h14 h15 h16 h17 h18 h19 h20 h21 e_x0_1 e_x0_2 e_a1 x2_0 x2_1 x2_2 a3 a4 a5 a7 a8 a9 a10 a11 e_x12_0 e_x12_1 e_x12_2 e_a13 e_a14 e_a15 e_a17 e_a18 e_a19 e_a20 e_a21)) (List.toArray [.ref h0]) s 0 0 A) (F0 m 13 ls []) := by
    intro x0_1_13 x0_2_13 a1_13 x12_0_13 x12_1_13 x12_2_13 a13_13 a14_13 a15_13 a17_13 a18_13 a19_13 a20_13 a21_13 hf H locs hP hD hS ls hl
    refine lv_aload_n hx hb dX8_beginAct_13 rfl (lv_at hl 0 rfl) ?_
    refine va_get (ci := 8) (v := .ref h1) (C := RX8) (T := TX8) (N := 3) hx hb ht0 iX8 hown hK hP 0 rfl rfl 0 (by decide) (ht0 _ wd_350) (fun _ h9 => h9) rfl dX8_beginAct_14 ?_
    refine lv_aload_n hx hb dX8_beginAct_17 rfl (lv_at hl 0 rfl) ?_
    refine va_get (ci := 8) (v := .int x0_1_13) (C := RX8) (T := TX8) (N := 3) hx hb ht0 iX8 hown hK hP 0 rfl rfl 1 (by decide) (ht0 _ wd_351) (fun _ h9 => h9) rfl dX8_beginAct_18 ?_
    refine lv_iconst (v := (1 : Int32)) hx hb dX8_beginAct_21 (by decide) ?_
    refine lv_iadd hx hb dX8_beginAct_22 ?_
    obtain ⟨g1, hf⟩ := of_grd hf
    obtain ⟨g2, hf⟩ := of_grd hf
    have g2 := Decidable.not_not.mp g2
    refine va_aldS hx hb hK hP 1 3 rfl rfl g1 g2 dX8_beginAct_23 ?_
    refine lv_aload_n hx hb dX8_beginAct_24 rfl (lv_at hl 0 rfl) ?_
    refine va_get (ci := 8) (v := .ref h1) (C := RX8) (T := TX8) (N := 3) hx hb ht0 iX8 hown hK hP 0 rfl rfl 0 (by decide) (ht0 _ wd_350) (fun _ h9 => h9) rfl dX8_beginAct_25 ?_
    refine lv_aload_n hx hb dX8_beginAct_28 rfl (lv_at hl 0 rfl) ?_
    refine va_get (ci := 8) (v := .int x0_1_13) (C := RX8) (T := TX8) (N := 3) hx hb ht0 iX8 hown hK hP 0 rfl rfl 1 (by decide) (ht0 _ wd_351) (fun _ h9 => h9) rfl dX8_beginAct_29 ?_
    obtain ⟨g3, hf⟩ := of_grd hf
    obtain ⟨g4, hf⟩ := of_grd hf
    have g4 := Decidable.not_not.mp g4
    refine va_aldS hx hb hK hP 1 3 rfl rfl g3 g4 dX8_beginAct_32 ?_
    obtain ⟨⟨r_33_4_x0_0, r_33_4_x0_1, r_33_4_x0_2, r_33_4_a1, r_33_4_a2, r_33_4_a3, r_33_4_a5, r_33_4_a6, r_33_4_a7, r_33_4_a8, r_33_4_a9⟩, hc_r_33_4, hf⟩ := of_bnd hf
    refine cl_Vv (w2 := (wW_X8_beginAct G h0 h1 h2 h3 h4 h5 h6 h7 h8 h9 h10 h11 h12 h13 h14 h15 h16 h17 h18 h19 h20 h21 x0_1_13 x0_2_13 a1_13 x2_0 x2_1 x2_2 a3 a4 a5 a7 a8 a9 a10 a11 r_33_4_x0_0 r_33_4_x0_1 r_33_4_x0_2 r_33_4_a1 r_33_4_a2 r_33_4_a3 r_33_4_a5 r_33_4_a6 r_33_4_a7 r_33_4_a8 r_33_4_a9)) (As := [.ref g_cur]) (rest := []) ⟨hx, hb, hml, hown, ht0⟩ (c_X6_copyFrom l G h12 h13 h14 h15 h16 h17 h18 h19 h20 h21 h2 h3 h4 h5 h6 h7 h8 h9 h10 h11 g_nxt g_cur _ x12_0_13 x12_1_13 x12_2_13 a13_13 a14_13 a15_13 a17_13 a18_13 a19_13 a20_13 a21_13 x2_0 x2_1 x2_2 a3 a4 a5 a7 a8 a9 a10 a11 F hq_nxt hq_cur _ _ _ _ _ _ _ _ _ _ _ hc_r_33_4) yk_X6_copyFrom wd_806 ⟨rfl, rfl, by decide, by decide⟩ ⟨Nat.le_refl _, Nat.le_refl _⟩ hX hK hP hD hS hA [12, 13, 14, 15, 16, 17, 18, 19, 20, 21, 2, 3, 4, 5, 6, 7, 8, 9, 10, 11] [0, 1] [0, 1, 12, 13, 14, 15, 16, 17, 18, 19, 20, 21, 2, 3, 4, 5, 6, 7, 8, 9, 10, 11] ((hX.2.2 _ hq_nxt).recv hS) rfl rfl (by decide) rfl rfl rfl rfl rfl hl.1 rfl (Nat.le_of_ble_eq_true rfl) dX8_beginAct_33 (fun H locs hP hD hS => ?_)
    refine lv_aload_n hx hb dX8_beginAct_36 rfl (lv_at hl 0 rfl) ?_
    refine lv_dup hx hb dX8_beginAct_37 rfl ?_
    refine va_get (ci := 8) (v := .int x0_1_13) (C := RX8) (T := TX8) (N := 3) hx hb ht0 iX8 hown hK hP 0 rfl rfl 1 (by decide) (ht0 _ wd_351) (fun _ h9 => h9) rfl dX8_beginAct_38 ?_
    refine lv_iconst (v := (1 : Int32)) hx hb dX8_beginAct_41 (by decide) ?_
    refine lv_iadd hx hb dX8_beginAct_42 ?_
    refine va_put (ci := 8) (v := .int (x0_1_13 + (1 : Int32))) (ty := .int) (C := RX8) (T := TX8) (N := 3) hx hb ht0 iX8 tyX8 tyX8_ok nmX8 hown hK hP hD hS 0 rfl rfl 1 (by decide) (ht0 _ wd_351) (fun _ h9 => h9) rfl rfl rfl rfl (Nat.le_of_ble_eq_true rfl) dX8_beginAct_43 (fun H locs hP hD hS => ?_)
    have hP : va_P G.1 vwCl (wW_X8_beginAct G h0 h1 h2 h3 h4 h5 h6 h7 h8 h9 h10 h11 h12 h13 h14 h15 h16 h17 h18 h19 h20 h21 (x0_1_13 + (1 : Int32)) x0_2_13 a1_13 x2_0 x2_1 x2_2 a3 a4 a5 a7 a8 a9 a10 a11 r_33_4_x0_0 r_33_4_x0_1 r_33_4_x0_2 r_33_4_a1 r_33_4_a2 r_33_4_a3 r_33_4_a5 r_33_4_a6 r_33_4_a7 r_33_4_a8 r_33_4_a9) H := hP
    have hD : va_D A (wW_X8_beginAct G h0 h1 h2 h3 h4 h5 h6 h7 h8 h9 h10 h11 h12 h13 h14 h15 h16 h17 h18 h19 h20 h21 (x0_1_13 + (1 : Int32)) x0_2_13 a1_13 x2_0 x2_1 x2_2 a3 a4 a5 a7 a8 a9 a10 a11 r_33_4_x0_0 r_33_4_x0_1 r_33_4_x0_2 r_33_4_a1 r_33_4_a2 r_33_4_a3 r_33_4_a5 r_33_4_a6 r_33_4_a7 r_33_4_a8 r_33_4_a9) := hD
    refine lv_aload_n hx hb dX8_beginAct_46 rfl (lv_at hl 0 rfl) ?_
    refine lv_aload_n hx hb dX8_beginAct_47 rfl (lv_at hl 0 rfl) ?_
    refine va_get (ci := 8) (v := .int (x0_1_13 + (1 : Int32))) (C := RX8) (T := TX8) (N := 3) hx hb ht0 iX8 hown hK hP 0 rfl rfl 1 (by decide) (ht0 _ wd_351) (fun _ h9 => h9) rfl dX8_beginAct_48 ?_
    refine va_put (ci := 8) (v := .int (x0_1_13 + (1 : Int32))) (ty := .int) (C := RX8) (T := TX8) (N := 3) hx hb ht0 iX8 tyX8 tyX8_ok nmX8 hown hK hP hD hS 0 rfl rfl 2 (by decide) (ht0 _ wd_353) (fun _ h9 => h9) rfl rfl rfl rfl (Nat.le_of_ble_eq_true rfl) dX8_beginAct_51 (fun H locs hP hD hS => ?_)
    have hP : va_P G.1 vwCl (wW_X8_beginAct G h0 h1 h2 h3 h4 h5 h6 h7 h8 h9 h10 h11 h12 h13 h14 h15 h16 h17 h18 h19 h20 h21 (x0_1_13 + (1 : Int32)) (x0_1_13 + (1 : Int32)) a1_13 x2_0 x2_1 x2_2 a3 a4 a5 a7 a8 a9 a10 a11 r_33_4_x0_0 r_33_4_x0_1 r_33_4_x0_2 r_33_4_a1 r_33_4_a2 r_33_4_a3 r_33_4_a5 r_33_4_a6 r_33_4_a7 r_33_4_a8 r_33_4_a9) H := hP
    have hD : va_D A (wW_X8_beginAct G h0 h1 h2 h3 h4 h5 h6 h7 h8 h9 h10 h11 h12 h13 h14 h15 h16 h17 h18 h19 h20 h21 (x0_1_13 + (1 : Int32)) (x0_1_13 + (1 : Int32)) a1_13 x2_0 x2_1 x2_2 a3 a4 a5 a7 a8 a9 a10 a11 r_33_4_x0_0 r_33_4_x0_1 r_33_4_x0_2 r_33_4_a1 r_33_4_a2 r_33_4_a3 r_33_4_a5 r_33_4_a6 r_33_4_a7 r_33_4_a8 r_33_4_a9) := hD
    refine lv_aload_n hx hb dX8_beginAct_54 rfl (lv_at hl 0 rfl) ?_
    refine va_get (ci := 8) (v := .ref h1) (C := RX8) (T := TX8) (N := 3) hx hb ht0 iX8 hown hK hP 0 rfl rfl 0 (by decide) (ht0 _ wd_350) (fun _ h9 => h9) rfl dX8_beginAct_55 ?_
    refine lv_aload_n hx hb dX8_beginAct_58 rfl (lv_at hl 0 rfl) ?_
    refine va_get (ci := 8) (v := .int (x0_1_13 + (1 : Int32))) (C := RX8) (T := TX8) (N := 3) hx hb ht0 iX8 hown hK hP 0 rfl rfl 1 (by decide) (ht0 _ wd_351) (fun _ h9 => h9) rfl dX8_beginAct_59 ?_
    obtain ⟨g6, hf⟩ := of_grd hf
    obtain ⟨g7, hf⟩ := of_grd hf
    have g7 := Decidable.not_not.mp g7
    refine va_aldS hx hb hK hP 1 3 rfl rfl g6 g7 dX8_beginAct_62 ?_
    cases hf
    exact ret_r hx hb hr hlk hK hP hD hS dX8_beginAct_63
  refine lv_aload_n hx hb dX8_beginAct_0 rfl (lv_at hl 0 rfl) ?_
  refine va_get (ci := 8) (v := .int x0_1) (C := RX8) (T := TX8) (N := 3) hx hb ht0 iX8 hown hK hP 0 rfl rfl 1 (by decide) (ht0 _ wd_351) (fun _ h9 => h9) rfl dX8_beginAct_1 ?_
  refine lv_bipush (v := (12 : Int32)) hx hb dX8_beginAct_4 (by decide) ?_
  refine lv_icmp_lt (tgt := 13) hx hb dX8_beginAct_6 (by decide) (fun c8 => ?_) (fun c8 => ?_)
  · have hf := of_pos hf c8
    exact kJ13 _ _ _ _ _ _ _ _ _ _ _ _ _ _ hf _ _ hP hD hS _ (lv_sub hl [0] rfl)
  · have hf := of_neg hf c8
    refine lv_aload_n hx hb dX8_beginAct_9 rfl (lv_at hl 0 rfl) ?_
    obtain ⟨⟨r_10_8_x0_1, r_10_8_a1⟩, hc_r_10_8, hf⟩ := of_bnd hf
    refine cl_Vv (w2 := (wW_X8_beginAct G h0 h1 h2 h3 h4 h5 h6 h7 h8 h9 h10 h11 h12 h13 h14 h15 h16 h17 h18 h19 h20 h21 r_10_8_x0_1 x0_2 r_10_8_a1 x2_0 x2_1 x2_2 a3 a4 a5 a7 a8 a9 a10 a11 x12_0 x12_1 x12_2 a13 a14 a15 a17 a18 a19 a20 a21)) (As := []) (rest := []) ⟨hx, hb, hml, hown, ht0⟩ (c_X8_dropOldest l G h0 h1 _ x0_1 x0_2 a1 F hall _ _ hc_r_10_8) yk_X8_dropOldest wd_802 ⟨rfl, rfl, by decide, by decide⟩ ⟨Nat.le_refl _, Nat.le_refl _⟩ hX hK hP hD hS hA [0, 1] [2, 3, 4, 5, 6, 7, 8, 9, 10, 11, 12, 13, 14, 15, 16, 17, 18, 19, 20, 21] [20, 21, 0, 1, 2, 3, 4, 5, 6, 7, 8, 9, 10, 11, 12, 13, 14, 15, 16, 17, 18, 19] (va_recv hK hP (ci := 8) (q0 := 0) rfl rfl) rfl rfl (by decide) rfl rfl rfl rfl rfl hl.1 rfl (Nat.le_of_ble_eq_true rfl) dX8_beginAct_10 (fun H locs hP hD hS => ?_)
    exact kJ13 _ _ _ _ _ _ _ _ _ _ _ _ _ _ hf _ _ hP hD hS _ (lv_sub hl [0] rfl)
theorem yk_X8_beginAct : ykV yX8_beginAct RX8 cX8_beginAct 1 (some (.object "OddColumns$State")) 0 := ⟨wd_799, wd_800, wd_132, wd_801, rfl, by decide +kernel, by decide +kernel, by decide +kernel⟩
theorem dX8_stepBack_0 : decode cX8_stepBack 0 = .ok (.aload_n 0, 1) := by decide +kernel
theorem dX8_stepBack_1 : decode cX8_stepBack 1 = .ok (.getfield 16, 3) := by decide +kernel
theorem dX8_stepBack_4 : decode cX8_stepBack 4 = .ok (.ifCond .gt 5, 3) := by decide +kernel
theorem dX8_stepBack_7 : decode cX8_stepBack 7 = .ok (.iconst 0, 1) := by decide +kernel
theorem dX8_stepBack_8 : decode cX8_stepBack 8 = .ok (.ireturn, 1) := by decide +kernel
theorem dX8_stepBack_9 : decode cX8_stepBack 9 = .ok (.aload_n 0, 1) := by decide +kernel
theorem dX8_stepBack_10 : decode cX8_stepBack 10 = .ok (.dup, 1) := by decide +kernel
theorem dX8_stepBack_11 : decode cX8_stepBack 11 = .ok (.getfield 16, 3) := by decide +kernel
theorem dX8_stepBack_14 : decode cX8_stepBack 14 = .ok (.iconst 1, 1) := by decide +kernel
theorem dX8_stepBack_15 : decode cX8_stepBack 15 = .ok (.isub, 1) := by decide +kernel
theorem dX8_stepBack_16 : decode cX8_stepBack 16 = .ok (.putfield 16, 3) := by decide +kernel
theorem dX8_stepBack_19 : decode cX8_stepBack 19 = .ok (.iconst 1, 1) := by decide +kernel
theorem dX8_stepBack_20 : decode cX8_stepBack 20 = .ok (.ireturn, 1) := by decide +kernel
def wW_X8_stepBack (G : GG) (h0 y0_0 : Nat) (x0_1 : Int32) (x0_2 : Int32) : va_W := [(h0, .inr (8, [.ref y0_0, .int x0_1, .int x0_2]))]
set_option maxHeartbeats 4000000 in
set_option maxRecDepth 100000 in
theorem c_X8_stepBack (l : Launch) (G : GG) (h0 y0_0 : Nat) (sz : Nat) (x0_1 : Int32) (x0_2 : Int32) (F : Nat)   (r0 : Int32) (e_x0_1 : Int32) (hf : p_X8_stepBack F x0_1  = some (r0, e_x0_1)) : Met l yX8_stepBack (.code yX8_stepBack cX8_stepBack 1 (some .boolean) :: gtbl) ({ frames := 0, cells := 0, slots := 0, locals := 0 } : Room) (PcS G [.ref h0] (wW_X8_stepBack G h0 y0_0 x0_1 x0_2) sz) (QiS G r0 (va_A (wW_X8_stepBack G h0 y0_0 x0_1 x0_2) sz) (wW_X8_stepBack G h0 y0_0 e_x0_1 x0_2)) 0 0 (va_A (wW_X8_stepBack G h0 y0_0 x0_1 x0_2) sz) := by
  refine met_start (by decide) (Nat.le_of_ble_eq_true rfl) ?_
  intro p e s m below meth c hC hr hlk hnm hK hP hD hA hS hX ls hl
  obtain ⟨hx, hb, hml, hown, ht0⟩ := hC
  have hown : s.vm.findClass RX8 = some m.cls := hown
  generalize va_A (wW_X8_stepBack G h0 y0_0 x0_1 x0_2) sz = A at hD hA hS hX ⊢
  have hl : lv_has ls 1 [(0, .ref h0)] := hl
  have hf : p_X8_stepBack F x0_1  = some (r0, e_x0_1) := hf
  refine lv_aload_n hx hb dX8_stepBack_0 rfl (lv_at hl 0 rfl) ?_
  refine va_get (ci := 8) (v := .int x0_1) (C := RX8) (T := TX8) (N := 3) hx hb ht0 iX8 hown hK hP 0 rfl rfl 1 (by decide) (ht0 _ wd_351) (fun _ h9 => h9) rfl dX8_stepBack_1 ?_
  refine lv_if_gt (tgt := 9) hx hb dX8_stepBack_4 (by decide) (fun c1 => ?_) (fun c1 => ?_)
  · have hf := of_pos hf c1
    refine lv_aload_n hx hb dX8_stepBack_9 rfl (lv_at hl 0 rfl) ?_
    refine lv_dup hx hb dX8_stepBack_10 rfl ?_
    refine va_get (ci := 8) (v := .int x0_1) (C := RX8) (T := TX8) (N := 3) hx hb ht0 iX8 hown hK hP 0 rfl rfl 1 (by decide) (ht0 _ wd_351) (fun _ h9 => h9) rfl dX8_stepBack_11 ?_
    refine lv_iconst (v := (1 : Int32)) hx hb dX8_stepBack_14 (by decide) ?_
    refine lv_isub hx hb dX8_stepBack_15 ?_
    refine va_put (ci := 8) (v := .int (x0_1 - (1 : Int32))) (ty := .int) (C := RX8) (T := TX8) (N := 3) hx hb ht0 iX8 tyX8 tyX8_ok nmX8 hown hK hP hD hS 0 rfl rfl 1 (by decide) (ht0 _ wd_351) (fun _ h9 => h9) rfl rfl rfl rfl (Nat.le_of_ble_eq_true rfl) dX8_stepBack_16 (fun H locs hP hD hS => ?_)
    have hP : va_P G.1 vwCl (wW_X8_stepBack G h0 y0_0 (x0_1 - (1 : Int32)) x0_2) H := hP
    have hD : va_D A (wW_X8_stepBack G h0 y0_0 (x0_1 - (1 : Int32)) x0_2) := hD
    refine lv_iconst (v := (1 : Int32)) hx hb dX8_stepBack_19 (by decide) ?_
    cases hf
    exact ret_z hx hb hr hlk hK hP hD hS (by decide) dX8_stepBack_20
  · have hf := of_neg hf c1
    refine lv_iconst (v := (0 : Int32)) hx hb dX8_stepBack_7 (by decide) ?_
    cases hf
    exact ret_z hx hb hr hlk hK hP hD hS (by decide) dX8_stepBack_8
theorem yk_X8_stepBack : ykV yX8_stepBack RX8 cX8_stepBack 1 (some .boolean) 0 := ⟨wd_1020, wd_1021, wd_132, wd_1022, rfl, by decide +kernel, by decide +kernel, by decide +kernel⟩
theorem dX8_stepOn_0 : decode cX8_stepOn 0 = .ok (.aload_n 0, 1) := by decide +kernel
theorem dX8_stepOn_1 : decode cX8_stepOn 1 = .ok (.getfield 16, 3) := by decide +kernel
theorem dX8_stepOn_4 : decode cX8_stepOn 4 = .ok (.aload_n 0, 1) := by decide +kernel
theorem dX8_stepOn_5 : decode cX8_stepOn 5 = .ok (.getfield 27, 3) := by decide +kernel
theorem dX8_stepOn_8 : decode cX8_stepOn 8 = .ok (.if_icmp .lt 5, 3) := by decide +kernel
theorem dX8_stepOn_11 : decode cX8_stepOn 11 = .ok (.iconst 0, 1) := by decide +kernel
theorem dX8_stepOn_12 : decode cX8_stepOn 12 = .ok (.ireturn, 1) := by decide +kernel
theorem dX8_stepOn_13 : decode cX8_stepOn 13 = .ok (.aload_n 0, 1) := by decide +kernel
theorem dX8_stepOn_14 : decode cX8_stepOn 14 = .ok (.dup, 1) := by decide +kernel
theorem dX8_stepOn_15 : decode cX8_stepOn 15 = .ok (.getfield 16, 3) := by decide +kernel
theorem dX8_stepOn_18 : decode cX8_stepOn 18 = .ok (.iconst 1, 1) := by decide +kernel
theorem dX8_stepOn_19 : decode cX8_stepOn 19 = .ok (.iadd, 1) := by decide +kernel
theorem dX8_stepOn_20 : decode cX8_stepOn 20 = .ok (.putfield 16, 3) := by decide +kernel
theorem dX8_stepOn_23 : decode cX8_stepOn 23 = .ok (.iconst 1, 1) := by decide +kernel
theorem dX8_stepOn_24 : decode cX8_stepOn 24 = .ok (.ireturn, 1) := by decide +kernel
def wW_X8_stepOn (G : GG) (h0 y0_0 : Nat) (x0_1 : Int32) (x0_2 : Int32) : va_W := [(h0, .inr (8, [.ref y0_0, .int x0_1, .int x0_2]))]
set_option maxHeartbeats 4000000 in
set_option maxRecDepth 100000 in
theorem c_X8_stepOn (l : Launch) (G : GG) (h0 y0_0 : Nat) (sz : Nat) (x0_1 : Int32) (x0_2 : Int32) (F : Nat)   (r0 : Int32) (e_x0_1 : Int32) (hf : p_X8_stepOn F x0_1 x0_2  = some (r0, e_x0_1)) : Met l yX8_stepOn (.code yX8_stepOn cX8_stepOn 1 (some .boolean) :: gtbl) ({ frames := 0, cells := 0, slots := 0, locals := 0 } : Room) (PcS G [.ref h0] (wW_X8_stepOn G h0 y0_0 x0_1 x0_2) sz) (QiS G r0 (va_A (wW_X8_stepOn G h0 y0_0 x0_1 x0_2) sz) (wW_X8_stepOn G h0 y0_0 e_x0_1 x0_2)) 0 0 (va_A (wW_X8_stepOn G h0 y0_0 x0_1 x0_2) sz) := by
  refine met_start (by decide) (Nat.le_of_ble_eq_true rfl) ?_
  intro p e s m below meth c hC hr hlk hnm hK hP hD hA hS hX ls hl
  obtain ⟨hx, hb, hml, hown, ht0⟩ := hC
  have hown : s.vm.findClass RX8 = some m.cls := hown
  generalize va_A (wW_X8_stepOn G h0 y0_0 x0_1 x0_2) sz = A at hD hA hS hX ⊢
  have hl : lv_has ls 1 [(0, .ref h0)] := hl
  have hf : p_X8_stepOn F x0_1 x0_2  = some (r0, e_x0_1) := hf
  refine lv_aload_n hx hb dX8_stepOn_0 rfl (lv_at hl 0 rfl) ?_
  refine va_get (ci := 8) (v := .int x0_1) (C := RX8) (T := TX8) (N := 3) hx hb ht0 iX8 hown hK hP 0 rfl rfl 1 (by decide) (ht0 _ wd_351) (fun _ h9 => h9) rfl dX8_stepOn_1 ?_
  refine lv_aload_n hx hb dX8_stepOn_4 rfl (lv_at hl 0 rfl) ?_
  refine va_get (ci := 8) (v := .int x0_2) (C := RX8) (T := TX8) (N := 3) hx hb ht0 iX8 hown hK hP 0 rfl rfl 2 (by decide) (ht0 _ wd_353) (fun _ h9 => h9) rfl dX8_stepOn_5 ?_
  refine lv_icmp_lt (tgt := 13) hx hb dX8_stepOn_8 (by decide) (fun c1 => ?_) (fun c1 => ?_)
  · have hf := of_pos hf c1
    refine lv_aload_n hx hb dX8_stepOn_13 rfl (lv_at hl 0 rfl) ?_
    refine lv_dup hx hb dX8_stepOn_14 rfl ?_
    refine va_get (ci := 8) (v := .int x0_1) (C := RX8) (T := TX8) (N := 3) hx hb ht0 iX8 hown hK hP 0 rfl rfl 1 (by decide) (ht0 _ wd_351) (fun _ h9 => h9) rfl dX8_stepOn_15 ?_
    refine lv_iconst (v := (1 : Int32)) hx hb dX8_stepOn_18 (by decide) ?_
    refine lv_iadd hx hb dX8_stepOn_19 ?_
    refine va_put (ci := 8) (v := .int (x0_1 + (1 : Int32))) (ty := .int) (C := RX8) (T := TX8) (N := 3) hx hb ht0 iX8 tyX8 tyX8_ok nmX8 hown hK hP hD hS 0 rfl rfl 1 (by decide) (ht0 _ wd_351) (fun _ h9 => h9) rfl rfl rfl rfl (Nat.le_of_ble_eq_true rfl) dX8_stepOn_20 (fun H locs hP hD hS => ?_)
    have hP : va_P G.1 vwCl (wW_X8_stepOn G h0 y0_0 (x0_1 + (1 : Int32)) x0_2) H := hP
    have hD : va_D A (wW_X8_stepOn G h0 y0_0 (x0_1 + (1 : Int32)) x0_2) := hD
    refine lv_iconst (v := (1 : Int32)) hx hb dX8_stepOn_23 (by decide) ?_
    cases hf
    exact ret_z hx hb hr hlk hK hP hD hS (by decide) dX8_stepOn_24
  · have hf := of_neg hf c1
    refine lv_iconst (v := (0 : Int32)) hx hb dX8_stepOn_11 (by decide) ?_
    cases hf
    exact ret_z hx hb hr hlk hK hP hD hS (by decide) dX8_stepOn_12
theorem yk_X8_stepOn : ykV yX8_stepOn RX8 cX8_stepOn 1 (some .boolean) 0 := ⟨wd_1028, wd_1029, wd_132, wd_1030, rfl, by decide +kernel, by decide +kernel, by decide +kernel⟩
theorem dX8_forget_0 : decode cX8_forget 0 = .ok (.aload_n 0, 1) := by decide +kernel
theorem dX8_forget_1 : decode cX8_forget 1 = .ok (.getfield 11, 3) := by decide +kernel
theorem dX8_forget_4 : decode cX8_forget 4 = .ok (.aload_n 0, 1) := by decide +kernel
theorem dX8_forget_5 : decode cX8_forget 5 = .ok (.getfield 16, 3) := by decide +kernel
theorem dX8_forget_8 : decode cX8_forget 8 = .ok (.aaload, 1) := by decide +kernel
theorem dX8_forget_9 : decode cX8_forget 9 = .ok (.astore_n 1, 1) := by decide +kernel
theorem dX8_forget_10 : decode cX8_forget 10 = .ok (.aload_n 0, 1) := by decide +kernel
theorem dX8_forget_11 : decode cX8_forget 11 = .ok (.getfield 11, 3) := by decide +kernel
theorem dX8_forget_14 : decode cX8_forget 14 = .ok (.aload_n 0, 1) := by decide +kernel
theorem dX8_forget_15 : decode cX8_forget 15 = .ok (.getfield 16, 3) := by decide +kernel
theorem dX8_forget_18 : decode cX8_forget 18 = .ok (.aload_n 0, 1) := by decide +kernel
theorem dX8_forget_19 : decode cX8_forget 19 = .ok (.getfield 11, 3) := by decide +kernel
theorem dX8_forget_22 : decode cX8_forget 22 = .ok (.iconst 0, 1) := by decide +kernel
theorem dX8_forget_23 : decode cX8_forget 23 = .ok (.aaload, 1) := by decide +kernel
theorem dX8_forget_24 : decode cX8_forget 24 = .ok (.aastore, 1) := by decide +kernel
theorem dX8_forget_25 : decode cX8_forget 25 = .ok (.aload_n 0, 1) := by decide +kernel
theorem dX8_forget_26 : decode cX8_forget 26 = .ok (.getfield 11, 3) := by decide +kernel
theorem dX8_forget_29 : decode cX8_forget 29 = .ok (.iconst 0, 1) := by decide +kernel
theorem dX8_forget_30 : decode cX8_forget 30 = .ok (.aload_n 1, 1) := by decide +kernel
theorem dX8_forget_31 : decode cX8_forget 31 = .ok (.aastore, 1) := by decide +kernel
theorem dX8_forget_32 : decode cX8_forget 32 = .ok (.aload_n 0, 1) := by decide +kernel
theorem dX8_forget_33 : decode cX8_forget 33 = .ok (.iconst 0, 1) := by decide +kernel
theorem dX8_forget_34 : decode cX8_forget 34 = .ok (.putfield 16, 3) := by decide +kernel
theorem dX8_forget_37 : decode cX8_forget 37 = .ok (.aload_n 0, 1) := by decide +kernel
theorem dX8_forget_38 : decode cX8_forget 38 = .ok (.iconst 0, 1) := by decide +kernel
theorem dX8_forget_39 : decode cX8_forget 39 = .ok (.putfield 27, 3) := by decide +kernel
theorem dX8_forget_42 : decode cX8_forget 42 = .ok (.return_, 1) := by decide +kernel
def wW_X8_forget (G : GG) (h0 h1 : Nat) (x0_1 : Int32) (x0_2 : Int32) (a1 : Nat → Option Nat) : va_W := [(h0, .inr (8, [.ref h1, .int x0_1, .int x0_2])), (h1, .inl (G.2.2.2.2.1, 13, .inr (.inr (.inr (.inr a1)))))]
set_option maxHeartbeats 4000000 in
set_option maxRecDepth 100000 in
theorem c_X8_forget (l : Launch) (G : GG) (h0 h1 g_cur y_cur_code y_cur_words g_fst y_fst_code y_fst_words : Nat) (sz : Nat) (x0_1 : Int32) (x0_2 : Int32) (a1 : Nat → Option Nat) (F : Nat)  (hq_cur : (g_cur, y_cur_code, y_cur_words) ∈ gS G) (hq_fst : (g_fst, y_fst_code, y_fst_words) ∈ gS G)  (e_x0_1 : Int32) (e_x0_2 : Int32) (e_a1 : Nat → Option Nat) (hf : p_X8_forget F g_cur g_fst x0_1 x0_2 a1  = some (e_x0_1, e_x0_2, e_a1)) : Met l yX8_forget (.code yX8_forget cX8_forget 2 none :: gtbl) ({ frames := 0, cells := 0, slots := 0, locals := 0 } : Room) (PcS G [.ref h0] (wW_X8_forget G h0 h1 x0_1 x0_2 a1) sz) (QvS G (va_A (wW_X8_forget G h0 h1 x0_1 x0_2 a1) sz) (wW_X8_forget G h0 h1 e_x0_1 e_x0_2 e_a1)) 0 0 (va_A (wW_X8_forget G h0 h1 x0_1 x0_2 a1) sz) := by
  refine met_start (by decide) (Nat.le_of_ble_eq_true rfl) ?_
  intro p e s m below meth c hC hr hlk hnm hK hP hD hA hS hX ls hl
  obtain ⟨hx, hb, hml, hown, ht0⟩ := hC
  have hown : s.vm.findClass RX8 = some m.cls := hown
  generalize va_A (wW_X8_forget G h0 h1 x0_1 x0_2 a1) sz = A at hD hA hS hX ⊢
  have hl : lv_has ls 2 [(0, .ref h0)] := hl
  have hf : p_X8_forget F g_cur g_fst x0_1 x0_2 a1  = some (e_x0_1, e_x0_2, e_a1) := hf
  refine lv_aload_n hx hb dX8_forget_0 rfl (lv_at hl 0 rfl) ?_
  refine va_get (ci := 8) (v := .ref h1) (C := RX8) (T := TX8) (N := 3) hx hb ht0 iX8 hown hK hP 0 rfl rfl 0 (by decide) (ht0 _ wd_350) (fun _ h9 => h9) rfl dX8_forget_1 ?_
  refine lv_aload_n hx hb dX8_forget_4 rfl (lv_at hl 0 rfl) ?_
  refine va_get (ci := 8) (v := .int x0_1) (C := RX8) (T := TX8) (N := 3) hx hb ht0 iX8 hown hK hP 0 rfl rfl 1 (by decide) (ht0 _ wd_351) (fun _ h9 => h9) rfl dX8_forget_5 ?_
  obtain ⟨g1, hf⟩ := of_grd hf
  obtain ⟨g2, hf⟩ := of_grd hf
  have g2 := Decidable.not_not.mp g2
  refine va_aldS hx hb hK hP 1 3 rfl rfl g1 g2 dX8_forget_8 ?_
  refine lv_astore_n (lv' := [(1, .ref g_cur), (0, .ref h0)]) hx hb dX8_forget_9 rfl hl (by decide) rfl (fun ls hl => ?_)
  refine lv_aload_n hx hb dX8_forget_10 rfl (lv_at hl 1 rfl) ?_
  refine va_get (ci := 8) (v := .ref h1) (C := RX8) (T := TX8) (N := 3) hx hb ht0 iX8 hown hK hP 0 rfl rfl 0 (by decide) (ht0 _ wd_350) (fun _ h9 => h9) rfl dX8_forget_11 ?_
  refine lv_aload_n hx hb dX8_forget_14 rfl (lv_at hl 1 rfl) ?_
  refine va_get (ci := 8) (v := .int x0_1) (C := RX8) (T := TX8) (N := 3) hx hb ht0 iX8 hown hK hP 0 rfl rfl 1 (by decide) (ht0 _ wd_351) (fun _ h9 => h9) rfl dX8_forget_15 ?_
  refine lv_aload_n hx hb dX8_forget_18 rfl (lv_at hl 1 rfl) ?_
  refine va_get (ci := 8) (v := .ref h1) (C := RX8) (T := TX8) (N := 3) hx hb ht0 iX8 hown hK hP 0 rfl rfl 0 (by decide) (ht0 _ wd_350) (fun _ h9 => h9) rfl dX8_forget_19 ?_
  refine lv_iconst (v := (0 : Int32)) hx hb dX8_forget_22 (by decide) ?_
  obtain ⟨g3, hf⟩ := of_grd hf
  have g3 := Decidable.not_not.mp g3
  refine va_aldS hx hb hK hP 1 3 rfl rfl (show ¬ ixBad (0 : Int32) 13 by decide) g3 dX8_forget_23 ?_
  obtain ⟨g4, hf⟩ := of_grd hf
  refine va_astqM hx hb hK hP hD hS 1 3 rfl rfl ((hX.2.2 _ hq_fst).any hK hS) g4 dX8_forget_24 (fun H locs hP hD hS => ?_)
  have hP : va_P G.1 vwCl (wW_X8_forget G h0 h1 x0_1 x0_2 (va_up a1 x0_1.toNatClampNeg (some g_fst))) H := hP
  have hD : va_D A (wW_X8_forget G h0 h1 x0_1 x0_2 (va_up a1 x0_1.toNatClampNeg (some g_fst))) := hD
  refine lv_aload_n hx hb dX8_forget_25 rfl (lv_at hl 1 rfl) ?_
  refine va_get (ci := 8) (v := .ref h1) (C := RX8) (T := TX8) (N := 3) hx hb ht0 iX8 hown hK hP 0 rfl rfl 0 (by decide) (ht0 _ wd_350) (fun _ h9 => h9) rfl dX8_forget_26 ?_
  refine lv_iconst (v := (0 : Int32)) hx hb dX8_forget_29 (by decide) ?_
  refine lv_aload_n hx hb dX8_forget_30 rfl (lv_at hl 0 rfl) ?_
  refine va_astqM hx hb hK hP hD hS 1 3 rfl rfl ((hX.2.2 _ hq_cur).any hK hS) (show ¬ ixBad (0 : Int32) 13 by decide) dX8_forget_31 (fun H locs hP hD hS => ?_)
  have hP : va_P G.1 vwCl (wW_X8_forget G h0 h1 x0_1 x0_2 (va_up (va_up a1 x0_1.toNatClampNeg (some g_fst)) (0 : Int32).toNatClampNeg (some g_cur))) H := hP
  have hD : va_D A (wW_X8_forget G h0 h1 x0_1 x0_2 (va_up (va_up a1 x0_1.toNatClampNeg (some g_fst)) (0 : Int32).toNatClampNeg (some g_cur))) := hD
  refine lv_aload_n hx hb dX8_forget_32 rfl (lv_at hl 1 rfl) ?_
  refine lv_iconst (v := (0 : Int32)) hx hb dX8_forget_33 (by decide) ?_
  refine va_put (ci := 8) (v := .int (0 : Int32)) (ty := .int) (C := RX8) (T := TX8) (N := 3) hx hb ht0 iX8 tyX8 tyX8_ok nmX8 hown hK hP hD hS 0 rfl rfl 1 (by decide) (ht0 _ wd_351) (fun _ h9 => h9) rfl rfl rfl rfl (Nat.le_of_ble_eq_true rfl) dX8_forget_34 (fun H locs hP hD hS => ?_)
  have hP : va_P G.1 vwCl (wW_X8_forget G h0 h1 (0 : Int32) x0_2 (va_up (va_up a1 x0_1.toNatClampNeg (some g_fst)) (0 : Int32).toNatClampNeg (some g_cur))) H := hP
  have hD : va_D A (wW_X8_forget G h0 h1 (0 : Int32) x0_2 (va_up (va_up a1 x0_1.toNatClampNeg (some g_fst)) (0 : Int32).toNatClampNeg (some g_cur))) := hD
  refine lv_aload_n hx hb dX8_forget_37 rfl (lv_at hl 1 rfl) ?_
  refine lv_iconst (v := (0 : Int32)) hx hb dX8_forget_38 (by decide) ?_
  refine va_put (ci := 8) (v := .int (0 : Int32)) (ty := .int) (C := RX8) (T := TX8) (N := 3) hx hb ht0 iX8 tyX8 tyX8_ok nmX8 hown hK hP hD hS 0 rfl rfl 2 (by decide) (ht0 _ wd_353) (fun _ h9 => h9) rfl rfl rfl rfl (Nat.le_of_ble_eq_true rfl) dX8_forget_39 (fun H locs hP hD hS => ?_)
  have hP : va_P G.1 vwCl (wW_X8_forget G h0 h1 (0 : Int32) (0 : Int32) (va_up (va_up a1 x0_1.toNatClampNeg (some g_fst)) (0 : Int32).toNatClampNeg (some g_cur))) H := hP
  have hD : va_D A (wW_X8_forget G h0 h1 (0 : Int32) (0 : Int32) (va_up (va_up a1 x0_1.toNatClampNeg (some g_fst)) (0 : Int32).toNatClampNeg (some g_cur))) := hD
  cases hf
  exact ret_v hx hb hr hlk hK hP hD hS dX8_forget_42
theorem yk_X8_forget : ykV yX8_forget RX8 cX8_forget 2 none 0 := ⟨wd_755, wd_756, wd_132, wd_757, rfl, by decide +kernel, by decide +kernel, by decide +kernel⟩
