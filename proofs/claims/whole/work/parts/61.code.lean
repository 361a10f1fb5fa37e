theorem dX1_places_0 : decode cX1_places 0 = .ok (.aload_n 0, 1) := by decide +kernel
theorem dX1_places_1 : decode cX1_places 1 = .ok (.getfield 9, 3) := by decide +kernel
theorem dX1_places_4 : decode cX1_places 4 = .ok (.aload_n 0, 1) := by decide +kernel
theorem dX1_places_5 : decode cX1_places 5 = .ok (.getfield 15, 3) := by decide +kernel
theorem dX1_places_8 : decode cX1_places 8 = .ok (.iadd, 1) := by decide +kernel
theorem dX1_places_9 : decode cX1_places 9 = .ok (.ireturn, 1) := by decide +kernel
def wW_X1_places (G : GG) (h0 y0_3 y0_4 y0_5 : Nat) (x0_0 : Int32) (x0_1 : Int32) (x0_2 : Int32) : va_W := [(h0, .inr (1, [.int x0_0, .int x0_1, .int x0_2, .ref y0_3, .ref y0_4, .ref y0_5]))]
set_option maxHeartbeats 4000000 in
set_option maxRecDepth 100000 in
theorem c_X1_places (l : Launch) (G : GG) (h0 y0_3 y0_4 y0_5 : Nat) (sz : Nat) (x0_0 : Int32) (x0_1 : Int32) (x0_2 : Int32) (F : Nat)   (r0 : Int32) (hf : p_X1_places F x0_0 x0_1  = some r0) : Met l yX1_places (.code yX1_places cX1_places 1 (some .int) :: gtbl) ({ frames := 0, cells := 0, slots := 0, locals := 0 } : Room) (PcS G [.ref h0] (wW_X1_places G h0 y0_3 y0_4 y0_5 x0_0 x0_1 x0_2) sz) (QiS G r0 (va_A (wW_X1_places G h0 y0_3 y0_4 y0_5 x0_0 x0_1 x0_2) sz) (wW_X1_places G h0 y0_3 y0_4 y0_5 x0_0 x0_1 x0_2)) 0 0 (va_A (wW_X1_places G h0 y0_3 y0_4 y0_5 x0_0 x0_1 x0_2) sz) := by
  refine met_start (by decide) (Nat.le_of_ble_eq_true rfl) ?_
  intro p e s m below meth c hC hr hlk hnm hK hP hD hA hS hX ls hl
  obtain ⟨hx, hb, hml, hown, ht0⟩ := hC
  have hown : s.vm.findClass RX1 = some m.cls := hown
  generalize va_A (wW_X1_places G h0 y0_3 y0_4 y0_5 x0_0 x0_1 x0_2) sz = A at hD hA hS hX ⊢
  have hl : lv_has ls 1 [(0, .ref h0)] := hl
  have hf : p_X1_places F x0_0 x0_1  = some r0 := hf
  refine lv_aload_n hx hb dX1_places_0 rfl (lv_at hl 0 rfl) ?_
  refine va_get (ci := 1) (v := .int x0_0) (C := RX1) (T := TX1) (N := 6) hx hb ht0 iX1 hown hK hP 0 rfl rfl 0 (by decide) (ht0 _ wd_209) (fun _ h9 => h9) rfl dX1_places_1 ?_
  refine lv_aload_n hx hb dX1_places_4 rfl (lv_at hl 0 rfl) ?_
  refine va_get (ci := 1) (v := .int x0_1) (C := RX1) (T := TX1) (N := 6) hx hb ht0 iX1 hown hK hP 0 rfl rfl 1 (by decide) (ht0 _ wd_215) (fun _ h9 => h9) rfl dX1_places_5 ?_
  refine lv_iadd hx hb dX1_places_8 ?_
  cases hf
  exact ret_i hx hb hr hlk hK hP hD hS dX1_places_9
theorem yk_X1_places : ykV yX1_places RX1 cX1_places 1 (some .int) 0 := ⟨wd_528, wd_529, wd_131, wd_530, rfl, by decide +kernel, by decide +kernel, by decide +kernel⟩
theorem dX1_chips_0 : decode cX1_chips 0 = .ok (.aload_n 0, 1) := by decide +kernel
theorem dX1_chips_1 : decode cX1_chips 1 = .ok (.invokevirtual 28, 3) := by decide +kernel
theorem dX1_chips_4 : decode cX1_chips 4 = .ok (.iconst 4, 1) := by decide +kernel
theorem dX1_chips_5 : decode cX1_chips 5 = .ok (.iadd, 1) := by decide +kernel
theorem dX1_chips_6 : decode cX1_chips 6 = .ok (.iconst 1, 1) := by decide +kernel
theorem dX1_chips_7 : decode cX1_chips 7 = .ok (.isub, 1) := by decide +kernel
theorem dX1_chips_8 : decode cX1_chips 8 = .ok (.iconst 4, 1) := by decide +kernel
theorem dX1_chips_9 : decode cX1_chips 9 = .ok (.idiv, 1) := by decide +kernel
theorem dX1_chips_10 : decode cX1_chips 10 = .ok (.ireturn, 1) := by decide +kernel
def wW_X1_chips (G : GG) (h0 y0_3 y0_4 y0_5 : Nat) (x0_0 : Int32) (x0_1 : Int32) (x0_2 : Int32) : va_W := [(h0, .inr (1, [.int x0_0, .int x0_1, .int x0_2, .ref y0_3, .ref y0_4, .ref y0_5]))]
set_option maxHeartbeats 4000000 in
set_option maxRecDepth 100000 in
theorem c_X1_chips (l : Launch) (G : GG) (h0 y0_3 y0_4 y0_5 : Nat) (sz : Nat) (x0_0 : Int32) (x0_1 : Int32) (x0_2 : Int32) (F : Nat)   (r0 : Int32) (hf : p_X1_chips F x0_0 x0_1  = some r0) : Met l yX1_chips (.code yX1_chips cX1_chips 1 (some .int) :: gtbl) ({ frames := 1, cells := 0, slots := 0, locals := 20 } : Room) (PcS G [.ref h0] (wW_X1_chips G h0 y0_3 y0_4 y0_5 x0_0 x0_1 x0_2) sz) (QiS G r0 (va_A (wW_X1_chips G h0 y0_3 y0_4 y0_5 x0_0 x0_1 x0_2) sz) (wW_X1_chips G h0 y0_3 y0_4 y0_5 x0_0 x0_1 x0_2)) 0 0 (va_A (wW_X1_chips G h0 y0_3 y0_4 y0_5 x0_0 x0_1 x0_2) sz) := by
  refine met_start (by decide) (Nat.le_of_ble_eq_true rfl) ?_
  intro p e s m below meth c hC hr hlk hnm hK hP hD hA hS hX ls hl
  obtain ⟨hx, hb, hml, hown, ht0⟩ := hC
  have hown : s.vm.findClass RX1 = some m.cls := hown
  generalize va_A (wW_X1_chips G h0 y0_3 y0_4 y0_5 x0_0 x0_1 x0_2) sz = A at hD hA hS hX ⊢
  have hl : lv_has ls 1 [(0, .ref h0)] := hl
  have hf : p_X1_chips F x0_0 x0_1  = some r0 := hf
  refine lv_aload_n hx hb dX1_chips_0 rfl (lv_at hl 0 rfl) ?_
  obtain ⟨r_1_0, hc_r_1_0, hf⟩ := of_bnd hf
  refine cl_Vi (w2 := (wW_X1_chips G h0 y0_3 y0_4 y0_5 x0_0 x0_1 x0_2)) (As := []) (rest := []) ⟨hx, hb, hml, hown, ht0⟩ (c_X1_places l G h0 y0_3 y0_4 y0_5 _ x0_0 x0_1 x0_2 F _ hc_r_1_0) yk_X1_places wd_527 ⟨rfl, rfl, by decide, by decide⟩ ⟨Nat.le_refl _, Nat.le_refl _⟩ hX hK hP hD hS hA [0] [] [0] (va_recv hK hP (ci := 1) (q0 := 0) rfl rfl) rfl rfl (by decide) rfl rfl rfl rfl rfl hl.1 rfl (Nat.le_of_ble_eq_true rfl) dX1_chips_1 (fun H locs hP hD hS => ?_)
  refine lv_iconst (v := (4 : Int32)) hx hb dX1_chips_4 (by decide) ?_
  refine lv_iadd hx hb dX1_chips_5 ?_
  refine lv_iconst (v := (1 : Int32)) hx hb dX1_chips_6 (by decide) ?_
  refine lv_isub hx hb dX1_chips_7 ?_
  refine lv_iconst (v := (4 : Int32)) hx hb dX1_chips_8 (by decide) ?_
  refine lv_idiv hx hb dX1_chips_9 (by decide) ?_
  cases hf
  exact ret_i hx hb hr hlk hK hP hD hS dX1_chips_10
theorem yk_X1_chips : ykV yX1_chips RX1 cX1_chips 1 (some .int) 0 := ⟨wd_1171, wd_1172, wd_131, wd_1173, rfl, by decide +kernel, by decide +kernel, by decide +kernel⟩
theorem dX1_isPlace_0 : decode cX1_isPlace 0 = .ok (.iload_n 1, 1) := by decide +kernel
theorem dX1_isPlace_1 : decode cX1_isPlace 1 = .ok (.ifCond .lt 15, 3) := by decide +kernel
theorem dX1_isPlace_4 : decode cX1_isPlace 4 = .ok (.iload_n 1, 1) := by decide +kernel
theorem dX1_isPlace_5 : decode cX1_isPlace 5 = .ok (.aload_n 0, 1) := by decide +kernel
theorem dX1_isPlace_6 : decode cX1_isPlace 6 = .ok (.invokevirtual 28, 3) := by decide +kernel
theorem dX1_isPlace_9 : decode cX1_isPlace 9 = .ok (.if_icmp .ge 7, 3) := by decide +kernel
theorem dX1_isPlace_12 : decode cX1_isPlace 12 = .ok (.iconst 1, 1) := by decide +kernel
theorem dX1_isPlace_13 : decode cX1_isPlace 13 = .ok (.goto 4, 3) := by decide +kernel
theorem dX1_isPlace_16 : decode cX1_isPlace 16 = .ok (.iconst 0, 1) := by decide +kernel
theorem dX1_isPlace_17 : decode cX1_isPlace 17 = .ok (.ireturn, 1) := by decide +kernel
def wW_X1_isPlace (G : GG) (h0 y0_3 y0_4 y0_5 : Nat) (x0_0 : Int32) (x0_1 : Int32) (x0_2 : Int32) : va_W := [(h0, .inr (1, [.int x0_0, .int x0_1, .int x0_2, .ref y0_3, .ref y0_4, .ref y0_5]))]
set_option maxHeartbeats 4000000 in
set_option maxRecDepth 100000 in
theorem c_X1_isPlace (l : Launch) (G : GG) (h0 y0_3 y0_4 y0_5 : Nat) (sz : Nat) (x0_0 : Int32) (x0_1 : Int32) (x0_2 : Int32) (F : Nat) (b1 : Int32)  (r0 : Int32) (hf : p_X1_isPlace F x0_0 x0_1 b1 = some r0) : Met l yX1_isPlace (.code yX1_isPlace cX1_isPlace 2 (some .boolean) :: gtbl) ({ frames := 1, cells := 0, slots := 0, locals := 20 } : Room) (PcS G [.ref h0, .int b1] (wW_X1_isPlace G h0 y0_3 y0_4 y0_5 x0_0 x0_1 x0_2) sz) (QiS G r0 (va_A (wW_X1_isPlace G h0 y0_3 y0_4 y0_5 x0_0 x0_1 x0_2) sz) (wW_X1_isPlace G h0 y0_3 y0_4 y0_5 x0_0 x0_1 x0_2)) 0 0 (va_A (wW_X1_isPlace G h0 y0_3 y0_4 y0_5 x0_0 x0_1 x0_2) sz) := by
  refine met_start (by decide) (Nat.le_of_ble_eq_true rfl) ?_
  intro p e s m below meth c hC hr hlk hnm hK hP hD hA hS hX ls hl
  obtain ⟨hx, hb, hml, hown, ht0⟩ := hC
  have hown : s.vm.findClass RX1 = some m.cls := hown
  generalize va_A (wW_X1_isPlace G h0 y0_3 y0_4 y0_5 x0_0 x0_1 x0_2) sz = A at hD hA hS hX ⊢
  have hl : lv_has ls 2 [(0, .ref h0), (1, .int b1)] := hl
  have hf : p_X1_isPlace F x0_0 x0_1 b1 = some r0 := hf
  refine lv_iload_n hx hb dX1_isPlace_0 rfl (lv_at hl 1 rfl) ?_
  refine lv_if_lt (tgt := 16) hx hb dX1_isPlace_1 (by decide) (fun c1 => ?_) (fun c1 => ?_)
  · have hf := of_pos hf c1
    refine lv_iconst (v := (0 : Int32)) hx hb dX1_isPlace_16 (by decide) ?_
    cases hf
    exact ret_z hx hb hr hlk hK hP hD hS (by decide) dX1_isPlace_17
  · have hf := of_neg hf c1
    refine lv_iload_n hx hb dX1_isPlace_4 rfl (lv_at hl 1 rfl) ?_
    refine lv_aload_n hx hb dX1_isPlace_5 rfl (lv_at hl 0 rfl) ?_
    obtain ⟨r_6_1, hc_r_6_1, hf⟩ := of_bnd hf
    refine cl_Vi (w2 := (wW_X1_isPlace G h0 y0_3 y0_4 y0_5 x0_0 x0_1 x0_2)) (As := []) (rest := [.int b1]) ⟨hx, hb, hml, hown, ht0⟩ (c_X1_places l G h0 y0_3 y0_4 y0_5 _ x0_0 x0_1 x0_2 F _ hc_r_6_1) yk_X1_places wd_527 ⟨rfl, rfl, by decide, by decide⟩ ⟨Nat.le_refl _, Nat.le_refl _⟩ hX hK hP hD hS hA [0] [] [0] (va_recv hK hP (ci := 1) (q0 := 0) rfl rfl) rfl rfl (by decide) rfl rfl rfl rfl rfl hl.1 rfl (Nat.le_of_ble_eq_true rfl) dX1_isPlace_6 (fun H locs hP hD hS => ?_)
    refine lv_icmp_ge (tgt := 16) hx hb dX1_isPlace_9 (by decide) (fun c3 => ?_) (fun c3 => ?_)
    · have hf := of_pos hf c3
      refine lv_iconst (v := (0 : Int32)) hx hb dX1_isPlace_16 (by decide) ?_
      cases hf
      exact ret_z hx hb hr hlk hK hP hD hS (by decide) dX1_isPlace_17
    · have hf := of_neg hf c3
      refine lv_iconst (v := (1 : Int32)) hx hb dX1_isPlace_12 (by decide) ?_
      refine lv_goto (tgt := 17) hx hb dX1_isPlace_13 (by decide) ?_
      cases hf
      exact ret_z hx hb hr hlk hK hP hD hS (by decide) dX1_isPlace_17
theorem yk_X1_isPlace : ykV yX1_isPlace RX1 cX1_isPlace 2 (some .boolean) 1 := ⟨wd_899, wd_900, wd_131, wd_901, rfl, by decide +kernel, by decide +kernel, by decide +kernel⟩
theorem dX1_isDataPlace_0 : decode cX1_isDataPlace 0 = .ok (.iload_n 1, 1) := by decide +kernel
theorem dX1_isDataPlace_1 : decode cX1_isDataPlace 1 = .ok (.ifCond .lt 15, 3) := by decide +kernel
theorem dX1_isDataPlace_4 : decode cX1_isDataPlace 4 = .ok (.iload_n 1, 1) := by decide +kernel
theorem dX1_isDataPlace_5 : decode cX1_isDataPlace 5 = .ok (.aload_n 0, 1) := by decide +kernel
theorem dX1_isDataPlace_6 : decode cX1_isDataPlace 6 = .ok (.getfield 9, 3) := by decide +kernel
theorem dX1_isDataPlace_9 : decode cX1_isDataPlace 9 = .ok (.if_icmp .ge 7, 3) := by decide +kernel
theorem dX1_isDataPlace_12 : decode cX1_isDataPlace 12 = .ok (.iconst 1, 1) := by decide +kernel
theorem dX1_isDataPlace_13 : decode cX1_isDataPlace 13 = .ok (.goto 4, 3) := by decide +kernel
theorem dX1_isDataPlace_16 : decode cX1_isDataPlace 16 = .ok (.iconst 0, 1) := by decide +kernel
theorem dX1_isDataPlace_17 : decode cX1_isDataPlace 17 = .ok (.ireturn, 1) := by decide +kernel
def wW_X1_isDataPlace (G : GG) (h0 y0_3 y0_4 y0_5 : Nat) (x0_0 : Int32) (x0_1 : Int32) (x0_2 : Int32) : va_W := [(h0, .inr (1, [.int x0_0, .int x0_1, .int x0_2, .ref y0_3, .ref y0_4, .ref y0_5]))]
set_option maxHeartbeats 4000000 in
set_option maxRecDepth 100000 in
theorem c_X1_isDataPlace (l : Launch) (G : GG) (h0 y0_3 y0_4 y0_5 : Nat) (sz : Nat) (x0_0 : Int32) (x0_1 : Int32) (x0_2 : Int32) (F : Nat) (b1 : Int32)  (r0 : Int32) (hf : p_X1_isDataPlace F x0_0 b1 = some r0) : Met l yX1_isDataPlace (.code yX1_isDataPlace cX1_isDataPlace 2 (some .boolean) :: gtbl) ({ frames := 0, cells := 0, slots := 0, locals := 0 } : Room) (PcS G [.ref h0, .int b1] (wW_X1_isDataPlace G h0 y0_3 y0_4 y0_5 x0_0 x0_1 x0_2) sz) (QiS G r0 (va_A (wW_X1_isDataPlace G h0 y0_3 y0_4 y0_5 x0_0 x0_1 x0_2) sz) (wW_X1_isDataPlace G h0 y0_3 y0_4 y0_5 x0_0 x0_1 x0_2)) 0 0 (va_A (wW_X1_isDataPlace G h0 y0_3 y0_4 y0_5 x0_0 x0_1 x0_2) sz) := by
  refine met_start (by decide) (Nat.le_of_ble_eq_true rfl) ?_
  intro p e s m below meth c hC hr hlk hnm hK hP hD hA hS hX ls hl
  obtain ⟨hx, hb, hml, hown, ht0⟩ := hC
  have hown : s.vm.findClass RX1 = some m.cls := hown
  generalize va_A (wW_X1_isDataPlace G h0 y0_3 y0_4 y0_5 x0_0 x0_1 x0_2) sz = A at hD hA hS hX ⊢
  have hl : lv_has ls 2 [(0, .ref h0), (1, .int b1)] := hl
  have hf : p_X1_isDataPlace F x0_0 b1 = some r0 := hf
  refine lv_iload_n hx hb dX1_isDataPlace_0 rfl (lv_at hl 1 rfl) ?_
  refine lv_if_lt (tgt := 16) hx hb dX1_isDataPlace_1 (by decide) (fun c1 => ?_) (fun c1 => ?_)
  · have hf := of_pos hf c1
    refine lv_iconst (v := (0 : Int32)) hx hb dX1_isDataPlace_16 (by decide) ?_
    cases hf
    exact ret_z hx hb hr hlk hK hP hD hS (by decide) dX1_isDataPlace_17
  · have hf := of_neg hf c1
    refine lv_iload_n hx hb dX1_isDataPlace_4 rfl (lv_at hl 1 rfl) ?_
    refine lv_aload_n hx hb dX1_isDataPlace_5 rfl (lv_at hl 0 rfl) ?_
    refine va_get (ci := 1) (v := .int x0_0) (C := RX1) (T := TX1) (N := 6) hx hb ht0 iX1 hown hK hP 0 rfl rfl 0 (by decide) (ht0 _ wd_209) (fun _ h9 => h9) rfl dX1_isDataPlace_6 ?_
    refine lv_icmp_ge (tgt := 16) hx hb dX1_isDataPlace_9 (by decide) (fun c2 => ?_) (fun c2 => ?_)
    · have hf := of_pos hf c2
      refine lv_iconst (v := (0 : Int32)) hx hb dX1_isDataPlace_16 (by decide) ?_
      cases hf
      exact ret_z hx hb hr hlk hK hP hD hS (by decide) dX1_isDataPlace_17
    · have hf := of_neg hf c2
      refine lv_iconst (v := (1 : Int32)) hx hb dX1_isDataPlace_12 (by decide) ?_
      refine lv_goto (tgt := 17) hx hb dX1_isDataPlace_13 (by decide) ?_
      cases hf
      exact ret_z hx hb hr hlk hK hP hD hS (by decide) dX1_isDataPlace_17
theorem yk_X1_isDataPlace : ykV yX1_isDataPlace RX1 cX1_isDataPlace 2 (some .boolean) 1 := ⟨wd_953, wd_954, wd_131, wd_955, rfl, by decide +kernel, by decide +kernel, by decide +kernel⟩
theorem dX1_dataMask_0 : decode cX1_dataMask 0 = .ok (.iconst 1, 1) := by decide +kernel
theorem dX1_dataMask_1 : decode cX1_dataMask 1 = .ok (.aload_n 0, 1) := by decide +kernel
theorem dX1_dataMask_2 : decode cX1_dataMask 2 = .ok (.getfield 9, 3) := by decide +kernel
theorem dX1_dataMask_5 : decode cX1_dataMask 5 = .ok (.ishl, 1) := by decide +kernel
theorem dX1_dataMask_6 : decode cX1_dataMask 6 = .ok (.iconst 1, 1) := by decide +kernel
theorem dX1_dataMask_7 : decode cX1_dataMask 7 = .ok (.isub, 1) := by decide +kernel
theorem dX1_dataMask_8 : decode cX1_dataMask 8 = .ok (.ireturn, 1) := by decide +kernel
def wW_X1_dataMask (G : GG) (h0 y0_3 y0_4 y0_5 : Nat) (x0_0 : Int32) (x0_1 : Int32) (x0_2 : Int32) : va_W := [(h0, .inr (1, [.int x0_0, .int x0_1, .int x0_2, .ref y0_3, .ref y0_4, .ref y0_5]))]
set_option maxHeartbeats 4000000 in
set_option maxRecDepth 100000 in
theorem c_X1_dataMask (l : Launch) (G : GG) (h0 y0_3 y0_4 y0_5 : Nat) (sz : Nat) (x0_0 : Int32) (x0_1 : Int32) (x0_2 : Int32) (F : Nat)   (r0 : Int32) (hf : p_X1_dataMask F x0_0  = some r0) : Met l yX1_dataMask (.code yX1_dataMask cX1_dataMask 1 (some .int) :: gtbl) ({ frames := 0, cells := 0, slots := 0, locals := 0 } : Room) (PcS G [.ref h0] (wW_X1_dataMask G h0 y0_3 y0_4 y0_5 x0_0 x0_1 x0_2) sz) (QiS G r0 (va_A (wW_X1_dataMask G h0 y0_3 y0_4 y0_5 x0_0 x0_1 x0_2) sz) (wW_X1_dataMask G h0 y0_3 y0_4 y0_5 x0_0 x0_1 x0_2)) 0 0 (va_A (wW_X1_dataMask G h0 y0_3 y0_4 y0_5 x0_0 x0_1 x0_2) sz) := by
  refine met_start (by decide) (Nat.le_of_ble_eq_true rfl) ?_
  intro p e s m below meth c hC hr hlk hnm hK hP hD hA hS hX ls hl
  obtain ⟨hx, hb, hml, hown, ht0⟩ := hC
  have hown : s.vm.findClass RX1 = some m.cls := hown
  generalize va_A (wW_X1_dataMask G h0 y0_3 y0_4 y0_5 x0_0 x0_1 x0_2) sz = A at hD hA hS hX ⊢
  have hl : lv_has ls 1 [(0, .ref h0)] := hl
  have hf : p_X1_dataMask F x0_0  = some r0 := hf
  refine lv_iconst (v := (1 : Int32)) hx hb dX1_dataMask_0 (by decide) ?_
  refine lv_aload_n hx hb dX1_dataMask_1 rfl (lv_at hl 0 rfl) ?_
  refine va_get (ci := 1) (v := .int x0_0) (C := RX1) (T := TX1) (N := 6) hx hb ht0 iX1 hown hK hP 0 rfl rfl 0 (by decide) (ht0 _ wd_209) (fun _ h9 => h9) rfl dX1_dataMask_2 ?_
  refine lv_ishl hx hb dX1_dataMask_5 ?_
  refine lv_iconst (v := (1 : Int32)) hx hb dX1_dataMask_6 (by decide) ?_
  refine lv_isub hx hb dX1_dataMask_7 ?_
  cases hf
  exact ret_i hx hb hr hlk hK hP hD hS dX1_dataMask_8
theorem yk_X1_dataMask : ykV yX1_dataMask RX1 cX1_dataMask 1 (some .int) 0 := ⟨wd_751, wd_752, wd_131, wd_753, rfl, by decide +kernel, by decide +kernel, by decide +kernel⟩
theorem dX1_isDataValue_0 : decode cX1_isDataValue 0 = .ok (.iload_n 1, 1) := by decide +kernel
theorem dX1_isDataValue_1 : decode cX1_isDataValue 1 = .ok (.ifCond .lt 15, 3) := by decide +kernel
theorem dX1_isDataValue_4 : decode cX1_isDataValue 4 = .ok (.iload_n 1, 1) := by decide +kernel
theorem dX1_isDataValue_5 : decode cX1_isDataValue 5 = .ok (.aload_n 0, 1) := by decide +kernel
theorem dX1_isDataValue_6 : decode cX1_isDataValue 6 = .ok (.invokevirtual 32, 3) := by decide +kernel
theorem dX1_isDataValue_9 : decode cX1_isDataValue 9 = .ok (.if_icmp .gt 7, 3) := by decide +kernel
theorem dX1_isDataValue_12 : decode cX1_isDataValue 12 = .ok (.iconst 1, 1) := by decide +kernel
theorem dX1_isDataValue_13 : decode cX1_isDataValue 13 = .ok (.goto 4, 3) := by decide +kernel
theorem dX1_isDataValue_16 : decode cX1_isDataValue 16 = .ok (.iconst 0, 1) := by decide +kernel
theorem dX1_isDataValue_17 : decode cX1_isDataValue 17 = .ok (.ireturn, 1) := by decide +kernel
def wW_X1_isDataValue (G : GG) (h0 y0_3 y0_4 y0_5 : Nat) (x0_0 : Int32) (x0_1 : Int32) (x0_2 : Int32) : va_W := [(h0, .inr (1, [.int x0_0, .int x0_1, .int x0_2, .ref y0_3, .ref y0_4, .ref y0_5]))]
set_option maxHeartbeats 4000000 in
set_option maxRecDepth 100000 in
theorem c_X1_isDataValue (l : Launch) (G : GG) (h0 y0_3 y0_4 y0_5 : Nat) (sz : Nat) (x0_0 : Int32) (x0_1 : Int32) (x0_2 : Int32) (F : Nat) (b1 : Int32)  (r0 : Int32) (hf : p_X1_isDataValue F x0_0 b1 = some r0) : Met l yX1_isDataValue (.code yX1_isDataValue cX1_isDataValue 2 (some .boolean) :: gtbl) ({ frames := 1, cells := 0, slots := 0, locals := 20 } : Room) (PcS G [.ref h0, .int b1] (wW_X1_isDataValue G h0 y0_3 y0_4 y0_5 x0_0 x0_1 x0_2) sz) (QiS G r0 (va_A (wW_X1_isDataValue G h0 y0_3 y0_4 y0_5 x0_0 x0_1 x0_2) sz) (wW_X1_isDataValue G h0 y0_3 y0_4 y0_5 x0_0 x0_1 x0_2)) 0 0 (va_A (wW_X1_isDataValue G h0 y0_3 y0_4 y0_5 x0_0 x0_1 x0_2) sz) := by
  refine met_start (by decide) (Nat.le_of_ble_eq_true rfl) ?_
  intro p e s m below meth c hC hr hlk hnm hK hP hD hA hS hX ls hl
  obtain ⟨hx, hb, hml, hown, ht0⟩ := hC
  have hown : s.vm.findClass RX1 = some m.cls := hown
  generalize va_A (wW_X1_isDataValue G h0 y0_3 y0_4 y0_5 x0_0 x0_1 x0_2) sz = A at hD hA hS hX ⊢
  have hl : lv_has ls 2 [(0, .ref h0), (1, .int b1)] := hl
  have hf : p_X1_isDataValue F x0_0 b1 = some r0 := hf
  refine lv_iload_n hx hb dX1_isDataValue_0 rfl (lv_at hl 1 rfl) ?_
  refine lv_if_lt (tgt := 16) hx hb dX1_isDataValue_1 (by decide) (fun c1 => ?_) (fun c1 => ?_)
  · have hf := of_pos hf c1
    refine lv_iconst (v := (0 : Int32)) hx hb dX1_isDataValue_16 (by decide) ?_
    cases hf
    exact ret_z hx hb hr hlk hK hP hD hS (by decide) dX1_isDataValue_17
  · have hf := of_neg hf c1
    refine lv_iload_n hx hb dX1_isDataValue_4 rfl (lv_at hl 1 rfl) ?_
    refine lv_aload_n hx hb dX1_isDataValue_5 rfl (lv_at hl 0 rfl) ?_
    obtain ⟨r_6_1, hc_r_6_1, hf⟩ := of_bnd hf
    refine cl_Vi (w2 := (wW_X1_isDataValue G h0 y0_3 y0_4 y0_5 x0_0 x0_1 x0_2)) (As := []) (rest := [.int b1]) ⟨hx, hb, hml, hown, ht0⟩ (c_X1_dataMask l G h0 y0_3 y0_4 y0_5 _ x0_0 x0_1 x0_2 F _ hc_r_6_1) yk_X1_dataMask wd_771 ⟨rfl, rfl, by decide, by decide⟩ ⟨Nat.le_refl _, Nat.le_refl _⟩ hX hK hP hD hS hA [0] [] [0] (va_recv hK hP (ci := 1) (q0 := 0) rfl rfl) rfl rfl (by decide) rfl rfl rfl rfl rfl hl.1 rfl (Nat.le_of_ble_eq_true rfl) dX1_isDataValue_6 (fun H locs hP hD hS => ?_)
    refine lv_icmp_gt (tgt := 16) hx hb dX1_isDataValue_9 (by decide) (fun c3 => ?_) (fun c3 => ?_)
    · have hf := of_pos hf c3
      refine lv_iconst (v := (0 : Int32)) hx hb dX1_isDataValue_16 (by decide) ?_
      cases hf
      exact ret_z hx hb hr hlk hK hP hD hS (by decide) dX1_isDataValue_17
    · have hf := of_neg hf c3
      refine lv_iconst (v := (1 : Int32)) hx hb dX1_isDataValue_12 (by decide) ?_
      refine lv_goto (tgt := 17) hx hb dX1_isDataValue_13 (by decide) ?_
      cases hf
      exact ret_z hx hb hr hlk hK hP hD hS (by decide) dX1_isDataValue_17
theorem yk_X1_isDataValue : ykV yX1_isDataValue RX1 cX1_isDataValue 2 (some .boolean) 1 := ⟨wd_795, wd_796, wd_131, wd_797, rfl, by decide +kernel, by decide +kernel, by decide +kernel⟩
theorem dX1_isDataColumn_0 : decode cX1_isDataColumn 0 = .ok (.iload_n 1, 1) := by decide +kernel
theorem dX1_isDataColumn_1 : decode cX1_isDataColumn 1 = .ok (.invokestatic 35, 3) := by decide +kernel
theorem dX1_isDataColumn_4 : decode cX1_isDataColumn 4 = .ok (.istore_n 2, 1) := by decide +kernel
theorem dX1_isDataColumn_5 : decode cX1_isDataColumn 5 = .ok (.iload_n 1, 1) := by decide +kernel
theorem dX1_isDataColumn_6 : decode cX1_isDataColumn 6 = .ok (.ifCond .le 29, 3) := by decide +kernel
theorem dX1_isDataColumn_9 : decode cX1_isDataColumn 9 = .ok (.iload_n 1, 1) := by decide +kernel
theorem dX1_isDataColumn_10 : decode cX1_isDataColumn 10 = .ok (.iconst 1, 1) := by decide +kernel
theorem dX1_isDataColumn_11 : decode cX1_isDataColumn 11 = .ok (.aload_n 0, 1) := by decide +kernel
theorem dX1_isDataColumn_12 : decode cX1_isDataColumn 12 = .ok (.getfield 15, 3) := by decide +kernel
theorem dX1_isDataColumn_15 : decode cX1_isDataColumn 15 = .ok (.ishl, 1) := by decide +kernel
theorem dX1_isDataColumn_16 : decode cX1_isDataColumn 16 = .ok (.if_icmp .ge 19, 3) := by decide +kernel
theorem dX1_isDataColumn_19 : decode cX1_isDataColumn 19 = .ok (.iload_n 2, 1) := by decide +kernel
theorem dX1_isDataColumn_20 : decode cX1_isDataColumn 20 = .ok (.iconst 3, 1) := by decide +kernel
theorem dX1_isDataColumn_21 : decode cX1_isDataColumn 21 = .ok (.if_icmp .lt 14, 3) := by decide +kernel
theorem dX1_isDataColumn_24 : decode cX1_isDataColumn 24 = .ok (.iload_n 2, 1) := by decide +kernel
theorem dX1_isDataColumn_25 : decode cX1_isDataColumn 25 = .ok (.iconst 2, 1) := by decide +kernel
theorem dX1_isDataColumn_26 : decode cX1_isDataColumn 26 = .ok (.irem, 1) := by decide +kernel
theorem dX1_isDataColumn_27 : decode cX1_isDataColumn 27 = .ok (.iconst 1, 1) := by decide +kernel
theorem dX1_isDataColumn_28 : decode cX1_isDataColumn 28 = .ok (.if_icmp .ne 7, 3) := by decide +kernel
theorem dX1_isDataColumn_31 : decode cX1_isDataColumn 31 = .ok (.iconst 1, 1) := by decide +kernel
theorem dX1_isDataColumn_32 : decode cX1_isDataColumn 32 = .ok (.goto 4, 3) := by decide +kernel
theorem dX1_isDataColumn_35 : decode cX1_isDataColumn 35 = .ok (.iconst 0, 1) := by decide +kernel
theorem dX1_isDataColumn_36 : decode cX1_isDataColumn 36 = .ok (.ireturn, 1) := by decide +kernel
def wW_X1_isDataColumn (G : GG) (h0 y0_3 y0_4 y0_5 : Nat) (x0_0 : Int32) (x0_1 : Int32) (x0_2 : Int32) : va_W := [(h0, .inr (1, [.int x0_0, .int x0_1, .int x0_2, .ref y0_3, .ref y0_4, .ref y0_5]))]
set_option maxHeartbeats 4000000 in
set_option maxRecDepth 100000 in
theorem c_X1_isDataColumn (l : Launch) (G : GG) (h0 y0_3 y0_4 y0_5 : Nat) (sz : Nat) (x0_0 : Int32) (x0_1 : Int32) (x0_2 : Int32) (F : Nat) (b1 : Int32)  (r0 : Int32) (hf : p_X1_isDataColumn F x0_1 b1 = some r0) : Met l yX1_isDataColumn (.code yX1_isDataColumn cX1_isDataColumn 3 (some .boolean) :: gtbl) ({ frames := 1, cells := 0, slots := 0, locals := 20 } : Room) (PcS G [.ref h0, .int b1] (wW_X1_isDataColumn G h0 y0_3 y0_4 y0_5 x0_0 x0_1 x0_2) sz) (QiS G r0 (va_A (wW_X1_isDataColumn G h0 y0_3 y0_4 y0_5 x0_0 x0_1 x0_2) sz) (wW_X1_isDataColumn G h0 y0_3 y0_4 y0_5 x0_0 x0_1 x0_2)) 0 0 (va_A (wW_X1_isDataColumn G h0 y0_3 y0_4 y0_5 x0_0 x0_1 x0_2) sz) := by
  refine met_start (by decide) (Nat.le_of_ble_eq_true rfl) ?_
  intro p e s m below meth c hC hr hlk hnm hK hP hD hA hS hX ls hl
  obtain ⟨hx, hb, hml, hown, ht0⟩ := hC
  have hown : s.vm.findClass RX1 = some m.cls := hown
  generalize va_A (wW_X1_isDataColumn G h0 y0_3 y0_4 y0_5 x0_0 x0_1 x0_2) sz = A at hD hA hS hX ⊢
  have hl : lv_has ls 3 [(0, .ref h0), (1, .int b1)] := hl
  have hf : p_X1_isDataColumn F x0_1 b1 = some r0 := hf
  refine lv_iload_n hx hb dX1_isDataColumn_0 rfl (lv_at hl 1 rfl) ?_
  obtain ⟨r_1_0, hc_r_1_0, hf⟩ := of_bnd hf
  refine cl_Si (w2 := (wW_X1_isDataColumn G h0 y0_3 y0_4 y0_5 x0_0 x0_1 x0_2)) (As := [.int b1]) (rest := []) ⟨hx, hb, hml, hown, ht0⟩ (c_J6_bitCount_0f7a4 l G _ F b1 _ hc_r_1_0) yk_J6_bitCount_0f7a4 wd_744 ⟨rfl, rfl, by decide, by decide⟩ ⟨Nat.le_refl _, Nat.le_refl _⟩ hX hK hP hD hS hA [] [0] [0] rfl rfl (by decide) rfl rfl rfl rfl rfl hl.1 rfl (Nat.le_of_ble_eq_true rfl) dX1_isDataColumn_1 (fun H locs hP hD hS => ?_)
  refine lv_istore_n (lv' := [(2, .int r_1_0), (0, .ref h0), (1, .int b1)]) hx hb dX1_isDataColumn_4 rfl hl (by decide) rfl (fun ls hl => ?_)
  refine lv_iload_n hx hb dX1_isDataColumn_5 rfl (lv_at hl 2 rfl) ?_
  refine lv_if_le (tgt := 35) hx hb dX1_isDataColumn_6 (by decide) (fun c2 => ?_) (fun c2 => ?_)
  · have hf := of_pos hf c2
    refine lv_iconst (v := (0 : Int32)) hx hb dX1_isDataColumn_35 (by decide) ?_
    cases hf
    exact ret_z hx hb hr hlk hK hP hD hS (by decide) dX1_isDataColumn_36
  · have hf := of_neg hf c2
    refine lv_iload_n hx hb dX1_isDataColumn_9 rfl (lv_at hl 2 rfl) ?_
    refine lv_iconst (v := (1 : Int32)) hx hb dX1_isDataColumn_10 (by decide) ?_
    refine lv_aload_n hx hb dX1_isDataColumn_11 rfl (lv_at hl 1 rfl) ?_
    refine va_get (ci := 1) (v := .int x0_1) (C := RX1) (T := TX1) (N := 6) hx hb ht0 iX1 hown hK hP 0 rfl rfl 1 (by decide) (ht0 _ wd_215) (fun _ h9 => h9) rfl dX1_isDataColumn_12 ?_
    refine lv_ishl hx hb dX1_isDataColumn_15 ?_
    refine lv_icmp_ge (tgt := 35) hx hb dX1_isDataColumn_16 (by decide) (fun c3 => ?_) (fun c3 => ?_)
    · have hf := of_pos hf c3
      refine lv_iconst (v := (0 : Int32)) hx hb dX1_isDataColumn_35 (by decide) ?_
      cases hf
      exact ret_z hx hb hr hlk hK hP hD hS (by decide) dX1_isDataColumn_36
    · have hf := of_neg hf c3
      refine lv_iload_n hx hb dX1_isDataColumn_19 rfl (lv_at hl 0 rfl) ?_
      refine lv_iconst (v := (3 : Int32)) hx hb dX1_isDataColumn_20 (by decide) ?_
      refine lv_icmp_lt (tgt := 35) hx hb dX1_isDataColumn_21 (by decide) (fun c4 => ?_) (fun c4 => ?_)
      · have hf := of_pos hf c4
        refine lv_iconst (v := (0 : Int32)) hx hb dX1_isDataColumn_35 (by decide) ?_
        cases hf
        exact ret_z hx hb hr hlk hK hP hD hS (by decide) dX1_isDataColumn_36
      · have hf := of_neg hf c4
        refine lv_iload_n hx hb dX1_isDataColumn_24 rfl (lv_at hl 0 rfl) ?_
        refine lv_iconst (v := (2 : Int32)) hx hb dX1_isDataColumn_25 (by decide) ?_
        refine lv_irem hx hb dX1_isDataColumn_26 (by decide) ?_
        refine lv_iconst (v := (1 : Int32)) hx hb dX1_isDataColumn_27 (by decide) ?_
        refine lv_icmp_ne (tgt := 35) hx hb dX1_isDataColumn_28 (by decide) (fun c5 => ?_) (fun c5 => ?_)
        · have hf := of_neg hf c5
          refine lv_iconst (v := (0 : Int32)) hx hb dX1_isDataColumn_35 (by decide) ?_
          cases hf
          exact ret_z hx hb hr hlk hK hP hD hS (by decide) dX1_isDataColumn_36
        · have hf := of_pos hf c5
          refine lv_iconst (v := (1 : Int32)) hx hb dX1_isDataColumn_31 (by decide) ?_
          refine lv_goto (tgt := 36) hx hb dX1_isDataColumn_32 (by decide) ?_
          cases hf
          exact ret_z hx hb hr hlk hK hP hD hS (by decide) dX1_isDataColumn_36
theorem yk_X1_isDataColumn : ykV yX1_isDataColumn RX1 cX1_isDataColumn 3 (some .boolean) 1 := ⟨wd_741, wd_742, wd_131, wd_743, rfl, by decide +kernel, by decide +kernel, by decide +kernel⟩
theorem dX1_placeWith_0 : decode cX1_placeWith 0 = .ok (.iload_n 1, 1) := by decide +kernel
theorem dX1_placeWith_1 : decode cX1_placeWith 1 = .ok (.ifCond .lt 19, 3) := by decide +kernel
theorem dX1_placeWith_4 : decode cX1_placeWith 4 = .ok (.iload_n 1, 1) := by decide +kernel
theorem dX1_placeWith_5 : decode cX1_placeWith 5 = .ok (.sipush 256, 3) := by decide +kernel
theorem dX1_placeWith_8 : decode cX1_placeWith 8 = .ok (.if_icmp .ge 12, 3) := by decide +kernel
theorem dX1_placeWith_11 : decode cX1_placeWith 11 = .ok (.aload_n 0, 1) := by decide +kernel
theorem dX1_placeWith_12 : decode cX1_placeWith 12 = .ok (.getfield 22, 3) := by decide +kernel
theorem dX1_placeWith_15 : decode cX1_placeWith 15 = .ok (.iload_n 1, 1) := by decide +kernel
theorem dX1_placeWith_16 : decode cX1_placeWith 16 = .ok (.iaload, 1) := by decide +kernel
theorem dX1_placeWith_17 : decode cX1_placeWith 17 = .ok (.goto 4, 3) := by decide +kernel
theorem dX1_placeWith_20 : decode cX1_placeWith 20 = .ok (.iconst (-1), 1) := by decide +kernel
theorem dX1_placeWith_21 : decode cX1_placeWith 21 = .ok (.ireturn, 1) := by decide +kernel
def wW_X1_placeWith (G : GG) (h0 h1 y0_3 y0_5 : Nat) (x0_0 : Int32) (x0_1 : Int32) (x0_2 : Int32) (a1 : Nat → Int32) : va_W := [(h0, .inr (1, [.int x0_0, .int x0_1, .int x0_2, .ref y0_3, .ref h1, .ref y0_5])), (h1, .inl (G.2.1, 256, .inl a1))]
set_option maxHeartbeats 4000000 in
set_option maxRecDepth 100000 in
theorem c_X1_placeWith (l : Launch) (G : GG) (h0 h1 y0_3 y0_5 : Nat) (sz : Nat) (x0_0 : Int32) (x0_1 : Int32) (x0_2 : Int32) (a1 : Nat → Int32) (F : Nat) (b1 : Int32)  (r0 : Int32) (hf : p_X1_placeWith F a1 b1 = some r0) : Met l yX1_placeWith (.code yX1_placeWith cX1_placeWith 2 (some .int) :: gtbl) ({ frames := 0, cells := 0, slots := 0, locals := 0 } : Room) (PcS G [.ref h0, .int b1] (wW_X1_placeWith G h0 h1 y0_3 y0_5 x0_0 x0_1 x0_2 a1) sz) (QiS G r0 (va_A (wW_X1_placeWith G h0 h1 y0_3 y0_5 x0_0 x0_1 x0_2 a1) sz) (wW_X1_placeWith G h0 h1 y0_3 y0_5 x0_0 x0_1 x0_2 a1)) 0 0 (va_A (wW_X1_placeWith G h0 h1 y0_3 y0_5 x0_0 x0_1 x0_2 a1) sz) := by
  refine met_start (by decide) (Nat.le_of_ble_eq_true rfl) ?_
  intro p e s m below meth c hC hr hlk hnm hK hP hD hA hS hX ls hl
  obtain ⟨hx, hb, hml, hown, ht0⟩ := hC
  have hown : s.vm.findClass RX1 = some m.cls := hown
  generalize va_A (wW_X1_placeWith G h0 h1 y0_3 y0_5 x0_0 x0_1 x0_2 a1) sz = A at hD hA hS hX ⊢
  have hl : lv_has ls 2 [(0, .ref h0), (1, .int b1)] := hl
  have hf : p_X1_placeWith F a1 b1 = some r0 := hf
  refine lv_iload_n hx hb dX1_placeWith_0 rfl (lv_at hl 1 rfl) ?_
  refine lv_if_lt (tgt := 20) hx hb dX1_placeWith_1 (by decide) (fun c1 => ?_) (fun c1 => ?_)
  · have hf := of_pos hf c1
    refine lv_iconst (v := (-1 : Int32)) hx hb dX1_placeWith_20 (by decide) ?_
    cases hf
    exact ret_i hx hb hr hlk hK hP hD hS dX1_placeWith_21
  · have hf := of_neg hf c1
    refine lv_iload_n hx hb dX1_placeWith_4 rfl (lv_at hl 1 rfl) ?_
    refine lv_sipush (v := (256 : Int32)) hx hb dX1_placeWith_5 (by decide) ?_
    refine lv_icmp_ge (tgt := 20) hx hb dX1_placeWith_8 (by decide) (fun c2 => ?_) (fun c2 => ?_)
    · have hf := of_pos hf c2
      refine lv_iconst (v := (-1 : Int32)) hx hb dX1_placeWith_20 (by decide) ?_
      cases hf
      exact ret_i hx hb hr hlk hK hP hD hS dX1_placeWith_21
    · have hf := of_neg hf c2
      refine lv_aload_n hx hb dX1_placeWith_11 rfl (lv_at hl 0 rfl) ?_
      refine va_get (ci := 1) (v := .ref h1) (C := RX1) (T := TX1) (N := 6) hx hb ht0 iX1 hown hK hP 0 rfl rfl 4 (by decide) (ht0 _ wd_232) (fun _ h9 => h9) rfl dX1_placeWith_12 ?_
      refine lv_iload_n hx hb dX1_placeWith_15 rfl (lv_at hl 1 rfl) ?_
      obtain ⟨g3, hf⟩ := of_grd hf
      refine va_iald hx hb hK hP 1 0 rfl rfl g3 dX1_placeWith_16 ?_
      refine lv_goto (tgt := 21) hx hb dX1_placeWith_17 (by decide) ?_
      cases hf
      exact ret_i hx hb hr hlk hK hP hD hS dX1_placeWith_21
theorem yk_X1_placeWith : ykV yX1_placeWith RX1 cX1_placeWith 2 (some .int) 1 := ⟨wd_737, wd_738, wd_131, wd_739, rfl, by decide +kernel, by decide +kernel, by decide +kernel⟩
theorem dX1_pairWith_0 : decode cX1_pairWith 0 = .ok (.iload_n 1, 1) := by decide +kernel
theorem dX1_pairWith_1 : decode cX1_pairWith 1 = .ok (.ifCond .lt 19, 3) := by decide +kernel
theorem dX1_pairWith_4 : decode cX1_pairWith 4 = .ok (.iload_n 1, 1) := by decide +kernel
theorem dX1_pairWith_5 : decode cX1_pairWith 5 = .ok (.sipush 256, 3) := by decide +kernel
theorem dX1_pairWith_8 : decode cX1_pairWith 8 = .ok (.if_icmp .ge 12, 3) := by decide +kernel
theorem dX1_pairWith_11 : decode cX1_pairWith 11 = .ok (.aload_n 0, 1) := by decide +kernel
theorem dX1_pairWith_12 : decode cX1_pairWith 12 = .ok (.getfield 25, 3) := by decide +kernel
theorem dX1_pairWith_15 : decode cX1_pairWith 15 = .ok (.iload_n 1, 1) := by decide +kernel
theorem dX1_pairWith_16 : decode cX1_pairWith 16 = .ok (.iaload, 1) := by decide +kernel
theorem dX1_pairWith_17 : decode cX1_pairWith 17 = .ok (.goto 4, 3) := by decide +kernel
theorem dX1_pairWith_20 : decode cX1_pairWith 20 = .ok (.iconst (-1), 1) := by decide +kernel
theorem dX1_pairWith_21 : decode cX1_pairWith 21 = .ok (.ireturn, 1) := by decide +kernel
def wW_X1_pairWith (G : GG) (h0 h1 y0_3 y0_4 : Nat) (x0_0 : Int32) (x0_1 : Int32) (x0_2 : Int32) (a1 : Nat → Int32) : va_W := [(h0, .inr (1, [.int x0_0, .int x0_1, .int x0_2, .ref y0_3, .ref y0_4, .ref h1])), (h1, .inl (G.2.1, 256, .inl a1))]
set_option maxHeartbeats 4000000 in
set_option maxRecDepth 100000 in
theorem c_X1_pairWith (l : Launch) (G : GG) (h0 h1 y0_3 y0_4 : Nat) (sz : Nat) (x0_0 : Int32) (x0_1 : Int32) (x0_2 : Int32) (a1 : Nat → Int32) (F : Nat) (b1 : Int32)  (r0 : Int32) (hf : p_X1_pairWith F a1 b1 = some r0) : Met l yX1_pairWith (.code yX1_pairWith cX1_pairWith 2 (some .int) :: gtbl) ({ frames := 0, cells := 0, slots := 0, locals := 0 } : Room) (PcS G [.ref h0, .int b1] (wW_X1_pairWith G h0 h1 y0_3 y0_4 x0_0 x0_1 x0_2 a1) sz) (QiS G r0 (va_A (wW_X1_pairWith G h0 h1 y0_3 y0_4 x0_0 x0_1 x0_2 a1) sz) (wW_X1_pairWith G h0 h1 y0_3 y0_4 x0_0 x0_1 x0_2 a1)) 0 0 (va_A (wW_X1_pairWith G h0 h1 y0_3 y0_4 x0_0 x0_1 x0_2 a1) sz) := by
  refine met_start (by decide) (Nat.le_of_ble_eq_true rfl) ?_
  intro p e s m below meth c hC hr hlk hnm hK hP hD hA hS hX ls hl
  obtain ⟨hx, hb, hml, hown, ht0⟩ := hC
  have hown : s.vm.findClass RX1 = some m.cls := hown
  generalize va_A (wW_X1_pairWith G h0 h1 y0_3 y0_4 x0_0 x0_1 x0_2 a1) sz = A at hD hA hS hX ⊢
  have hl : lv_has ls 2 [(0, .ref h0), (1, .int b1)] := hl
  have hf : p_X1_pairWith F a1 b1 = some r0 := hf
  refine lv_iload_n hx hb dX1_pairWith_0 rfl (lv_at hl 1 rfl) ?_
  refine lv_if_lt (tgt := 20) hx hb dX1_pairWith_1 (by decide) (fun c1 => ?_) (fun c1 => ?_)
  · have hf := of_pos hf c1
    refine lv_iconst (v := (-1 : Int32)) hx hb dX1_pairWith_20 (by decide) ?_
    cases hf
    exact ret_i hx hb hr hlk hK hP hD hS dX1_pairWith_21
  · have hf := of_neg hf c1
    refine lv_iload_n hx hb dX1_pairWith_4 rfl (lv_at hl 1 rfl) ?_
    refine lv_sipush (v := (256 : Int32)) hx hb dX1_pairWith_5 (by decide) ?_
    refine lv_icmp_ge (tgt := 20) hx hb dX1_pairWith_8 (by decide) (fun c2 => ?_) (fun c2 => ?_)
    · have hf := of_pos hf c2
      refine lv_iconst (v := (-1 : Int32)) hx hb dX1_pairWith_20 (by decide) ?_
      cases hf
      exact ret_i hx hb hr hlk hK hP hD hS dX1_pairWith_21
    · have hf := of_neg hf c2
      refine lv_aload_n hx hb dX1_pairWith_11 rfl (lv_at hl 0 rfl) ?_
      refine va_get (ci := 1) (v := .ref h1) (C := RX1) (T := TX1) (N := 6) hx hb ht0 iX1 hown hK hP 0 rfl rfl 5 (by decide) (ht0 _ wd_233) (fun _ h9 => h9) rfl dX1_pairWith_12 ?_
      refine lv_iload_n hx hb dX1_pairWith_15 rfl (lv_at hl 1 rfl) ?_
      obtain ⟨g3, hf⟩ := of_grd hf
      refine va_iald hx hb hK hP 1 0 rfl rfl g3 dX1_pairWith_16 ?_
      refine lv_goto (tgt := 21) hx hb dX1_pairWith_17 (by decide) ?_
      cases hf
      exact ret_i hx hb hr hlk hK hP hD hS dX1_pairWith_21
theorem yk_X1_pairWith : ykV yX1_pairWith RX1 cX1_pairWith 2 (some .int) 1 := ⟨wd_847, wd_848, wd_131, wd_849, rfl, by decide +kernel, by decide +kernel, by decide +kernel⟩
theorem dX1_resetSize_0 : decode cX1_resetSize 0 = .ok (.aload_n 0, 1) := by decide +kernel
theorem dX1_resetSize_1 : decode cX1_resetSize 1 = .ok (.bipush 8, 2) := by decide +kernel
theorem dX1_resetSize_3 : decode cX1_resetSize 3 = .ok (.putfield 9, 3) := by decide +kernel
theorem dX1_resetSize_6 : decode cX1_resetSize 6 = .ok (.aload_n 0, 1) := by decide +kernel
theorem dX1_resetSize_7 : decode cX1_resetSize 7 = .ok (.iconst 5, 1) := by decide +kernel
theorem dX1_resetSize_8 : decode cX1_resetSize 8 = .ok (.putfield 15, 3) := by decide +kernel
theorem dX1_resetSize_11 : decode cX1_resetSize 11 = .ok (.aload_n 0, 1) := by decide +kernel
theorem dX1_resetSize_12 : decode cX1_resetSize 12 = .ok (.iconst 0, 1) := by decide +kernel
theorem dX1_resetSize_13 : decode cX1_resetSize 13 = .ok (.putfield 41, 3) := by decide +kernel
theorem dX1_resetSize_16 : decode cX1_resetSize 16 = .ok (.return_, 1) := by decide +kernel
def wW_X1_resetSize (G : GG) (h0 y0_3 y0_4 y0_5 : Nat) (x0_0 : Int32) (x0_1 : Int32) (x0_2 : Int32) : va_W := [(h0, .inr (1, [.int x0_0, .int x0_1, .int x0_2, .ref y0_3, .ref y0_4, .ref y0_5]))]
set_option maxHeartbeats 4000000 in
set_option maxRecDepth 100000 in
theorem c_X1_resetSize (l : Launch) (G : GG) (h0 y0_3 y0_4 y0_5 : Nat) (sz : Nat) (x0_0 : Int32) (x0_1 : Int32) (x0_2 : Int32) (F : Nat)   (e_x0_0 : Int32) (e_x0_1 : Int32) (e_x0_2 : Int32) (hf : p_X1_resetSize F x0_0 x0_1 x0_2  = some (e_x0_0, e_x0_1, e_x0_2)) : Met l yX1_resetSize (.code yX1_resetSize cX1_resetSize 1 none :: gtbl) ({ frames := 0, cells := 0, slots := 0, locals := 0 } : Room) (PcS G [.ref h0] (wW_X1_resetSize G h0 y0_3 y0_4 y0_5 x0_0 x0_1 x0_2) sz) (QvS G (va_A (wW_X1_resetSize G h0 y0_3 y0_4 y0_5 x0_0 x0_1 x0_2) sz) (wW_X1_resetSize G h0 y0_3 y0_4 y0_5 e_x0_0 e_x0_1 e_x0_2)) 0 0 (va_A (wW_X1_resetSize G h0 y0_3 y0_4 y0_5 x0_0 x0_1 x0_2) sz) := by
  refine met_start (by decide) (Nat.le_of_ble_eq_true rfl) ?_
  intro p e s m below meth c hC hr hlk hnm hK hP hD hA hS hX ls hl
  obtain ⟨hx, hb, hml, hown, ht0⟩ := hC
  have hown : s.vm.findClass RX1 = some m.cls := hown
  generalize va_A (wW_X1_resetSize G h0 y0_3 y0_4 y0_5 x0_0 x0_1 x0_2) sz = A at hD hA hS hX ⊢
  have hl : lv_has ls 1 [(0, .ref h0)] := hl
  have hf : p_X1_resetSize F x0_0 x0_1 x0_2  = some (e_x0_0, e_x0_1, e_x0_2) := hf
  refine lv_aload_n hx hb dX1_resetSize_0 rfl (lv_at hl 0 rfl) ?_
  refine lv_bipush (v := (8 : Int32)) hx hb dX1_resetSize_1 (by decide) ?_
  refine va_put (ci := 1) (v := .int (8 : Int32)) (ty := .int) (C := RX1) (T := TX1) (N := 6) hx hb ht0 iX1 tyX1 tyX1_ok nmX1 hown hK hP hD hS 0 rfl rfl 0 (by decide) (ht0 _ wd_209) (fun _ h9 => h9) rfl rfl rfl rfl (Nat.le_of_ble_eq_true rfl) dX1_resetSize_3 (fun H locs hP hD hS => ?_)
  have hP : va_P G.1 vwCl (wW_X1_resetSize G h0 y0_3 y0_4 y0_5 (8 : Int32) x0_1 x0_2) H := hP
  have hD : va_D A (wW_X1_resetSize G h0 y0_3 y0_4 y0_5 (8 : Int32) x0_1 x0_2) := hD
  refine lv_aload_n hx hb dX1_resetSize_6 rfl (lv_at hl 0 rfl) ?_
  refine lv_iconst (v := (5 : Int32)) hx hb dX1_resetSize_7 (by decide) ?_
  refine va_put (ci := 1) (v := .int (5 : Int32)) (ty := .int) (C := RX1) (T := TX1) (N := 6) hx hb ht0 iX1 tyX1 tyX1_ok nmX1 hown hK hP hD hS 0 rfl rfl 1 (by decide) (ht0 _ wd_215) (fun _ h9 => h9) rfl rfl rfl rfl (Nat.le_of_ble_eq_true rfl) dX1_resetSize_8 (fun H locs hP hD hS => ?_)
  have hP : va_P G.1 vwCl (wW_X1_resetSize G h0 y0_3 y0_4 y0_5 (8 : Int32) (5 : Int32) x0_2) H := hP
  have hD : va_D A (wW_X1_resetSize G h0 y0_3 y0_4 y0_5 (8 : Int32) (5 : Int32) x0_2) := hD
  refine lv_aload_n hx hb dX1_resetSize_11 rfl (lv_at hl 0 rfl) ?_
  refine lv_iconst (v := (0 : Int32)) hx hb dX1_resetSize_12 (by decide) ?_
  refine va_put (ci := 1) (v := .int (0 : Int32)) (ty := .boolean) (C := RX1) (T := TX1) (N := 6) hx hb ht0 iX1 tyX1 tyX1_ok nmX1 hown hK hP hD hS 0 rfl rfl 2 (by decide) (ht0 _ wd_223) (fun _ h9 => h9) rfl rfl rfl rfl (Nat.le_of_ble_eq_true rfl) dX1_resetSize_13 (fun H locs hP hD hS => ?_)
  have hP : va_P G.1 vwCl (wW_X1_resetSize G h0 y0_3 y0_4 y0_5 (8 : Int32) (5 : Int32) (0 : Int32)) H := hP
  have hD : va_D A (wW_X1_resetSize G h0 y0_3 y0_4 y0_5 (8 : Int32) (5 : Int32) (0 : Int32)) := hD
  cases hf
  exact ret_v hx hb hr hlk hK hP hD hS dX1_resetSize_16
theorem yk_X1_resetSize : ykV yX1_resetSize RX1 cX1_resetSize 1 none 0 := ⟨wd_609, wd_610, wd_131, wd_611, rfl, by decide +kernel, by decide +kernel, by decide +kernel⟩
theorem dX1_copyFrom_0 : decode cX1_copyFrom 0 = .ok (.aload_n 0, 1) := by decide +kernel
theorem dX1_copyFrom_1 : decode cX1_copyFrom 1 = .ok (.aload_n 1, 1) := by decide +kernel
theorem dX1_copyFrom_2 : decode cX1_copyFrom 2 = .ok (.getfield 9, 3) := by decide +kernel
theorem dX1_copyFrom_5 : decode cX1_copyFrom 5 = .ok (.putfield 9, 3) := by decide +kernel
theorem dX1_copyFrom_8 : decode cX1_copyFrom 8 = .ok (.aload_n 0, 1) := by decide +kernel
theorem dX1_copyFrom_9 : decode cX1_copyFrom 9 = .ok (.aload_n 1, 1) := by decide +kernel
theorem dX1_copyFrom_10 : decode cX1_copyFrom 10 = .ok (.getfield 15, 3) := by decide +kernel
theorem dX1_copyFrom_13 : decode cX1_copyFrom 13 = .ok (.putfield 15, 3) := by decide +kernel
theorem dX1_copyFrom_16 : decode cX1_copyFrom 16 = .ok (.aload_n 0, 1) := by decide +kernel
theorem dX1_copyFrom_17 : decode cX1_copyFrom 17 = .ok (.aload_n 1, 1) := by decide +kernel
theorem dX1_copyFrom_18 : decode cX1_copyFrom 18 = .ok (.getfield 41, 3) := by decide +kernel
theorem dX1_copyFrom_21 : decode cX1_copyFrom 21 = .ok (.putfield 41, 3) := by decide +kernel
theorem dX1_copyFrom_24 : decode cX1_copyFrom 24 = .ok (.aload_n 1, 1) := by decide +kernel
theorem dX1_copyFrom_25 : decode cX1_copyFrom 25 = .ok (.getfield 18, 3) := by decide +kernel
theorem dX1_copyFrom_28 : decode cX1_copyFrom 28 = .ok (.iconst 0, 1) := by decide +kernel
theorem dX1_copyFrom_29 : decode cX1_copyFrom 29 = .ok (.aload_n 0, 1) := by decide +kernel
theorem dX1_copyFrom_30 : decode cX1_copyFrom 30 = .ok (.getfield 18, 3) := by decide +kernel
theorem dX1_copyFrom_33 : decode cX1_copyFrom 33 = .ok (.iconst 0, 1) := by decide +kernel
theorem dX1_copyFrom_34 : decode cX1_copyFrom 34 = .ok (.bipush 32, 2) := by decide +kernel
theorem dX1_copyFrom_36 : decode cX1_copyFrom 36 = .ok (.invokestatic 45, 3) := by decide +kernel
theorem dX1_copyFrom_39 : decode cX1_copyFrom 39 = .ok (.aload_n 1, 1) := by decide +kernel
theorem dX1_copyFrom_40 : decode cX1_copyFrom 40 = .ok (.getfield 22, 3) := by decide +kernel
theorem dX1_copyFrom_43 : decode cX1_copyFrom 43 = .ok (.iconst 0, 1) := by decide +kernel
theorem dX1_copyFrom_44 : decode cX1_copyFrom 44 = .ok (.aload_n 0, 1) := by decide +kernel
theorem dX1_copyFrom_45 : decode cX1_copyFrom 45 = .ok (.getfield 22, 3) := by decide +kernel
theorem dX1_copyFrom_48 : decode cX1_copyFrom 48 = .ok (.iconst 0, 1) := by decide +kernel
theorem dX1_copyFrom_49 : decode cX1_copyFrom 49 = .ok (.sipush 256, 3) := by decide +kernel
theorem dX1_copyFrom_52 : decode cX1_copyFrom 52 = .ok (.invokestatic 45, 3) := by decide +kernel
theorem dX1_copyFrom_55 : decode cX1_copyFrom 55 = .ok (.aload_n 1, 1) := by decide +kernel
theorem dX1_copyFrom_56 : decode cX1_copyFrom 56 = .ok (.getfield 25, 3) := by decide +kernel
theorem dX1_copyFrom_59 : decode cX1_copyFrom 59 = .ok (.iconst 0, 1) := by decide +kernel
theorem dX1_copyFrom_60 : decode cX1_copyFrom 60 = .ok (.aload_n 0, 1) := by decide +kernel
theorem dX1_copyFrom_61 : decode cX1_copyFrom 61 = .ok (.getfield 25, 3) := by decide +kernel
theorem dX1_copyFrom_64 : decode cX1_copyFrom 64 = .ok (.iconst 0, 1) := by decide +kernel
theorem dX1_copyFrom_65 : decode cX1_copyFrom 65 = .ok (.sipush 256, 3) := by decide +kernel
theorem dX1_copyFrom_68 : decode cX1_copyFrom 68 = .ok (.invokestatic 45, 3) := by decide +kernel
theorem dX1_copyFrom_71 : decode cX1_copyFrom 71 = .ok (.return_, 1) := by decide +kernel
def wW_X1_copyFrom (G : GG) (h0 h1 h2 h3 h4 h5 h6 h7 : Nat) (x0_0 : Int32) (x0_1 : Int32) (x0_2 : Int32) (a1 : Nat → Int32) (a2 : Nat → Int32) (a3 : Nat → Int32) (x4_0 : Int32) (x4_1 : Int32) (x4_2 : Int32) (a5 : Nat → Int32) (a6 : Nat → Int32) (a7 : Nat → Int32) : va_W := [(h0, .inr (1, [.int x0_0, .int x0_1, .int x0_2, .ref h1, .ref h2, .ref h3])), (h1, .inl (G.2.1, 32, .inl a1)), (h2, .inl (G.2.1, 256, .inl a2)), (h3, .inl (G.2.1, 256, .inl a3)), (h4, .inr (1, [.int x4_0, .int x4_1, .int x4_2, .ref h5, .ref h6, .ref h7])), (h5, .inl (G.2.1, 32, .inl a5)), (h6, .inl (G.2.1, 256, .inl a6)), (h7, .inl (G.2.1, 256, .inl a7))]
set_option maxHeartbeats 4000000 in
set_option maxRecDepth 100000 in
theorem c_X1_copyFrom (l : Launch) (G : GG) (h0 h1 h2 h3 h4 h5 h6 h7 : Nat) (sz : Nat) (x0_0 : Int32) (x0_1 : Int32) (x0_2 : Int32) (a1 : Nat → Int32) (a2 : Nat → Int32) (a3 : Nat → Int32) (x4_0 : Int32) (x4_1 : Int32) (x4_2 : Int32) (a5 : Nat → Int32) (a6 : Nat → Int32) (a7 : Nat → Int32) (F : Nat)   (e_x0_0 : Int32) (e_x0_1 : Int32) (e_x0_2 : Int32) (e_a1 : Nat → Int32) (e_a2 : Nat → Int32) (e_a3 : Nat → Int32) (hf : p_X1_copyFrom F x0_0 x0_1 x0_2 a1 a2 a3 x4_0 x4_1 x4_2 a5 a6 a7  = some (e_x0_0, e_x0_1, e_x0_2, e_a1, e_a2, e_a3)) : Met l yX1_copyFrom (.code yX1_copyFrom cX1_copyFrom 2 none :: gtbl) ({ frames := 1, cells := 0, slots := 0, locals := 48 } : Room) (PcS G [.ref h0, .ref h4] (wW_X1_copyFrom G h0 h1 h2 h3 h4 h5 h6 h7 x0_0 x0_1 x0_2 a1 a2 a3 x4_0 x4_1 x4_2 a5 a6 a7) sz) (QvS G (va_A (wW_X1_copyFrom G h0 h1 h2 h3 h4 h5 h6 h7 x0_0 x0_1 x0_2 a1 a2 a3 x4_0 x4_1 x4_2 a5 a6 a7) sz) (wW_X1_copyFrom G h0 h1 h2 h3 h4 h5 h6 h7 e_x0_0 e_x0_1 e_x0_2 e_a1 e_a2 e_a3 x4_0 x4_1 x4_2 a5 a6 a7)) 0 0 (va_A (wW_X1_copyFrom G h0 h1 h2 h3 h4 h5 h6 h7 x0_0 x0_1 x0_2 a1 a2 a3 x4_0 x4_1 x4_2 a5 a6 a7) sz) := by
  refine met_start (by decide) (Nat.le_of_ble_eq_true rfl) ?_
  intro p e s m below meth c hC hr hlk hnm hK hP hD hA hS hX ls hl
  obtain ⟨hx, hb, hml, hown, ht0⟩ := hC
  have hown : s.vm.findClass RX1 = some m.cls := hown
  generalize va_A (wW_X1_copyFrom G h0 h1 h2 h3 h4 h5 h6 h7 x0_0 x0_1 x0_2 a1 a2 a3 x4_0 x4_1 x4_2 a5 a6 a7) sz = A at hD hA hS hX ⊢
  have hl : lv_has ls 2 [(0, .ref h0), (1, .ref h4)] := hl
  have hf : p_X1_copyFrom F x0_0 x0_1 x0_2 a1 a2 a3 x4_0 x4_1 x4_2 a5 a6 a7  = some (e_x0_0, e_x0_1, e_x0_2, e_a1, e_a2, e_a3) := hf
  refine lv_aload_n hx hb dX1_copyFrom_0 rfl (lv_at hl 0 rfl) ?_
  refine lv_aload_n hx hb dX1_copyFrom_1 rfl (lv_at hl 1 rfl) ?_
  refine va_get (ci := 1) (v := .int x4_0) (C := RX1) (T := TX1) (N := 6) hx hb ht0 iX1 hown hK hP 4 rfl rfl 0 (by decide) (ht0 _ wd_209) (fun _ h9 => h9) rfl dX1_copyFrom_2 ?_
  refine va_put (ci := 1) (v := .int x4_0) (ty := .int) (C := RX1) (T := TX1) (N := 6) hx hb ht0 iX1 tyX1 tyX1_ok nmX1 hown hK hP hD hS 0 rfl rfl 0 (by decide) (ht0 _ wd_209) (fun _ h9 => h9) rfl rfl rfl rfl (Nat.le_of_ble_eq_true rfl) dX1_copyFrom_5 (fun H locs hP hD hS => ?_)
  have hP : va_P G.1 vwCl (wW_X1_copyFrom G h0 h1 h2 h3 h4 h5 h6 h7 x4_0 x0_1 x0_2 a1 a2 a3 x4_0 x4_1 x4_2 a5 a6 a7) H := hP
  have hD : va_D A (wW_X1_copyFrom G h0 h1 h2 h3 h4 h5 h6 h7 x4_0 x0_1 x0_2 a1 a2 a3 x4_0 x4_1 x4_2 a5 a6 a7) := hD
  refine lv_aload_n hx hb dX1_copyFrom_8 rfl (lv_at hl 0 rfl) ?_
  refine lv_aload_n hx hb dX1_copyFrom_9 rfl (lv_at hl 1 rfl) ?_
  refine va_get (ci := 1) (v := .int x4_1) (C := RX1) (T := TX1) (N := 6) hx hb ht0 iX1 hown hK hP 4 rfl rfl 1 (by decide) (ht0 _ wd_215) (fun _ h9 => h9) rfl dX1_copyFrom_10 ?_
  refine va_put (ci := 1) (v := .int x4_1) (ty := .int) (C := RX1) (T := TX1) (N := 6) hx hb ht0 iX1 tyX1 tyX1_ok nmX1 hown hK hP hD hS 0 rfl rfl 1 (by decide) (ht0 _ wd_215) (fun _ h9 => h9) rfl rfl rfl rfl (Nat.le_of_ble_eq_true rfl) dX1_copyFrom_13 (fun H locs hP hD hS => ?_)
  have hP : va_P G.1 vwCl (wW_X1_copyFrom G h0 h1 h2 h3 h4 h5 h6 h7 x4_0 x4_1 x0_2 a1 a2 a3 x4_0 x4_1 x4_2 a5 a6 a7) H := hP
  have hD : va_D A (wW_X1_copyFrom G h0 h1 h2 h3 h4 h5 h6 h7 x4_0 x4_1 x0_2 a1 a2 a3 x4_0 x4_1 x4_2 a5 a6 a7) := hD
  refine lv_aload_n hx hb dX1_copyFrom_16 rfl (lv_at hl 0 rfl) ?_
  refine lv_aload_n hx hb dX1_copyFrom_17 rfl (lv_at hl 1 rfl) ?_
  refine va_get (ci := 1) (v := .int x4_2) (C := RX1) (T := TX1) (N := 6) hx hb ht0 iX1 hown hK hP 4 rfl rfl 2 (by decide) (ht0 _ wd_223) (fun _ h9 => h9) rfl dX1_copyFrom_18 ?_
  obtain ⟨g1, hf⟩ := of_grd hf
  have g1 := Decidable.not_not.mp g1
  refine va_put (ci := 1) (v := .int x4_2) (ty := .boolean) (C := RX1) (T := TX1) (N := 6) hx hb ht0 iX1 tyX1 tyX1_ok nmX1 hown hK hP hD hS 0 rfl rfl 2 (by decide) (ht0 _ wd_223) (fun _ h9 => h9) rfl rfl (bz_n g1) (bz_f g1) (Nat.le_of_ble_eq_true rfl) dX1_copyFrom_21 (fun H locs hP hD hS => ?_)
  have hP : va_P G.1 vwCl (wW_X1_copyFrom G h0 h1 h2 h3 h4 h5 h6 h7 x4_0 x4_1 x4_2 a1 a2 a3 x4_0 x4_1 x4_2 a5 a6 a7) H := hP
  have hD : va_D A (wW_X1_copyFrom G h0 h1 h2 h3 h4 h5 h6 h7 x4_0 x4_1 x4_2 a1 a2 a3 x4_0 x4_1 x4_2 a5 a6 a7) := hD
  refine lv_aload_n hx hb dX1_copyFrom_24 rfl (lv_at hl 1 rfl) ?_
  refine va_get (ci := 1) (v := .ref h5) (C := RX1) (T := TX1) (N := 6) hx hb ht0 iX1 hown hK hP 4 rfl rfl 3 (by decide) (ht0 _ wd_226) (fun _ h9 => h9) rfl dX1_copyFrom_25 ?_
  refine lv_iconst (v := (0 : Int32)) hx hb dX1_copyFrom_28 (by decide) ?_
  refine lv_aload_n hx hb dX1_copyFrom_29 rfl (lv_at hl 0 rfl) ?_
  refine va_get (ci := 1) (v := .ref h1) (C := RX1) (T := TX1) (N := 6) hx hb ht0 iX1 hown hK hP 0 rfl rfl 3 (by decide) (ht0 _ wd_226) (fun _ h9 => h9) rfl dX1_copyFrom_30 ?_
  refine lv_iconst (v := (0 : Int32)) hx hb dX1_copyFrom_33 (by decide) ?_
  refine lv_bipush (v := (32 : Int32)) hx hb dX1_copyFrom_34 (by decide) ?_
  have g2 : ¬ ((0 : Int32) < 0 ∨ (0 : Int32) < 0 ∨ (32 : Int32) < 0 ∨ 32 < (0 : Int32).toNatClampNeg + (32 : Int32).toNatClampNeg ∨ 32 < (0 : Int32).toNatClampNeg + (32 : Int32).toNatClampNeg) := by decide
  refine va_copyi hx hb (by rw [hml]; exact hl.1.symm) hown (ht0 _ wd_539) (ht0 _ wd_521) (ht0 _ wd_520) (ht0 _ wd_141) hK hP hD hS 5 1 0 0 rfl rfl rfl rfl rfl (fun q => g2 (Or.inl q)) (fun q => g2 (Or.inr (Or.inl q))) (fun q => g2 (Or.inr (Or.inr (Or.inl q)))) (Nat.not_lt.mp (fun q => g2 (Or.inr (Or.inr (Or.inr (Or.inl q)))))) (Nat.not_lt.mp (fun q => g2 (Or.inr (Or.inr (Or.inr (Or.inr q)))))) (fun _ _ => rfl) (by decide) (Nat.le_of_ble_eq_true rfl) dX1_copyFrom_36 (fun H locs hP hD hS => ?_)
  have hP : va_P G.1 vwCl (wW_X1_copyFrom G h0 h1 h2 h3 h4 h5 h6 h7 x4_0 x4_1 x4_2 (va_cpy a5 a1 (0 : Int32).toNatClampNeg (0 : Int32).toNatClampNeg (32 : Int32).toNatClampNeg) a2 a3 x4_0 x4_1 x4_2 a5 a6 a7) H := hP
  have hD : va_D A (wW_X1_copyFrom G h0 h1 h2 h3 h4 h5 h6 h7 x4_0 x4_1 x4_2 (va_cpy a5 a1 (0 : Int32).toNatClampNeg (0 : Int32).toNatClampNeg (32 : Int32).toNatClampNeg) a2 a3 x4_0 x4_1 x4_2 a5 a6 a7) := hD
  refine lv_aload_n hx hb dX1_copyFrom_39 rfl (lv_at hl 1 rfl) ?_
  refine va_get (ci := 1) (v := .ref h6) (C := RX1) (T := TX1) (N := 6) hx hb ht0 iX1 hown hK hP 4 rfl rfl 4 (by decide) (ht0 _ wd_232) (fun _ h9 => h9) rfl dX1_copyFrom_40 ?_
  refine lv_iconst (v := (0 : Int32)) hx hb dX1_copyFrom_43 (by decide) ?_
  refine lv_aload_n hx hb dX1_copyFrom_44 rfl (lv_at hl 0 rfl) ?_
  refine va_get (ci := 1) (v := .ref h2) (C := RX1) (T := TX1) (N := 6) hx hb ht0 iX1 hown hK hP 0 rfl rfl 4 (by decide) (ht0 _ wd_232) (fun _ h9 => h9) rfl dX1_copyFrom_45 ?_
  refine lv_iconst (v := (0 : Int32)) hx hb dX1_copyFrom_48 (by decide) ?_
  refine lv_sipush (v := (256 : Int32)) hx hb dX1_copyFrom_49 (by decide) ?_
  have g3 : ¬ ((0 : Int32) < 0 ∨ (0 : Int32) < 0 ∨ (256 : Int32) < 0 ∨ 256 < (0 : Int32).toNatClampNeg + (256 : Int32).toNatClampNeg ∨ 256 < (0 : Int32).toNatClampNeg + (256 : Int32).toNatClampNeg) := by decide
  refine va_copyi hx hb (by rw [hml]; exact hl.1.symm) hown (ht0 _ wd_539) (ht0 _ wd_521) (ht0 _ wd_520) (ht0 _ wd_141) hK hP hD hS 6 2 0 0 rfl rfl rfl rfl rfl (fun q => g3 (Or.inl q)) (fun q => g3 (Or.inr (Or.inl q))) (fun q => g3 (Or.inr (Or.inr (Or.inl q)))) (Nat.not_lt.mp (fun q => g3 (Or.inr (Or.inr (Or.inr (Or.inl q)))))) (Nat.not_lt.mp (fun q => g3 (Or.inr (Or.inr (Or.inr (Or.inr q)))))) (fun _ _ => rfl) (by decide) (Nat.le_of_ble_eq_true rfl) dX1_copyFrom_52 (fun H locs hP hD hS => ?_)
  have hP : va_P G.1 vwCl (wW_X1_copyFrom G h0 h1 h2 h3 h4 h5 h6 h7 x4_0 x4_1 x4_2 (va_cpy a5 a1 (0 : Int32).toNatClampNeg (0 : Int32).toNatClampNeg (32 : Int32).toNatClampNeg) (va_cpy a6 a2 (0 : Int32).toNatClampNeg (0 : Int32).toNatClampNeg (256 : Int32).toNatClampNeg) a3 x4_0 x4_1 x4_2 a5 a6 a7) H := hP
  have hD : va_D A (wW_X1_copyFrom G h0 h1 h2 h3 h4 h5 h6 h7 x4_0 x4_1 x4_2 (va_cpy a5 a1 (0 : Int32).toNatClampNeg (0 : Int32).toNatClampNeg (32 : Int32).toNatClampNeg) (va_cpy a6 a2 (0 : Int32).toNatClampNeg (0 : Int32).toNatClampNeg (256 : Int32).toNatClampNeg) a3 x4_0 x4_1 x4_2 a5 a6 a7) := hD
  refine lv_aload_n hx hb dX1_copyFrom_55 rfl (lv_at hl 1 rfl) ?_
  refine va_get (ci := 1) (v := .ref h7) (C := RX1) (T := TX1) (N := 6) hx hb ht0 iX1 hown hK hP 4 rfl rfl 5 (by decide) (ht0 _ wd_233) (fun _ h9 => h9) rfl dX1_copyFrom_56 ?_
  refine lv_iconst (v := (0 : Int32)) hx hb dX1_copyFrom_59 (by decide) ?_
  refine lv_aload_n hx hb dX1_copyFrom_60 rfl (lv_at hl 0 rfl) ?_
  refine va_get (ci := 1) (v := .ref h3) (C := RX1) (T := TX1) (N := 6) hx hb ht0 iX1 hown hK hP 0 rfl rfl 5 (by decide) (ht0 _ wd_233) (fun _ h9 => h9) rfl dX1_copyFrom_61 ?_
  refine lv_iconst (v := (0 : Int32)) hx hb dX1_copyFrom_64 (by decide) ?_
  refine lv_sipush (v := (256 : Int32)) hx hb dX1_copyFrom_65 (by decide) ?_
  have g4 : ¬ ((0 : Int32) < 0 ∨ (0 : Int32) < 0 ∨ (256 : Int32) < 0 ∨ 256 < (0 : Int32).toNatClampNeg + (256 : Int32).toNatClampNeg ∨ 256 < (0 : Int32).toNatClampNeg + (256 : Int32).toNatClampNeg) := by decide
  refine va_copyi hx hb (by rw [hml]; exact hl.1.symm) hown (ht0 _ wd_539) (ht0 _ wd_521) (ht0 _ wd_520) (ht0 _ wd_141) hK hP hD hS 7 3 0 0 rfl rfl rfl rfl rfl (fun q => g4 (Or.inl q)) (fun q => g4 (Or.inr (Or.inl q))) (fun q => g4 (Or.inr (Or.inr (Or.inl q)))) (Nat.not_lt.mp (fun q => g4 (Or.inr (Or.inr (Or.inr (Or.inl q)))))) (Nat.not_lt.mp (fun q => g4 (Or.inr (Or.inr (Or.inr (Or.inr q)))))) (fun _ _ => rfl) (by decide) (Nat.le_of_ble_eq_true rfl) dX1_copyFrom_68 (fun H locs hP hD hS => ?_)
  have hP : va_P G.1 vwCl (wW_X1_copyFrom G h0 h1 h2 h3 h4 h5 h6 h7 x4_0 x4_1 x4_2 (va_cpy a5 a1 (0 : Int32).toNatClampNeg (0 : Int32).toNatClampNeg (32 : Int32).toNatClampNeg) (va_cpy a6 a2 (0 : Int32).toNatClampNeg (0 : Int32).toNatClampNeg (256 : Int32).toNatClampNeg) (va_cpy a7 a3 (0 : Int32).toNatClampNeg (0 : Int32).toNatClampNeg (256 : Int32).toNatClampNeg) x4_0 x4_1 x4_2 a5 a6 a7) H := hP
  have hD : va_D A (wW_X1_copyFrom G h0 h1 h2 h3 h4 h5 h6 h7 x4_0 x4_1 x4_2 (va_cpy a5 a1 (0 : Int32).toNatClampNeg (0 : Int32).toNatClampNeg (32 : Int32).toNatClampNeg) (va_cpy a6 a2 (0 : Int32).toNatClampNeg (0 : Int32).toNatClampNeg (256 : Int32).toNatClampNeg) (va_cpy a7 a3 (0 : Int32).toNatClampNeg (0 : Int32).toNatClampNeg (256 : Int32).toNatClampNeg) x4_0 x4_1 x4_2 a5 a6 a7) := hD
  cases hf
  exact ret_v hx hb hr hlk hK hP hD hS dX1_copyFrom_71
theorem yk_X1_copyFrom : ykV yX1_copyFrom RX1 cX1_copyFrom 2 none 1 := ⟨wd_536, wd_537, wd_131, wd_538, rfl, by decide +kernel, by decide +kernel, by decide +kernel⟩
theorem dX1_hasColumnsOf_0 : decode cX1_hasColumnsOf 0 = .ok (.iconst 0, 1) := by decide +kernel
theorem dX1_hasColumnsOf_1 : decode cX1_hasColumnsOf 1 = .ok (.istore_n 2, 1) := by decide +kernel
theorem dX1_hasColumnsOf_2 : decode cX1_hasColumnsOf 2 = .ok (.iload_n 2, 1) := by decide +kernel
theorem dX1_hasColumnsOf_3 : decode cX1_hasColumnsOf 3 = .ok (.aload_n 0, 1) := by decide +kernel
theorem dX1_hasColumnsOf_4 : decode cX1_hasColumnsOf 4 = .ok (.getfield 9, 3) := by decide +kernel
theorem dX1_hasColumnsOf_7 : decode cX1_hasColumnsOf 7 = .ok (.if_icmp .ge 26, 3) := by decide +kernel
theorem dX1_hasColumnsOf_10 : decode cX1_hasColumnsOf 10 = .ok (.aload_n 0, 1) := by decide +kernel
theorem dX1_hasColumnsOf_11 : decode cX1_hasColumnsOf 11 = .ok (.getfield 18, 3) := by decide +kernel
theorem dX1_hasColumnsOf_14 : decode cX1_hasColumnsOf 14 = .ok (.iload_n 2, 1) := by decide +kernel
theorem dX1_hasColumnsOf_15 : decode cX1_hasColumnsOf 15 = .ok (.iaload, 1) := by decide +kernel
theorem dX1_hasColumnsOf_16 : decode cX1_hasColumnsOf 16 = .ok (.aload_n 1, 1) := by decide +kernel
theorem dX1_hasColumnsOf_17 : decode cX1_hasColumnsOf 17 = .ok (.getfield 18, 3) := by decide +kernel
theorem dX1_hasColumnsOf_20 : decode cX1_hasColumnsOf 20 = .ok (.iload_n 2, 1) := by decide +kernel
theorem dX1_hasColumnsOf_21 : decode cX1_hasColumnsOf 21 = .ok (.iaload, 1) := by decide +kernel
theorem dX1_hasColumnsOf_22 : decode cX1_hasColumnsOf 22 = .ok (.if_icmp .eq 5, 3) := by decide +kernel
theorem dX1_hasColumnsOf_25 : decode cX1_hasColumnsOf 25 = .ok (.iconst 0, 1) := by decide +kernel
theorem dX1_hasColumnsOf_26 : decode cX1_hasColumnsOf 26 = .ok (.ireturn, 1) := by decide +kernel
theorem dX1_hasColumnsOf_27 : decode cX1_hasColumnsOf 27 = .ok (.iinc 2 1, 3) := by decide +kernel
theorem dX1_hasColumnsOf_30 : decode cX1_hasColumnsOf 30 = .ok (.goto (-28), 3) := by decide +kernel
theorem dX1_hasColumnsOf_33 : decode cX1_hasColumnsOf 33 = .ok (.iconst 1, 1) := by decide +kernel
theorem dX1_hasColumnsOf_34 : decode cX1_hasColumnsOf 34 = .ok (.ireturn, 1) := by decide +kernel
def wW_X1_hasColumnsOf (G : GG) (h0 h1 h2 h3 y0_4 y0_5 y2_4 y2_5 : Nat) (x0_0 : Int32) (x0_1 : Int32) (x0_2 : Int32) (a1 : Nat → Int32) (x2_0 : Int32) (x2_1 : Int32) (x2_2 : Int32) (a3 : Nat → Int32) : va_W := [(h0, .inr (1, [.int x0_0, .int x0_1, .int x0_2, .ref h1, .ref y0_4, .ref y0_5])), (h1, .inl (G.2.1, 32, .inl a1)), (h2, .inr (1, [.int x2_0, .int x2_1, .int x2_2, .ref h3, .ref y2_4, .ref y2_5])), (h3, .inl (G.2.1, 32, .inl a3))]
set_option maxHeartbeats 4000000 in
set_option maxRecDepth 100000 in
theorem c_X1_hasColumnsOf (l : Launch) (G : GG) (h0 h1 h2 h3 y0_4 y0_5 y2_4 y2_5 : Nat) (sz : Nat) (x0_0 : Int32) (x0_1 : Int32) (x0_2 : Int32) (a1 : Nat → Int32) (x2_0 : Int32) (x2_1 : Int32) (x2_2 : Int32) (a3 : Nat → Int32) (F : Nat)   (r0 : Int32) (hf : p_X1_hasColumnsOf F x0_0 a1 a3  = some r0) : Met l yX1_hasColumnsOf (.code yX1_hasColumnsOf cX1_hasColumnsOf 3 (some .boolean) :: gtbl) ({ frames := 0, cells := 0, slots := 0, locals := 0 } : Room) (PcS G [.ref h0, .ref h2] (wW_X1_hasColumnsOf G h0 h1 h2 h3 y0_4 y0_5 y2_4 y2_5 x0_0 x0_1 x0_2 a1 x2_0 x2_1 x2_2 a3) sz) (QiS G r0 (va_A (wW_X1_hasColumnsOf G h0 h1 h2 h3 y0_4 y0_5 y2_4 y2_5 x0_0 x0_1 x0_2 a1 x2_0 x2_1 x2_2 a3) sz) (wW_X1_hasColumnsOf G h0 h1 h2 h3 y0_4 y0_5 y2_4 y2_5 x0_0 x0_1 x0_2 a1 x2_0 x2_1 x2_2 a3)) 0 0 (va_A (wW_X1_hasColumnsOf G h0 h1 h2 h3 y0_4 y0_5 y2_4 y2_5 x0_0 x0_1 x0_2 a1 x2_0 x2_1 x2_2 a3) sz) := by
  refine met_start (by decide) (Nat.le_of_ble_eq_true rfl) ?_
  intro p e s m below meth c hC hr hlk hnm hK hP hD hA hS hX ls hl
  obtain ⟨hx, hb, hml, hown, ht0⟩ := hC
  have hown : s.vm.findClass RX1 = some m.cls := hown
  generalize va_A (wW_X1_hasColumnsOf G h0 h1 h2 h3 y0_4 y0_5 y2_4 y2_5 x0_0 x0_1 x0_2 a1 x2_0 x2_1 x2_2 a3) sz = A at hD hA hS hX ⊢
  have hl : lv_has ls 3 [(0, .ref h0), (1, .ref h2)] := hl
  have hf : p_X1_hasColumnsOf F x0_0 a1 a3  = some r0 := hf
  have kL2 : ∀ (n2 : Nat) (u2_2 : Int32), p_X1_hasColumnsOf_L2 F x0_0 a1 a3 n2 u2_2 = some r0 → ∀ (H : Heap) (locs : List Loc), va_P G.1 vwCl (wW_X1_hasColumnsOf G h0 h1 h2 h3 y0_4 y0_5 y2_4 y2_5 x0_0 x0_1 x0_2 a1 x2_0 x2_1 x2_2 a3) H → va_D A (wW_X1_hasColumnsOf G h0 h1 h2 h3 y0_4 y0_5 y2_4 y2_5 x0_0 x0_1 x0_2 a1 x2_0 x2_1 x2_2 a3) → va_S A s.heap H locs → ∀ ls : Array Slot, lv_has ls 3 [(0, .ref h0), (1, .ref h2), (2, .int u2_2)] → W p l e ({ frames := 0, cells := 0, slots := 0, locals := 0 } : Room) s m (List.toArray [.ref h0, .ref h2]) below meth c H locs 0 0 (MQ below (QiS G r0 A (wW_X1_hasColumnsOf G h0 h1 h2 h3 y0_4 y0_5 y2_4 y2_5 x0_0 x0_1 x0_2 a1 x2_0 x2_1 x2_2 a3)) (List.toArray [.ref h0, .ref h2]) s 0 0 A) (F0 m 2 ls []) := by
    intro n2
    induction n2 with
    | zero =>
      intro u2_2 hf
      cases hf
    | succ n2 ih2 =>
      intro u2_2 hf H locs hP hD hS ls hl
      have hf : p_X1_hasColumnsOf_L2b F x0_0 a1 a3 (p_X1_hasColumnsOf_L2 F x0_0 a1 a3 n2) u2_2 = some r0 := hf
      refine lv_iload_n hx hb dX1_hasColumnsOf_2 rfl (lv_at hl 2 rfl) ?_
      refine lv_aload_n hx hb dX1_hasColumnsOf_3 rfl (lv_at hl 0 rfl) ?_
      refine va_get (ci := 1) (v := .int x0_0) (C := RX1) (T := TX1) (N := 6) hx hb ht0 iX1 hown hK hP 0 rfl rfl 0 (by decide) (ht0 _ wd_209) (fun _ h9 => h9) rfl dX1_hasColumnsOf_4 ?_
      refine lv_icmp_ge (tgt := 33) hx hb dX1_hasColumnsOf_7 (by decide) (fun c1 => ?_) (fun c1 => ?_)
      · have hf := of_pos hf c1
        refine lv_iconst (v := (1 : Int32)) hx hb dX1_hasColumnsOf_33 (by decide) ?_
        cases hf
        exact ret_z hx hb hr hlk hK hP hD hS (by decide) dX1_hasColumnsOf_34
      · have hf := of_neg hf c1
        refine lv_aload_n hx hb dX1_hasColumnsOf_10 rfl (lv_at hl 0 rfl) ?_
        refine va_get (ci := 1) (v := .ref h1) (C := RX1) (T := TX1) (N := 6) hx hb ht0 iX1 hown hK hP 0 rfl rfl 3 (by decide) (ht0 _ wd_226) (fun _ h9 => h9) rfl dX1_hasColumnsOf_11 ?_
        refine lv_iload_n hx hb dX1_hasColumnsOf_14 rfl (lv_at hl 2 rfl) ?_
        obtain ⟨g2, hf⟩ := of_grd hf
        refine va_iald hx hb hK hP 1 0 rfl rfl g2 dX1_hasColumnsOf_15 ?_
        refine lv_aload_n hx hb dX1_hasColumnsOf_16 rfl (lv_at hl 1 rfl) ?_
        refine va_get (ci := 1) (v := .ref h3) (C := RX1) (T := TX1) (N := 6) hx hb ht0 iX1 hown hK hP 2 rfl rfl 3 (by decide) (ht0 _ wd_226) (fun _ h9 => h9) rfl dX1_hasColumnsOf_17 ?_
        refine lv_iload_n hx hb dX1_hasColumnsOf_20 rfl (lv_at hl 2 rfl) ?_
        obtain ⟨g3, hf⟩ := of_grd hf
        refine va_iald hx hb hK hP 3 0 rfl rfl g3 dX1_hasColumnsOf_21 ?_
        refine lv_icmp_eq (tgt := 27) hx hb dX1_hasColumnsOf_22 (by decide) (fun c4 => ?_) (fun c4 => ?_)
        · have hf := of_pos hf c4
          refine lv_iinc (v := u2_2 + (1 : Int32)) (lv' := [(2, .int (u2_2 + (1 : Int32))), (0, .ref h0), (1, .ref h2)]) hx hb dX1_hasColumnsOf_27 hl (k := 2) rfl (by rfl) (by decide) rfl (fun ls hl => ?_)
          refine lv_goto (tgt := 2) hx hb dX1_hasColumnsOf_30 (by decide) ?_
          exact ih2 _ hf _ _ hP hD hS _ (lv_sub hl [1, 2, 0] rfl)
        · have hf := of_neg hf c4
          refine lv_iconst (v := (0 : Int32)) hx hb dX1_hasColumnsOf_25 (by decide) ?_
          cases hf
          exact ret_z hx hb hr hlk hK hP hD hS (by decide) dX1_hasColumnsOf_26
  refine lv_iconst (v := (0 : Int32)) hx hb dX1_hasColumnsOf_0 (by decide) ?_
  refine lv_istore_n (lv' := [(2, .int (0 : Int32)), (0, .ref h0), (1, .ref h2)]) hx hb dX1_hasColumnsOf_1 rfl hl (by decide) rfl (fun ls hl => ?_)
  exact kL2 _ _ hf _ _ hP hD hS _ (lv_sub hl [1, 2, 0] rfl)
theorem yk_X1_hasColumnsOf : ykV yX1_hasColumnsOf RX1 cX1_hasColumnsOf 3 (some .boolean) 1 := ⟨wd_976, wd_977, wd_131, wd_978, rfl, by decide +kernel, by decide +kernel, by decide +kernel⟩
theorem dX1_lookUpAnew_0 : decode cX1_lookUpAnew 0 = .ok (.aload_n 0, 1) := by decide +kernel
theorem dX1_lookUpAnew_1 : decode cX1_lookUpAnew 1 = .ok (.getfield 22, 3) := by decide +kernel
theorem dX1_lookUpAnew_4 : decode cX1_lookUpAnew 4 = .ok (.iconst (-1), 1) := by decide +kernel
theorem dX1_lookUpAnew_5 : decode cX1_lookUpAnew 5 = .ok (.invokestatic 54, 3) := by decide +kernel
theorem dX1_lookUpAnew_8 : decode cX1_lookUpAnew 8 = .ok (.aload_n 0, 1) := by decide +kernel
theorem dX1_lookUpAnew_9 : decode cX1_lookUpAnew 9 = .ok (.getfield 25, 3) := by decide +kernel
theorem dX1_lookUpAnew_12 : decode cX1_lookUpAnew 12 = .ok (.iconst (-1), 1) := by decide +kernel
theorem dX1_lookUpAnew_13 : decode cX1_lookUpAnew 13 = .ok (.invokestatic 54, 3) := by decide +kernel
theorem dX1_lookUpAnew_16 : decode cX1_lookUpAnew 16 = .ok (.aload_n 0, 1) := by decide +kernel
theorem dX1_lookUpAnew_17 : decode cX1_lookUpAnew 17 = .ok (.invokevirtual 28, 3) := by decide +kernel
theorem dX1_lookUpAnew_20 : decode cX1_lookUpAnew 20 = .ok (.iconst 1, 1) := by decide +kernel
theorem dX1_lookUpAnew_21 : decode cX1_lookUpAnew 21 = .ok (.isub, 1) := by decide +kernel
theorem dX1_lookUpAnew_22 : decode cX1_lookUpAnew 22 = .ok (.istore_n 1, 1) := by decide +kernel
theorem dX1_lookUpAnew_23 : decode cX1_lookUpAnew 23 = .ok (.iload_n 1, 1) := by decide +kernel
theorem dX1_lookUpAnew_24 : decode cX1_lookUpAnew 24 = .ok (.ifCond .lt 56, 3) := by decide +kernel
theorem dX1_lookUpAnew_27 : decode cX1_lookUpAnew 27 = .ok (.aload_n 0, 1) := by decide +kernel
theorem dX1_lookUpAnew_28 : decode cX1_lookUpAnew 28 = .ok (.getfield 22, 3) := by decide +kernel
theorem dX1_lookUpAnew_31 : decode cX1_lookUpAnew 31 = .ok (.aload_n 0, 1) := by decide +kernel
theorem dX1_lookUpAnew_32 : decode cX1_lookUpAnew 32 = .ok (.getfield 18, 3) := by decide +kernel
theorem dX1_lookUpAnew_35 : decode cX1_lookUpAnew 35 = .ok (.iload_n 1, 1) := by decide +kernel
theorem dX1_lookUpAnew_36 : decode cX1_lookUpAnew 36 = .ok (.iaload, 1) := by decide +kernel
theorem dX1_lookUpAnew_37 : decode cX1_lookUpAnew 37 = .ok (.sipush 255, 3) := by decide +kernel
theorem dX1_lookUpAnew_40 : decode cX1_lookUpAnew 40 = .ok (.iand, 1) := by decide +kernel
theorem dX1_lookUpAnew_41 : decode cX1_lookUpAnew 41 = .ok (.iload_n 1, 1) := by decide +kernel
theorem dX1_lookUpAnew_42 : decode cX1_lookUpAnew 42 = .ok (.iastore, 1) := by decide +kernel
theorem dX1_lookUpAnew_43 : decode cX1_lookUpAnew 43 = .ok (.iload_n 1, 1) := by decide +kernel
theorem dX1_lookUpAnew_44 : decode cX1_lookUpAnew 44 = .ok (.ifCond .le 30, 3) := by decide +kernel
theorem dX1_lookUpAnew_47 : decode cX1_lookUpAnew 47 = .ok (.aload_n 0, 1) := by decide +kernel
theorem dX1_lookUpAnew_48 : decode cX1_lookUpAnew 48 = .ok (.getfield 25, 3) := by decide +kernel
theorem dX1_lookUpAnew_51 : decode cX1_lookUpAnew 51 = .ok (.aload_n 0, 1) := by decide +kernel
theorem dX1_lookUpAnew_52 : decode cX1_lookUpAnew 52 = .ok (.getfield 18, 3) := by decide +kernel
theorem dX1_lookUpAnew_55 : decode cX1_lookUpAnew 55 = .ok (.iload_n 1, 1) := by decide +kernel
theorem dX1_lookUpAnew_56 : decode cX1_lookUpAnew 56 = .ok (.iconst 1, 1) := by decide +kernel
theorem dX1_lookUpAnew_57 : decode cX1_lookUpAnew 57 = .ok (.isub, 1) := by decide +kernel
theorem dX1_lookUpAnew_58 : decode cX1_lookUpAnew 58 = .ok (.iaload, 1) := by decide +kernel
theorem dX1_lookUpAnew_59 : decode cX1_lookUpAnew 59 = .ok (.aload_n 0, 1) := by decide +kernel
theorem dX1_lookUpAnew_60 : decode cX1_lookUpAnew 60 = .ok (.getfield 18, 3) := by decide +kernel
theorem dX1_lookUpAnew_63 : decode cX1_lookUpAnew 63 = .ok (.iload_n 1, 1) := by decide +kernel
theorem dX1_lookUpAnew_64 : decode cX1_lookUpAnew 64 = .ok (.iaload, 1) := by decide +kernel
theorem dX1_lookUpAnew_65 : decode cX1_lookUpAnew 65 = .ok (.ixor, 1) := by decide +kernel
theorem dX1_lookUpAnew_66 : decode cX1_lookUpAnew 66 = .ok (.sipush 255, 3) := by decide +kernel
theorem dX1_lookUpAnew_69 : decode cX1_lookUpAnew 69 = .ok (.iand, 1) := by decide +kernel
theorem dX1_lookUpAnew_70 : decode cX1_lookUpAnew 70 = .ok (.iload_n 1, 1) := by decide +kernel
theorem dX1_lookUpAnew_71 : decode cX1_lookUpAnew 71 = .ok (.iconst 1, 1) := by decide +kernel
theorem dX1_lookUpAnew_72 : decode cX1_lookUpAnew 72 = .ok (.isub, 1) := by decide +kernel
theorem dX1_lookUpAnew_73 : decode cX1_lookUpAnew 73 = .ok (.iastore, 1) := by decide +kernel
theorem dX1_lookUpAnew_74 : decode cX1_lookUpAnew 74 = .ok (.iinc 1 (-1), 3) := by decide +kernel
theorem dX1_lookUpAnew_77 : decode cX1_lookUpAnew 77 = .ok (.goto (-54), 3) := by decide +kernel
theorem dX1_lookUpAnew_80 : decode cX1_lookUpAnew 80 = .ok (.return_, 1) := by decide +kernel
def wW_X1_lookUpAnew (G : GG) (h0 h1 h2 h3 : Nat) (x0_0 : Int32) (x0_1 : Int32) (x0_2 : Int32) (a1 : Nat → Int32) (a2 : Nat → Int32) (a3 : Nat → Int32) : va_W := [(h0, .inr (1, [.int x0_0, .int x0_1, .int x0_2, .ref h1, .ref h2, .ref h3])), (h1, .inl (G.2.1, 32, .inl a1)), (h2, .inl (G.2.1, 256, .inl a2)), (h3, .inl (G.2.1, 256, .inl a3))]
set_option maxHeartbeats 4000000 in
set_option maxRecDepth 100000 in
theorem c_X1_lookUpAnew (l : Launch) (G : GG) (h0 h1 h2 h3 : Nat) (sz : Nat) (x0_0 : Int32) (x0_1 : Int32) (x0_2 : Int32) (a1 : Nat → Int32) (a2 : Nat → Int32) (a3 : Nat → Int32) (F : Nat)   (e_a2 : Nat → Int32) (e_a3 : Nat → Int32) (hf : p_X1_lookUpAnew F x0_0 x0_1 a1 a2 a3  = some (e_a2, e_a3)) : Met l yX1_lookUpAnew (.code yX1_lookUpAnew cX1_lookUpAnew 2 none :: gtbl) ({ frames := 1, cells := 0, slots := 0, locals := 23 } : Room) (PcS G [.ref h0] (wW_X1_lookUpAnew G h0 h1 h2 h3 x0_0 x0_1 x0_2 a1 a2 a3) sz) (QvS G (va_A (wW_X1_lookUpAnew G h0 h1 h2 h3 x0_0 x0_1 x0_2 a1 a2 a3) sz) (wW_X1_lookUpAnew G h0 h1 h2 h3 x0_0 x0_1 x0_2 a1 e_a2 e_a3)) 0 0 (va_A (wW_X1_lookUpAnew G h0 h1 h2 h3 x0_0 x0_1 x0_2 a1 a2 a3) sz) := by
  refine met_start (by decide) (Nat.le_of_ble_eq_true rfl) ?_
  intro p e s m below meth c hC hr hlk hnm hK hP hD hA hS hX ls hl
  obtain ⟨hx, hb, hml, hown, ht0⟩ := hC
  have hown : s.vm.findClass RX1 = some m.cls := hown
  generalize va_A (wW_X1_lookUpAnew G h0 h1 h2 h3 x0_0 x0_1 x0_2 a1 a2 a3) sz = A at hD hA hS hX ⊢
  have hl : lv_has ls 2 [(0, .ref h0)] := hl
  have hf : p_X1_lookUpAnew F x0_0 x0_1 a1 a2 a3  = some (e_a2, e_a3) := hf
  have kL23 : ∀ (n23 : Nat) (u23_1 : Int32) (a2_23 : Nat → Int32) (a3_23 : Nat → Int32), p_X1_lookUpAnew_L23 F x0_0 x0_1 a1 n23 u23_1 a2_23 a3_23 = some (e_a2, e_a3) → ∀ (H : Heap) (locs : List Loc), va_P G.1 vwCl (wW_X1_lookUpAnew G h0 h1 h2 h3 x0_0 x0_1 x0_2 a1 a2_23 a3_23) H → va_D A (wW_X1_lookUpAnew G h0 h1 h2 h3 x0_0 x0_1 x0_2 a1 a2_23 a3_23) → va_S A s.heap H locs → ∀ ls : Array Slot, lv_has ls 2 [(0, .ref h0), (1, .int u23_1)] → W p l e ({ frames := 1, cells := 0, slots := 0, locals := 23 } : Room) s m (List.toArray [.ref h0]) below meth c H locs 0 0 (MQ below (QvS G A (wW_X1_lookUpAnew G h0 h1 h2 h3 x0_0 x0_1 x0_2 a1 e_a2 e_a3)) (List.toArray [.ref h0]) s 0 0 A) (F0 m 23 ls []) := by
    intro n23
    induction n23 with
    | zero =>
      intro u23_1 a2_23 a3_23 hf
      cases hf
    | succ n23 ih23 =>
      have kJ74 : ∀ (u74_1 : Int32) (a2_74 : Nat → Int32) (a3_74 : Nat → Int32), p_X1_lookUpAnew_J74 F x0_0 x0_1 a1 (p_X1_lookUpAnew_L23 F x0_0 x0_1 a1 n23) u74_1 a2_74 a3_74 = some (e_a2, e_a3) → ∀ (H : Heap) (locs : List Loc), va_P G.1 vwCl (wW_X1_lookUpAnew G h0 h1 h2 h3 x0_0 x0_1 x0_2 a1 a2_74 a3_74) H → va_D A (wW_X1_lookUpAnew G h0 h1 h2 h3 x0_0 x0_1 x0_2 a1 a2_74 a3_74) → va_S A s.heap H locs → ∀ ls : Array Slot, lv_has ls 2 [(0, .ref h0), (1, .int u74_1)] → W p l e ({ frames := 1, cells := 0, slots := 0, locals := 23 } : Room) s m (List.toArray [.ref h0]) below meth c H locs 0 0 (MQ below (QvS G A (wW_X1_lookUpAnew G h0 h1 h2 h3 x0_0 x0_1 x0_2 a1 e_a2 e_a3)) (List.toArray [.ref h0]) s 0 0 A) (F0 m 74 ls []) := by
        intro u74_1 a2_74 a3_74 hf H locs hP hD hS ls hl
        refine lv_iinc (v := u74_1 + (-1 : Int32)) (lv' := [(1, .int (u74_1 + (-1 : Int32))), (0, .ref h0)]) hx hb dX1_lookUpAnew_74 hl (k := 1) rfl (by rfl) (by decide) rfl (fun ls hl => ?_)
        refine lv_goto (tgt := 23) hx hb dX1_lookUpAnew_77 (by decide) ?_
        exact ih23 _ _ _ hf _ _ hP hD hS _ (lv_sub hl [1, 0] rfl)
      intro u23_1 a2_23 a3_23 hf H locs hP hD hS ls hl
      have hf : p_X1_lookUpAnew_L23b F x0_0 x0_1 a1 (p_X1_lookUpAnew_L23 F x0_0 x0_1 a1 n23) u23_1 a2_23 a3_23 = some (e_a2, e_a3) := hf
      refine lv_iload_n hx hb dX1_lookUpAnew_23 rfl (lv_at hl 1 rfl) ?_
      refine lv_if_lt (tgt := 80) hx hb dX1_lookUpAnew_24 (by decide) (fun c1 => ?_) (fun c1 => ?_)
      · have hf := of_pos hf c1
        cases hf
        exact ret_v hx hb hr hlk hK hP hD hS dX1_lookUpAnew_80
      · have hf := of_neg hf c1
        refine lv_aload_n hx hb dX1_lookUpAnew_27 rfl (lv_at hl 0 rfl) ?_
        refine va_get (ci := 1) (v := .ref h2) (C := RX1) (T := TX1) (N := 6) hx hb ht0 iX1 hown hK hP 0 rfl rfl 4 (by decide) (ht0 _ wd_232) (fun _ h9 => h9) rfl dX1_lookUpAnew_28 ?_
        refine lv_aload_n hx hb dX1_lookUpAnew_31 rfl (lv_at hl 0 rfl) ?_
        refine va_get (ci := 1) (v := .ref h1) (C := RX1) (T := TX1) (N := 6) hx hb ht0 iX1 hown hK hP 0 rfl rfl 3 (by decide) (ht0 _ wd_226) (fun _ h9 => h9) rfl dX1_lookUpAnew_32 ?_
        refine lv_iload_n hx hb dX1_lookUpAnew_35 rfl (lv_at hl 1 rfl) ?_
        obtain ⟨g2, hf⟩ := of_grd hf
        refine va_iald hx hb hK hP 1 0 rfl rfl g2 dX1_lookUpAnew_36 ?_
        refine lv_sipush (v := (255 : Int32)) hx hb dX1_lookUpAnew_37 (by decide) ?_
        refine lv_iand hx hb dX1_lookUpAnew_40 ?_
        refine lv_iload_n hx hb dX1_lookUpAnew_41 rfl (lv_at hl 1 rfl) ?_
        obtain ⟨g3, hf⟩ := of_grd hf
        refine va_iast hx hb hK hP hD hS 2 0 rfl rfl g3 dX1_lookUpAnew_42 (fun H locs hP hD hS => ?_)
        have hP : va_P G.1 vwCl (wW_X1_lookUpAnew G h0 h1 h2 h3 x0_0 x0_1 x0_2 a1 (upd a2_23 ((a1 u23_1.toNatClampNeg) &&& (255 : Int32)).toNatClampNeg u23_1) a3_23) H := hP
        have hD : va_D A (wW_X1_lookUpAnew G h0 h1 h2 h3 x0_0 x0_1 x0_2 a1 (upd a2_23 ((a1 u23_1.toNatClampNeg) &&& (255 : Int32)).toNatClampNeg u23_1) a3_23) := hD
        refine lv_iload_n hx hb dX1_lookUpAnew_43 rfl (lv_at hl 1 rfl) ?_
        refine lv_if_le (tgt := 74) hx hb dX1_lookUpAnew_44 (by decide) (fun c4 => ?_) (fun c4 => ?_)
        · have hf := of_pos hf c4
          exact kJ74 _ _ _ hf _ _ hP hD hS _ (lv_sub hl [0, 1] rfl)
        · have hf := of_neg hf c4
          refine lv_aload_n hx hb dX1_lookUpAnew_47 rfl (lv_at hl 0 rfl) ?_
          refine va_get (ci := 1) (v := .ref h3) (C := RX1) (T := TX1) (N := 6) hx hb ht0 iX1 hown hK hP 0 rfl rfl 5 (by decide) (ht0 _ wd_233) (fun _ h9 => h9) rfl dX1_lookUpAnew_48 ?_
          refine lv_aload_n hx hb dX1_lookUpAnew_51 rfl (lv_at hl 0 rfl) ?_
          refine va_get (ci := 1) (v := .ref h1) (C := RX1) (T := TX1) (N := 6) hx hb ht0 iX1 hown hK hP 0 rfl rfl 3 (by decide) (ht0 _ wd_226) (fun _ h9 => h9) rfl dX1_lookUpAnew_52 ?_
          refine lv_iload_n hx hb dX1_lookUpAnew_55 rfl (lv_at hl 1 rfl) ?_
          refine lv_iconst (v := (1 : Int32)) hx hb dX1_lookUpAnew_56 (by decide) ?_
          refine lv_isub hx hb dX1_lookUpAnew_57 ?_
          obtain ⟨g5, hf⟩ := of_grd hf
          refine va_iald hx hb hK hP 1 0 rfl rfl g5 dX1_lookUpAnew_58 ?_
          refine lv_aload_n hx hb dX1_lookUpAnew_59 rfl (lv_at hl 0 rfl) ?_
          refine va_get (ci := 1) (v := .ref h1) (C := RX1) (T := TX1) (N := 6) hx hb ht0 iX1 hown hK hP 0 rfl rfl 3 (by decide) (ht0 _ wd_226) (fun _ h9 => h9) rfl dX1_lookUpAnew_60 ?_
          refine lv_iload_n hx hb dX1_lookUpAnew_63 rfl (lv_at hl 1 rfl) ?_
          obtain ⟨g6, hf⟩ := of_grd hf
          refine va_iald hx hb hK hP 1 0 rfl rfl g6 dX1_lookUpAnew_64 ?_
          refine lv_ixor hx hb dX1_lookUpAnew_65 ?_
          refine lv_sipush (v := (255 : Int32)) hx hb dX1_lookUpAnew_66 (by decide) ?_
          refine lv_iand hx hb dX1_lookUpAnew_69 ?_
          refine lv_iload_n hx hb dX1_lookUpAnew_70 rfl (lv_at hl 1 rfl) ?_
          refine lv_iconst (v := (1 : Int32)) hx hb dX1_lookUpAnew_71 (by decide) ?_
          refine lv_isub hx hb dX1_lookUpAnew_72 ?_
          obtain ⟨g7, hf⟩ := of_grd hf
          refine va_iast hx hb hK hP hD hS 3 0 rfl rfl g7 dX1_lookUpAnew_73 (fun H locs hP hD hS => ?_)
          have hP : va_P G.1 vwCl (wW_X1_lookUpAnew G h0 h1 h2 h3 x0_0 x0_1 x0_2 a1 (upd a2_23 ((a1 u23_1.toNatClampNeg) &&& (255 : Int32)).toNatClampNeg u23_1) (upd a3_23 (((a1 (u23_1 - (1 : Int32)).toNatClampNeg) ^^^ (a1 u23_1.toNatClampNeg)) &&& (255 : Int32)).toNatClampNeg (u23_1 - (1 : Int32)))) H := hP
          have hD : va_D A (wW_X1_lookUpAnew G h0 h1 h2 h3 x0_0 x0_1 x0_2 a1 (upd a2_23 ((a1 u23_1.toNatClampNeg) &&& (255 : Int32)).toNatClampNeg u23_1) (upd a3_23 (((a1 (u23_1 - (1 : Int32)).toNatClampNeg) ^^^ (a1 u23_1.toNatClampNeg)) &&& (255 : Int32)).toNatClampNeg (u23_1 - (1 : Int32)))) := hD
          exact kJ74 _ _ _ hf _ _ hP hD hS _ (lv_sub hl [0, 1] rfl)
  refine lv_aload_n hx hb dX1_lookUpAnew_0 rfl (lv_at hl 0 rfl) ?_
  refine va_get (ci := 1) (v := .ref h2) (C := RX1) (T := TX1) (N := 6) hx hb ht0 iX1 hown hK hP 0 rfl rfl 4 (by decide) (ht0 _ wd_232) (fun _ h9 => h9) rfl dX1_lookUpAnew_1 ?_
  refine lv_iconst (v := (-1 : Int32)) hx hb dX1_lookUpAnew_4 (by decide) ?_
  obtain ⟨r_5_7_a0, hc_r_5_7, hf⟩ := of_bnd hf
  refine cl_Sv (w2 := (wW_X1_lookUpAnew G h0 h1 h2 h3 x0_0 x0_1 x0_2 a1 r_5_7_a0 a3)) (As := [.ref h2, .int (-1 : Int32)]) (rest := []) ⟨hx, hb, hml, hown, ht0⟩ (c_J7_fill_53178 l G 256 h2 _ a2 F (-1 : Int32) _ hc_r_5_7) yk_J7_fill_53178 wd_526 ⟨rfl, rfl, by decide, by decide⟩ ⟨Nat.le_refl _, Nat.le_refl _⟩ hX hK hP hD hS hA [2] [0, 1, 3] [0, 1, 3, 2] rfl rfl (by decide) rfl rfl rfl rfl rfl hl.1 rfl (Nat.le_of_ble_eq_true rfl) dX1_lookUpAnew_5 (fun H locs hP hD hS => ?_)
  refine lv_aload_n hx hb dX1_lookUpAnew_8 rfl (lv_at hl 0 rfl) ?_
  refine va_get (ci := 1) (v := .ref h3) (C := RX1) (T := TX1) (N := 6) hx hb ht0 iX1 hown hK hP 0 rfl rfl 5 (by decide) (ht0 _ wd_233) (fun _ h9 => h9) rfl dX1_lookUpAnew_9 ?_
  refine lv_iconst (v := (-1 : Int32)) hx hb dX1_lookUpAnew_12 (by decide) ?_
  obtain ⟨r_13_8_a0, hc_r_13_8, hf⟩ := of_bnd hf
  refine cl_Sv (w2 := (wW_X1_lookUpAnew G h0 h1 h2 h3 x0_0 x0_1 x0_2 a1 r_5_7_a0 r_13_8_a0)) (As := [.ref h3, .int (-1 : Int32)]) (rest := []) ⟨hx, hb, hml, hown, ht0⟩ (c_J7_fill_53178 l G 256 h3 _ a3 F (-1 : Int32) _ hc_r_13_8) yk_J7_fill_53178 wd_526 ⟨rfl, rfl, by decide, by decide⟩ ⟨Nat.le_refl _, Nat.le_refl _⟩ hX hK hP hD hS hA [3] [0, 1, 2] [0, 1, 2, 3] rfl rfl (by decide) rfl rfl rfl rfl rfl hl.1 rfl (Nat.le_of_ble_eq_true rfl) dX1_lookUpAnew_13 (fun H locs hP hD hS => ?_)
  refine lv_aload_n hx hb dX1_lookUpAnew_16 rfl (lv_at hl 0 rfl) ?_
  obtain ⟨r_17_9, hc_r_17_9, hf⟩ := of_bnd hf
  refine cl_Vi (w2 := (wW_X1_lookUpAnew G h0 h1 h2 h3 x0_0 x0_1 x0_2 a1 r_5_7_a0 r_13_8_a0)) (As := []) (rest := []) ⟨hx, hb, hml, hown, ht0⟩ (c_X1_places l G h0 h1 h2 h3 _ x0_0 x0_1 x0_2 F _ hc_r_17_9) yk_X1_places wd_527 ⟨rfl, rfl, by decide, by decide⟩ ⟨Nat.le_refl _, Nat.le_refl _⟩ hX hK hP hD hS hA [0] [1, 2, 3] [3, 0, 1, 2] (va_recv hK hP (ci := 1) (q0 := 0) rfl rfl) rfl rfl (by decide) rfl rfl rfl rfl rfl hl.1 rfl (Nat.le_of_ble_eq_true rfl) dX1_lookUpAnew_17 (fun H locs hP hD hS => ?_)
  refine lv_iconst (v := (1 : Int32)) hx hb dX1_lookUpAnew_20 (by decide) ?_
  refine lv_isub hx hb dX1_lookUpAnew_21 ?_
  refine lv_istore_n (lv' := [(1, .int (r_17_9 - (1 : Int32))), (0, .ref h0)]) hx hb dX1_lookUpAnew_22 rfl hl (by decide) rfl (fun ls hl => ?_)
  exact kL23 _ _ _ _ hf _ _ hP hD hS _ (lv_sub hl [1, 0] rfl)
theorem yk_X1_lookUpAnew : ykV yX1_lookUpAnew RX1 cX1_lookUpAnew 2 none 0 := ⟨wd_523, wd_524, wd_131, wd_525, rfl, by decide +kernel, by decide +kernel, by decide +kernel⟩
theorem dX1_giveColumn_0 : decode cX1_giveColumn 0 = .ok (.aload_n 0, 1) := by decide +kernel
theorem dX1_giveColumn_1 : decode cX1_giveColumn 1 = .ok (.getfield 18, 3) := by decide +kernel
theorem dX1_giveColumn_4 : decode cX1_giveColumn 4 = .ok (.iload_n 1, 1) := by decide +kernel
theorem dX1_giveColumn_5 : decode cX1_giveColumn 5 = .ok (.iload_n 2, 1) := by decide +kernel
theorem dX1_giveColumn_6 : decode cX1_giveColumn 6 = .ok (.iastore, 1) := by decide +kernel
theorem dX1_giveColumn_7 : decode cX1_giveColumn 7 = .ok (.aload_n 0, 1) := by decide +kernel
theorem dX1_giveColumn_8 : decode cX1_giveColumn 8 = .ok (.invokevirtual 51, 3) := by decide +kernel
theorem dX1_giveColumn_11 : decode cX1_giveColumn 11 = .ok (.return_, 1) := by decide +kernel
def wW_X1_giveColumn (G : GG) (h0 h1 h2 h3 : Nat) (x0_0 : Int32) (x0_1 : Int32) (x0_2 : Int32) (a1 : Nat → Int32) (a2 : Nat → Int32) (a3 : Nat → Int32) : va_W := [(h0, .inr (1, [.int x0_0, .int x0_1, .int x0_2, .ref h1, .ref h2, .ref h3])), (h1, .inl (G.2.1, 32, .inl a1)), (h2, .inl (G.2.1, 256, .inl a2)), (h3, .inl (G.2.1, 256, .inl a3))]
set_option maxHeartbeats 4000000 in
set_option maxRecDepth 100000 in
theorem c_X1_giveColumn (l : Launch) (G : GG) (h0 h1 h2 h3 : Nat) (sz : Nat) (x0_0 : Int32) (x0_1 : Int32) (x0_2 : Int32) (a1 : Nat → Int32) (a2 : Nat → Int32) (a3 : Nat → Int32) (F : Nat) (b1 : Int32) (b2 : Int32)  (e_a1 : Nat → Int32) (e_a2 : Nat → Int32) (e_a3 : Nat → Int32) (hf : p_X1_giveColumn F x0_0 x0_1 a1 a2 a3 b1 b2 = some (e_a1, e_a2, e_a3)) : Met l yX1_giveColumn (.code yX1_giveColumn cX1_giveColumn 3 none :: gtbl) ({ frames := 2, cells := 0, slots := 0, locals := 44 } : Room) (PcS G [.ref h0, .int b1, .int b2] (wW_X1_giveColumn G h0 h1 h2 h3 x0_0 x0_1 x0_2 a1 a2 a3) sz) (QvS G (va_A (wW_X1_giveColumn G h0 h1 h2 h3 x0_0 x0_1 x0_2 a1 a2 a3) sz) (wW_X1_giveColumn G h0 h1 h2 h3 x0_0 x0_1 x0_2 e_a1 e_a2 e_a3)) 0 0 (va_A (wW_X1_giveColumn G h0 h1 h2 h3 x0_0 x0_1 x0_2 a1 a2 a3) sz) := by
  refine met_start (by decide) (Nat.le_of_ble_eq_true rfl) ?_
  intro p e s m below meth c hC hr hlk hnm hK hP hD hA hS hX ls hl
  obtain ⟨hx, hb, hml, hown, ht0⟩ := hC
  have hown : s.vm.findClass RX1 = some m.cls := hown
  generalize va_A (wW_X1_giveColumn G h0 h1 h2 h3 x0_0 x0_1 x0_2 a1 a2 a3) sz = A at hD hA hS hX ⊢
  have hl : lv_has ls 3 [(0, .ref h0), (1, .int b1), (2, .int b2)] := hl
  have hf : p_X1_giveColumn F x0_0 x0_1 a1 a2 a3 b1 b2 = some (e_a1, e_a2, e_a3) := hf
  refine lv_aload_n hx hb dX1_giveColumn_0 rfl (lv_at hl 0 rfl) ?_
  refine va_get (ci := 1) (v := .ref h1) (C := RX1) (T := TX1) (N := 6) hx hb ht0 iX1 hown hK hP 0 rfl rfl 3 (by decide) (ht0 _ wd_226) (fun _ h9 => h9) rfl dX1_giveColumn_1 ?_
  refine lv_iload_n hx hb dX1_giveColumn_4 rfl (lv_at hl 1 rfl) ?_
  refine lv_iload_n hx hb dX1_giveColumn_5 rfl (lv_at hl 2 rfl) ?_
  obtain ⟨g1, hf⟩ := of_grd hf
  refine va_iast hx hb hK hP hD hS 1 0 rfl rfl g1 dX1_giveColumn_6 (fun H locs hP hD hS => ?_)
  have hP : va_P G.1 vwCl (wW_X1_giveColumn G h0 h1 h2 h3 x0_0 x0_1 x0_2 (upd a1 b1.toNatClampNeg b2) a2 a3) H := hP
  have hD : va_D A (wW_X1_giveColumn G h0 h1 h2 h3 x0_0 x0_1 x0_2 (upd a1 b1.toNatClampNeg b2) a2 a3) := hD
  refine lv_aload_n hx hb dX1_giveColumn_7 rfl (lv_at hl 0 rfl) ?_
  obtain ⟨⟨r_8_1_a2, r_8_1_a3⟩, hc_r_8_1, hf⟩ := of_bnd hf
  refine cl_Vv (w2 := (wW_X1_giveColumn G h0 h1 h2 h3 x0_0 x0_1 x0_2 (upd a1 b1.toNatClampNeg b2) r_8_1_a2 r_8_1_a3)) (As := []) (rest := []) ⟨hx, hb, hml, hown, ht0⟩ (c_X1_lookUpAnew l G h0 h1 h2 h3 _ x0_0 x0_1 x0_2 (upd a1 b1.toNatClampNeg b2) a2 a3 F _ _ hc_r_8_1) yk_X1_lookUpAnew wd_749 ⟨rfl, rfl, by decide, by decide⟩ ⟨Nat.le_refl _, Nat.le_refl _⟩ hX hK hP hD hS hA [0, 1, 2, 3] [] [0, 1, 2, 3] (va_recv hK hP (ci := 1) (q0 := 0) rfl rfl) rfl rfl (by decide) rfl rfl rfl rfl rfl hl.1 rfl (Nat.le_of_ble_eq_true rfl) dX1_giveColumn_8 (fun H locs hP hD hS => ?_)
  cases hf
  exact ret_v hx hb hr hlk hK hP hD hS dX1_giveColumn_11
theorem yk_X1_giveColumn : ykV yX1_giveColumn RX1 cX1_giveColumn 3 none 2 := ⟨wd_746, wd_747, wd_131, wd_748, rfl, by decide +kernel, by decide +kernel, by decide +kernel⟩
theorem dX1_exchangeColumns_0 : decode cX1_exchangeColumns 0 = .ok (.aload_n 0, 1) := by decide +kernel
theorem dX1_exchangeColumns_1 : decode cX1_exchangeColumns 1 = .ok (.getfield 18, 3) := by decide +kernel
theorem dX1_exchangeColumns_4 : decode cX1_exchangeColumns 4 = .ok (.iload_n 1, 1) := by decide +kernel
theorem dX1_exchangeColumns_5 : decode cX1_exchangeColumns 5 = .ok (.iaload, 1) := by decide +kernel
theorem dX1_exchangeColumns_6 : decode cX1_exchangeColumns 6 = .ok (.istore_n 3, 1) := by decide +kernel
theorem dX1_exchangeColumns_7 : decode cX1_exchangeColumns 7 = .ok (.aload_n 0, 1) := by decide +kernel
theorem dX1_exchangeColumns_8 : decode cX1_exchangeColumns 8 = .ok (.getfield 18, 3) := by decide +kernel
theorem dX1_exchangeColumns_11 : decode cX1_exchangeColumns 11 = .ok (.iload_n 1, 1) := by decide +kernel
theorem dX1_exchangeColumns_12 : decode cX1_exchangeColumns 12 = .ok (.aload_n 0, 1) := by decide +kernel
theorem dX1_exchangeColumns_13 : decode cX1_exchangeColumns 13 = .ok (.getfield 18, 3) := by decide +kernel
theorem dX1_exchangeColumns_16 : decode cX1_exchangeColumns 16 = .ok (.iload_n 2, 1) := by decide +kernel
theorem dX1_exchangeColumns_17 : decode cX1_exchangeColumns 17 = .ok (.iaload, 1) := by decide +kernel
theorem dX1_exchangeColumns_18 : decode cX1_exchangeColumns 18 = .ok (.iastore, 1) := by decide +kernel
theorem dX1_exchangeColumns_19 : decode cX1_exchangeColumns 19 = .ok (.aload_n 0, 1) := by decide +kernel
theorem dX1_exchangeColumns_20 : decode cX1_exchangeColumns 20 = .ok (.getfield 18, 3) := by decide +kernel
theorem dX1_exchangeColumns_23 : decode cX1_exchangeColumns 23 = .ok (.iload_n 2, 1) := by decide +kernel
theorem dX1_exchangeColumns_24 : decode cX1_exchangeColumns 24 = .ok (.iload_n 3, 1) := by decide +kernel
theorem dX1_exchangeColumns_25 : decode cX1_exchangeColumns 25 = .ok (.iastore, 1) := by decide +kernel
theorem dX1_exchangeColumns_26 : decode cX1_exchangeColumns 26 = .ok (.aload_n 0, 1) := by decide +kernel
theorem dX1_exchangeColumns_27 : decode cX1_exchangeColumns 27 = .ok (.invokevirtual 51, 3) := by decide +kernel
theorem dX1_exchangeColumns_30 : decode cX1_exchangeColumns 30 = .ok (.return_, 1) := by decide +kernel
def wW_X1_exchangeColumns (G : GG) (h0 h1 h2 h3 : Nat) (x0_0 : Int32) (x0_1 : Int32) (x0_2 : Int32) (a1 : Nat → Int32) (a2 : Nat → Int32) (a3 : Nat → Int32) : va_W := [(h0, .inr (1, [.int x0_0, .int x0_1, .int x0_2, .ref h1, .ref h2, .ref h3])), (h1, .inl (G.2.1, 32, .inl a1)), (h2, .inl (G.2.1, 256, .inl a2)), (h3, .inl (G.2.1, 256, .inl a3))]
set_option maxHeartbeats 4000000 in
set_option maxRecDepth 100000 in
theorem c_X1_exchangeColumns (l : Launch) (G : GG) (h0 h1 h2 h3 : Nat) (sz : Nat) (x0_0 : Int32) (x0_1 : Int32) (x0_2 : Int32) (a1 : Nat → Int32) (a2 : Nat → Int32) (a3 : Nat → Int32) (F : Nat) (b1 : Int32) (b2 : Int32)  (e_a1 : Nat → Int32) (e_a2 : Nat → Int32) (e_a3 : Nat → Int32) (hf : p_X1_exchangeColumns F x0_0 x0_1 a1 a2 a3 b1 b2 = some (e_a1, e_a2, e_a3)) : Met l yX1_exchangeColumns (.code yX1_exchangeColumns cX1_exchangeColumns 4 none :: gtbl) ({ frames := 2, cells := 0, slots := 0, locals := 44 } : Room) (PcS G [.ref h0, .int b1, .int b2] (wW_X1_exchangeColumns G h0 h1 h2 h3 x0_0 x0_1 x0_2 a1 a2 a3) sz) (QvS G (va_A (wW_X1_exchangeColumns G h0 h1 h2 h3 x0_0 x0_1 x0_2 a1 a2 a3) sz) (wW_X1_exchangeColumns G h0 h1 h2 h3 x0_0 x0_1 x0_2 e_a1 e_a2 e_a3)) 0 0 (va_A (wW_X1_exchangeColumns G h0 h1 h2 h3 x0_0 x0_1 x0_2 a1 a2 a3) sz) := by
  refine met_start (by decide) (Nat.le_of_ble_eq_true rfl) ?_
  intro p e s m below meth c hC hr hlk hnm hK hP hD hA hS hX ls hl
  obtain ⟨hx, hb, hml, hown, ht0⟩ := hC
  have hown : s.vm.findClass RX1 = some m.cls := hown
  generalize va_A (wW_X1_exchangeColumns G h0 h1 h2 h3 x0_0 x0_1 x0_2 a1 a2 a3) sz = A at hD hA hS hX ⊢
  have hl : lv_has ls 4 [(0, .ref h0), (1, .int b1), (2, .int b2)] := hl
  have hf : p_X1_exchangeColumns F x0_0 x0_1 a1 a2 a3 b1 b2 = some (e_a1, e_a2, e_a3) := hf
  refine lv_aload_n hx hb dX1_exchangeColumns_0 rfl (lv_at hl 0 rfl) ?_
  refine va_get (ci := 1) (v := .ref h1) (C := RX1) (T := TX1) (N := 6) hx hb ht0 iX1 hown hK hP 0 rfl rfl 3 (by decide) (ht0 _ wd_226) (fun _ h9 => h9) rfl dX1_exchangeColumns_1 ?_
  refine lv_iload_n hx hb dX1_exchangeColumns_4 rfl (lv_at hl 1 rfl) ?_
  obtain ⟨g1, hf⟩ := of_grd hf
  refine va_iald hx hb hK hP 1 0 rfl rfl g1 dX1_exchangeColumns_5 ?_
  refine lv_istore_n (lv' := [(3, .int (a1 b1.toNatClampNeg)), (0, .ref h0), (1, .int b1), (2, .int b2)]) hx hb dX1_exchangeColumns_6 rfl hl (by decide) rfl (fun ls hl => ?_)
  refine lv_aload_n hx hb dX1_exchangeColumns_7 rfl (lv_at hl 1 rfl) ?_
  refine va_get (ci := 1) (v := .ref h1) (C := RX1) (T := TX1) (N := 6) hx hb ht0 iX1 hown hK hP 0 rfl rfl 3 (by decide) (ht0 _ wd_226) (fun _ h9 => h9) rfl dX1_exchangeColumns_8 ?_
  refine lv_iload_n hx hb dX1_exchangeColumns_11 rfl (lv_at hl 2 rfl) ?_
  refine lv_aload_n hx hb dX1_exchangeColumns_12 rfl (lv_at hl 1 rfl) ?_
  refine va_get (ci := 1) (v := .ref h1) (C := RX1) (T := TX1) (N := 6) hx hb ht0 iX1 hown hK hP 0 rfl rfl 3 (by decide) (ht0 _ wd_226) (fun _ h9 => h9) rfl dX1_exchangeColumns_13 ?_
  refine lv_iload_n hx hb dX1_exchangeColumns_16 rfl (lv_at hl 3 rfl) ?_
  obtain ⟨g2, hf⟩ := of_grd hf
  refine va_iald hx hb hK hP 1 0 rfl rfl g2 dX1_exchangeColumns_17 ?_
  obtain ⟨g3, hf⟩ := of_grd hf
  refine va_iast hx hb hK hP hD hS 1 0 rfl rfl g3 dX1_exchangeColumns_18 (fun H locs hP hD hS => ?_)
  have hP : va_P G.1 vwCl (wW_X1_exchangeColumns G h0 h1 h2 h3 x0_0 x0_1 x0_2 (upd a1 b1.toNatClampNeg (a1 b2.toNatClampNeg)) a2 a3) H := hP
  have hD : va_D A (wW_X1_exchangeColumns G h0 h1 h2 h3 x0_0 x0_1 x0_2 (upd a1 b1.toNatClampNeg (a1 b2.toNatClampNeg)) a2 a3) := hD
  refine lv_aload_n hx hb dX1_exchangeColumns_19 rfl (lv_at hl 1 rfl) ?_
  refine va_get (ci := 1) (v := .ref h1) (C := RX1) (T := TX1) (N := 6) hx hb ht0 iX1 hown hK hP 0 rfl rfl 3 (by decide) (ht0 _ wd_226) (fun _ h9 => h9) rfl dX1_exchangeColumns_20 ?_
  refine lv_iload_n hx hb dX1_exchangeColumns_23 rfl (lv_at hl 3 rfl) ?_
  refine lv_iload_n hx hb dX1_exchangeColumns_24 rfl (lv_at hl 0 rfl) ?_
  obtain ⟨g4, hf⟩ := of_grd hf
  refine va_iast hx hb hK hP hD hS 1 0 rfl rfl g4 dX1_exchangeColumns_25 (fun H locs hP hD hS => ?_)
  have hP : va_P G.1 vwCl (wW_X1_exchangeColumns G h0 h1 h2 h3 x0_0 x0_1 x0_2 (upd (upd a1 b1.toNatClampNeg (a1 b2.toNatClampNeg)) b2.toNatClampNeg (a1 b1.toNatClampNeg)) a2 a3) H := hP
  have hD : va_D A (wW_X1_exchangeColumns G h0 h1 h2 h3 x0_0 x0_1 x0_2 (upd (upd a1 b1.toNatClampNeg (a1 b2.toNatClampNeg)) b2.toNatClampNeg (a1 b1.toNatClampNeg)) a2 a3) := hD
  refine lv_aload_n hx hb dX1_exchangeColumns_26 rfl (lv_at hl 1 rfl) ?_
  obtain ⟨⟨r_27_4_a2, r_27_4_a3⟩, hc_r_27_4, hf⟩ := of_bnd hf
  refine cl_Vv (w2 := (wW_X1_exchangeColumns G h0 h1 h2 h3 x0_0 x0_1 x0_2 (upd (upd a1 b1.toNatClampNeg (a1 b2.toNatClampNeg)) b2.toNatClampNeg (a1 b1.toNatClampNeg)) r_27_4_a2 r_27_4_a3)) (As := []) (rest := []) ⟨hx, hb, hml, hown, ht0⟩ (c_X1_lookUpAnew l G h0 h1 h2 h3 _ x0_0 x0_1 x0_2 (upd (upd a1 b1.toNatClampNeg (a1 b2.toNatClampNeg)) b2.toNatClampNeg (a1 b1.toNatClampNeg)) a2 a3 F _ _ hc_r_27_4) yk_X1_lookUpAnew wd_749 ⟨rfl, rfl, by decide, by decide⟩ ⟨Nat.le_refl _, Nat.le_refl _⟩ hX hK hP hD hS hA [0, 1, 2, 3] [] [0, 1, 2, 3] (va_recv hK hP (ci := 1) (q0 := 0) rfl rfl) rfl rfl (by decide) rfl rfl rfl rfl rfl hl.1 rfl (Nat.le_of_ble_eq_true rfl) dX1_exchangeColumns_27 (fun H locs hP hD hS => ?_)
  cases hf
  exact ret_v hx hb hr hlk hK hP hD hS dX1_exchangeColumns_30
theorem yk_X1_exchangeColumns : ykV yX1_exchangeColumns RX1 cX1_exchangeColumns 4 none 2 := ⟨wd_968, wd_969, wd_131, wd_970, rfl, by decide +kernel, by decide +kernel, by decide +kernel⟩
theorem dX1_placeChecks_0 : decode cX1_placeChecks 0 = .ok (.iconst 0, 1) := by decide +kernel
theorem dX1_placeChecks_1 : decode cX1_placeChecks 1 = .ok (.istore_n 1, 1) := by decide +kernel
theorem dX1_placeChecks_2 : decode cX1_placeChecks 2 = .ok (.iload_n 1, 1) := by decide +kernel
theorem dX1_placeChecks_3 : decode cX1_placeChecks 3 = .ok (.aload_n 0, 1) := by decide +kernel
theorem dX1_placeChecks_4 : decode cX1_placeChecks 4 = .ok (.getfield 15, 3) := by decide +kernel
theorem dX1_placeChecks_7 : decode cX1_placeChecks 7 = .ok (.if_icmp .ge 23, 3) := by decide +kernel
theorem dX1_placeChecks_10 : decode cX1_placeChecks 10 = .ok (.aload_n 0, 1) := by decide +kernel
theorem dX1_placeChecks_11 : decode cX1_placeChecks 11 = .ok (.getfield 18, 3) := by decide +kernel
theorem dX1_placeChecks_14 : decode cX1_placeChecks 14 = .ok (.aload_n 0, 1) := by decide +kernel
theorem dX1_placeChecks_15 : decode cX1_placeChecks 15 = .ok (.getfield 9, 3) := by decide +kernel
theorem dX1_placeChecks_18 : decode cX1_placeChecks 18 = .ok (.iload_n 1, 1) := by decide +kernel
theorem dX1_placeChecks_19 : decode cX1_placeChecks 19 = .ok (.iadd, 1) := by decide +kernel
theorem dX1_placeChecks_20 : decode cX1_placeChecks 20 = .ok (.iconst 1, 1) := by decide +kernel
theorem dX1_placeChecks_21 : decode cX1_placeChecks 21 = .ok (.iload_n 1, 1) := by decide +kernel
theorem dX1_placeChecks_22 : decode cX1_placeChecks 22 = .ok (.ishl, 1) := by decide +kernel
theorem dX1_placeChecks_23 : decode cX1_placeChecks 23 = .ok (.iastore, 1) := by decide +kernel
theorem dX1_placeChecks_24 : decode cX1_placeChecks 24 = .ok (.iinc 1 1, 3) := by decide +kernel
theorem dX1_placeChecks_27 : decode cX1_placeChecks 27 = .ok (.goto (-25), 3) := by decide +kernel
theorem dX1_placeChecks_30 : decode cX1_placeChecks 30 = .ok (.return_, 1) := by decide +kernel
def wW_X1_placeChecks (G : GG) (h0 h1 y0_4 y0_5 : Nat) (x0_0 : Int32) (x0_1 : Int32) (x0_2 : Int32) (a1 : Nat → Int32) : va_W := [(h0, .inr (1, [.int x0_0, .int x0_1, .int x0_2, .ref h1, .ref y0_4, .ref y0_5])), (h1, .inl (G.2.1, 32, .inl a1))]
set_option maxHeartbeats 4000000 in
set_option maxRecDepth 100000 in
theorem c_X1_placeChecks (l : Launch) (G : GG) (h0 h1 y0_4 y0_5 : Nat) (sz : Nat) (x0_0 : Int32) (x0_1 : Int32) (x0_2 : Int32) (a1 : Nat → Int32) (F : Nat)   (e_a1 : Nat → Int32) (hf : p_X1_placeChecks F x0_0 x0_1 a1  = some e_a1) : Met l yX1_placeChecks (.code yX1_placeChecks cX1_placeChecks 2 none :: gtbl) ({ frames := 0, cells := 0, slots := 0, locals := 0 } : Room) (PcS G [.ref h0] (wW_X1_placeChecks G h0 h1 y0_4 y0_5 x0_0 x0_1 x0_2 a1) sz) (QvS G (va_A (wW_X1_placeChecks G h0 h1 y0_4 y0_5 x0_0 x0_1 x0_2 a1) sz) (wW_X1_placeChecks G h0 h1 y0_4 y0_5 x0_0 x0_1 x0_2 e_a1)) 0 0 (va_A (wW_X1_placeChecks G h0 h1 y0_4 y0_5 x0_0 x0_1 x0_2 a1) sz) := by
  refine met_start (by decide) (Nat.le_of_ble_eq_true rfl) ?_
  intro p e s m below meth c hC hr hlk hnm hK hP hD hA hS hX ls hl
  obtain ⟨hx, hb, hml, hown, ht0⟩ := hC
  have hown : s.vm.findClass RX1 = some m.cls := hown
  generalize va_A (wW_X1_placeChecks G h0 h1 y0_4 y0_5 x0_0 x0_1 x0_2 a1) sz = A at hD hA hS hX ⊢
  have hl : lv_has ls 2 [(0, .ref h0)] := hl
  have hf : p_X1_placeChecks F x0_0 x0_1 a1  = some e_a1 := hf
  have kL2 : ∀ (n2 : Nat) (u2_1 : Int32) (a1_2 : Nat → Int32), p_X1_placeChecks_L2 F x0_0 x0_1 n2 u2_1 a1_2 = some e_a1 → ∀ (H : Heap) (locs : List Loc), va_P G.1 vwCl (wW_X1_placeChecks G h0 h1 y0_4 y0_5 x0_0 x0_1 x0_2 a1_2) H → va_D A (wW_X1_placeChecks G h0 h1 y0_4 y0_5 x0_0 x0_1 x0_2 a1_2) → va_S A s.heap H locs → ∀ ls : Array Slot, lv_has ls 2 [(0, .ref h0), (1, .int u2_1)] → W p l e ({ frames := 0, cells := 0, slots := 0, locals := 0 } : Room) s m (List.toArray [.ref h0]) below meth c H locs 0 0 (MQ below (QvS G A (wW_X1_placeChecks G h0 h1 y0_4 y0_5 x0_0 x0_1 x0_2 e_a1)) (List.toArray [.ref h0]) s 0 0 A) (F0 m 2 ls []) := by
    intro n2
    induction n2 with
    | zero =>
      intro u2_1 a1_2 hf
      cases hf
    | succ n2 ih2 =>
      intro u2_1 a1_2 hf H locs hP hD hS ls hl
      have hf : p_X1_placeChecks_L2b F x0_0 x0_1 (p_X1_placeChecks_L2 F x0_0 x0_1 n2) u2_1 a1_2 = some e_a1 := hf
      refine lv_iload_n hx hb dX1_placeChecks_2 rfl (lv_at hl 1 rfl) ?_
      refine lv_aload_n hx hb dX1_placeChecks_3 rfl (lv_at hl 0 rfl) ?_
      refine va_get (ci := 1) (v := .int x0_1) (C := RX1) (T := TX1) (N := 6) hx hb ht0 iX1 hown hK hP 0 rfl rfl 1 (by decide) (ht0 _ wd_215) (fun _ h9 => h9) rfl dX1_placeChecks_4 ?_
      refine lv_icmp_ge (tgt := 30) hx hb dX1_placeChecks_7 (by decide) (fun c1 => ?_) (fun c1 => ?_)
      · have hf := of_pos hf c1
        cases hf
        exact ret_v hx hb hr hlk hK hP hD hS dX1_placeChecks_30
      · have hf := of_neg hf c1
        refine lv_aload_n hx hb dX1_placeChecks_10 rfl (lv_at hl 0 rfl) ?_
        refine va_get (ci := 1) (v := .ref h1) (C := RX1) (T := TX1) (N := 6) hx hb ht0 iX1 hown hK hP 0 rfl rfl 3 (by decide) (ht0 _ wd_226) (fun _ h9 => h9) rfl dX1_placeChecks_11 ?_
        refine lv_aload_n hx hb dX1_placeChecks_14 rfl (lv_at hl 0 rfl) ?_
        refine va_get (ci := 1) (v := .int x0_0) (C := RX1) (T := TX1) (N := 6) hx hb ht0 iX1 hown hK hP 0 rfl rfl 0 (by decide) (ht0 _ wd_209) (fun _ h9 => h9) rfl dX1_placeChecks_15 ?_
        refine lv_iload_n hx hb dX1_placeChecks_18 rfl (lv_at hl 1 rfl) ?_
        refine lv_iadd hx hb dX1_placeChecks_19 ?_
        refine lv_iconst (v := (1 : Int32)) hx hb dX1_placeChecks_20 (by decide) ?_
        refine lv_iload_n hx hb dX1_placeChecks_21 rfl (lv_at hl 1 rfl) ?_
        refine lv_ishl hx hb dX1_placeChecks_22 ?_
        obtain ⟨g2, hf⟩ := of_grd hf
        refine va_iast hx hb hK hP hD hS 1 0 rfl rfl g2 dX1_placeChecks_23 (fun H locs hP hD hS => ?_)
        have hP : va_P G.1 vwCl (wW_X1_placeChecks G h0 h1 y0_4 y0_5 x0_0 x0_1 x0_2 (upd a1_2 (x0_0 + u2_1).toNatClampNeg ((1 : Int32) <<< (u2_1 &&& 31)))) H := hP
        have hD : va_D A (wW_X1_placeChecks G h0 h1 y0_4 y0_5 x0_0 x0_1 x0_2 (upd a1_2 (x0_0 + u2_1).toNatClampNeg ((1 : Int32) <<< (u2_1 &&& 31)))) := hD
        refine lv_iinc (v := u2_1 + (1 : Int32)) (lv' := [(1, .int (u2_1 + (1 : Int32))), (0, .ref h0)]) hx hb dX1_placeChecks_24 hl (k := 1) rfl (by rfl) (by decide) rfl (fun ls hl => ?_)
        refine lv_goto (tgt := 2) hx hb dX1_placeChecks_27 (by decide) ?_
        exact ih2 _ _ hf _ _ hP hD hS _ (lv_sub hl [1, 0] rfl)
  refine lv_iconst (v := (0 : Int32)) hx hb dX1_placeChecks_0 (by decide) ?_
  refine lv_istore_n (lv' := [(1, .int (0 : Int32)), (0, .ref h0)]) hx hb dX1_placeChecks_1 rfl hl (by decide) rfl (fun ls hl => ?_)
  exact kL2 _ _ _ hf _ _ hP hD hS _ (lv_sub hl [1, 0] rfl)
theorem yk_X1_placeChecks : ykV yX1_placeChecks RX1 cX1_placeChecks 2 none 0 := ⟨wd_477, wd_478, wd_131, wd_479, rfl, by decide +kernel, by decide +kernel, by decide +kernel⟩
theorem dX1_syndromeOf_0 : decode cX1_syndromeOf 0 = .ok (.iconst 0, 1) := by decide +kernel
theorem dX1_syndromeOf_1 : decode cX1_syndromeOf 1 = .ok (.istore_n 2, 1) := by decide +kernel
theorem dX1_syndromeOf_2 : decode cX1_syndromeOf 2 = .ok (.aload_n 0, 1) := by decide +kernel
theorem dX1_syndromeOf_3 : decode cX1_syndromeOf 3 = .ok (.invokevirtual 28, 3) := by decide +kernel
theorem dX1_syndromeOf_6 : decode cX1_syndromeOf 6 = .ok (.istore_n 3, 1) := by decide +kernel
theorem dX1_syndromeOf_7 : decode cX1_syndromeOf 7 = .ok (.iconst 0, 1) := by decide +kernel
theorem dX1_syndromeOf_8 : decode cX1_syndromeOf 8 = .ok (.istore 4, 2) := by decide +kernel
theorem dX1_syndromeOf_10 : decode cX1_syndromeOf 10 = .ok (.iload 4, 2) := by decide +kernel
theorem dX1_syndromeOf_12 : decode cX1_syndromeOf 12 = .ok (.iload_n 3, 1) := by decide +kernel
theorem dX1_syndromeOf_13 : decode cX1_syndromeOf 13 = .ok (.if_icmp .ge 29, 3) := by decide +kernel
theorem dX1_syndromeOf_16 : decode cX1_syndromeOf 16 = .ok (.iload_n 1, 1) := by decide +kernel
theorem dX1_syndromeOf_17 : decode cX1_syndromeOf 17 = .ok (.iload 4, 2) := by decide +kernel
theorem dX1_syndromeOf_19 : decode cX1_syndromeOf 19 = .ok (.iushr, 1) := by decide +kernel
theorem dX1_syndromeOf_20 : decode cX1_syndromeOf 20 = .ok (.iconst 1, 1) := by decide +kernel
theorem dX1_syndromeOf_21 : decode cX1_syndromeOf 21 = .ok (.iand, 1) := by decide +kernel
theorem dX1_syndromeOf_22 : decode cX1_syndromeOf 22 = .ok (.iconst 1, 1) := by decide +kernel
theorem dX1_syndromeOf_23 : decode cX1_syndromeOf 23 = .ok (.if_icmp .ne 13, 3) := by decide +kernel
theorem dX1_syndromeOf_26 : decode cX1_syndromeOf 26 = .ok (.iload_n 2, 1) := by decide +kernel
theorem dX1_syndromeOf_27 : decode cX1_syndromeOf 27 = .ok (.aload_n 0, 1) := by decide +kernel
theorem dX1_syndromeOf_28 : decode cX1_syndromeOf 28 = .ok (.getfield 18, 3) := by decide +kernel
theorem dX1_syndromeOf_31 : decode cX1_syndromeOf 31 = .ok (.iload 4, 2) := by decide +kernel
theorem dX1_syndromeOf_33 : decode cX1_syndromeOf 33 = .ok (.iaload, 1) := by decide +kernel
theorem dX1_syndromeOf_34 : decode cX1_syndromeOf 34 = .ok (.ixor, 1) := by decide +kernel
theorem dX1_syndromeOf_35 : decode cX1_syndromeOf 35 = .ok (.istore_n 2, 1) := by decide +kernel
theorem dX1_syndromeOf_36 : decode cX1_syndromeOf 36 = .ok (.iinc 4 1, 3) := by decide +kernel
theorem dX1_syndromeOf_39 : decode cX1_syndromeOf 39 = .ok (.goto (-29), 3) := by decide +kernel
theorem dX1_syndromeOf_42 : decode cX1_syndromeOf 42 = .ok (.iload_n 2, 1) := by decide +kernel
theorem dX1_syndromeOf_43 : decode cX1_syndromeOf 43 = .ok (.ireturn, 1) := by decide +kernel
def wW_X1_syndromeOf (G : GG) (h0 h1 y0_4 y0_5 : Nat) (x0_0 : Int32) (x0_1 : Int32) (x0_2 : Int32) (a1 : Nat → Int32) : va_W := [(h0, .inr (1, [.int x0_0, .int x0_1, .int x0_2, .ref h1, .ref y0_4, .ref y0_5])), (h1, .inl (G.2.1, 32, .inl a1))]
set_option maxHeartbeats 4000000 in
set_option maxRecDepth 100000 in
theorem c_X1_syndromeOf (l : Launch) (G : GG) (h0 h1 y0_4 y0_5 : Nat) (sz : Nat) (x0_0 : Int32) (x0_1 : Int32) (x0_2 : Int32) (a1 : Nat → Int32) (F : Nat) (b1 : Int32)  (r0 : Int32) (hf : p_X1_syndromeOf F x0_0 x0_1 a1 b1 = some r0) : Met l yX1_syndromeOf (.code yX1_syndromeOf cX1_syndromeOf 5 (some .int) :: gtbl) ({ frames := 1, cells := 0, slots := 0, locals := 20 } : Room) (PcS G [.ref h0, .int b1] (wW_X1_syndromeOf G h0 h1 y0_4 y0_5 x0_0 x0_1 x0_2 a1) sz) (QiS G r0 (va_A (wW_X1_syndromeOf G h0 h1 y0_4 y0_5 x0_0 x0_1 x0_2 a1) sz) (wW_X1_syndromeOf G h0 h1 y0_4 y0_5 x0_0 x0_1 x0_2 a1)) 0 0 (va_A (wW_X1_syndromeOf G h0 h1 y0_4 y0_5 x0_0 x0_1 x0_2 a1) sz) := by
  refine met_start (by decide) (Nat.le_of_ble_eq_true rfl) ?_
  intro p e s m below meth c hC hr hlk hnm hK hP hD hA hS hX ls hl
  obtain ⟨hx, hb, hml, hown, ht0⟩ := hC
  have hown : s.vm.findClass RX1 = some m.cls := hown
  generalize va_A (wW_X1_syndromeOf G h0 h1 y0_4 y0_5 x0_0 x0_1 x0_2 a1) sz = A at hD hA hS hX ⊢
  have hl : lv_has ls 5 [(0, .ref h0), (1, .int b1)] := hl
  have hf : p_X1_syndromeOf F x0_0 x0_1 a1 b1 = some r0 := hf
  have kL10 : ∀ (c10_1 : Int32) (c10_3 : Int32) (n10 : Nat) (u10_2 : Int32) (u10_4 : Int32), p_X1_syndromeOf_L10 F x0_0 x0_1 a1 c10_1 c10_3 n10 u10_2 u10_4 = some r0 → ∀ (H : Heap) (locs : List Loc), va_P G.1 vwCl (wW_X1_syndromeOf G h0 h1 y0_4 y0_5 x0_0 x0_1 x0_2 a1) H → va_D A (wW_X1_syndromeOf G h0 h1 y0_4 y0_5 x0_0 x0_1 x0_2 a1) → va_S A s.heap H locs → ∀ ls : Array Slot, lv_has ls 5 [(0, .ref h0), (1, .int c10_1), (2, .int u10_2), (3, .int c10_3), (4, .int u10_4)] → W p l e ({ frames := 1, cells := 0, slots := 0, locals := 20 } : Room) s m (List.toArray [.ref h0, .int b1]) below meth c H locs 0 0 (MQ below (QiS G r0 A (wW_X1_syndromeOf G h0 h1 y0_4 y0_5 x0_0 x0_1 x0_2 a1)) (List.toArray [.ref h0, .int b1]) s 0 0 A) (F0 m 10 ls []) := by
    intro c10_1 c10_3 n10
    induction n10 with
    | zero =>
      intro u10_2 u10_4 hf
      cases hf
    | succ n10 ih10 =>
      have kJ36 : ∀ (u36_2 : Int32) (u36_4 : Int32), p_X1_syndromeOf_J36 F x0_0 x0_1 a1 c10_1 c10_3 (p_X1_syndromeOf_L10 F x0_0 x0_1 a1 c10_1 c10_3 n10) u36_2 u36_4 = some r0 → ∀ (H : Heap) (locs : List Loc), va_P G.1 vwCl (wW_X1_syndromeOf G h0 h1 y0_4 y0_5 x0_0 x0_1 x0_2 a1) H → va_D A (wW_X1_syndromeOf G h0 h1 y0_4 y0_5 x0_0 x0_1 x0_2 a1) → va_S A s.heap H locs → ∀ ls : Array Slot, lv_has ls 5 [(0, .ref h0), (1, .int c10_1), (2, .int u36_2), (3, .int c10_3), (4, .int u36_4)] → W p l e ({ frames := 1, cells := 0, slots := 0, locals := 20 } : Room) s m (List.toArray [.ref h0, .int b1]) below meth c H locs 0 0 (MQ below (QiS G r0 A (wW_X1_syndromeOf G h0 h1 y0_4 y0_5 x0_0 x0_1 x0_2 a1)) (List.toArray [.ref h0, .int b1]) s 0 0 A) (F0 m 36 ls []) := by
        intro u36_2 u36_4 hf H locs hP hD hS ls hl
        refine lv_iinc (v := u36_4 + (1 : Int32)) (lv' := [(4, .int (u36_4 + (1 : Int32))), (0, .ref h0), (1, .int c10_1), (2, .int u36_2), (3, .int c10_3)]) hx hb dX1_syndromeOf_36 hl (k := 4) rfl (by rfl) (by decide) rfl (fun ls hl => ?_)
        refine lv_goto (tgt := 10) hx hb dX1_syndromeOf_39 (by decide) ?_
        exact ih10 _ _ hf _ _ hP hD hS _ (lv_sub hl [1, 2, 3, 4, 0] rfl)
      intro u10_2 u10_4 hf H locs hP hD hS ls hl
      have hf : p_X1_syndromeOf_L10b F x0_0 x0_1 a1 c10_1 c10_3 (p_X1_syndromeOf_L10 F x0_0 x0_1 a1 c10_1 c10_3 n10) u10_2 u10_4 = some r0 := hf
      refine lv_iload hx hb dX1_syndromeOf_10 (lv_at hl 4 rfl) ?_
      refine lv_iload_n hx hb dX1_syndromeOf_12 rfl (lv_at hl 3 rfl) ?_
      refine lv_icmp_ge (tgt := 42) hx hb dX1_syndromeOf_13 (by decide) (fun c1 => ?_) (fun c1 => ?_)
      · have hf := of_pos hf c1
        refine lv_iload_n hx hb dX1_syndromeOf_42 rfl (lv_at hl 2 rfl) ?_
        cases hf
        exact ret_i hx hb hr hlk hK hP hD hS dX1_syndromeOf_43
      · have hf := of_neg hf c1
        refine lv_iload_n hx hb dX1_syndromeOf_16 rfl (lv_at hl 1 rfl) ?_
        refine lv_iload hx hb dX1_syndromeOf_17 (lv_at hl 4 rfl) ?_
        refine lv_iushr (v := jushr c10_1 u10_4) hx hb dX1_syndromeOf_19 rfl ?_
        refine lv_iconst (v := (1 : Int32)) hx hb dX1_syndromeOf_20 (by decide) ?_
        refine lv_iand hx hb dX1_syndromeOf_21 ?_
        refine lv_iconst (v := (1 : Int32)) hx hb dX1_syndromeOf_22 (by decide) ?_
        refine lv_icmp_ne (tgt := 36) hx hb dX1_syndromeOf_23 (by decide) (fun c2 => ?_) (fun c2 => ?_)
        · have hf := of_neg hf c2
          exact kJ36 _ _ hf _ _ hP hD hS _ (lv_sub hl [0, 1, 2, 3, 4] rfl)
        · have hf := of_pos hf c2
          refine lv_iload_n hx hb dX1_syndromeOf_26 rfl (lv_at hl 2 rfl) ?_
          refine lv_aload_n hx hb dX1_syndromeOf_27 rfl (lv_at hl 0 rfl) ?_
          refine va_get (ci := 1) (v := .ref h1) (C := RX1) (T := TX1) (N := 6) hx hb ht0 iX1 hown hK hP 0 rfl rfl 3 (by decide) (ht0 _ wd_226) (fun _ h9 => h9) rfl dX1_syndromeOf_28 ?_
          refine lv_iload hx hb dX1_syndromeOf_31 (lv_at hl 4 rfl) ?_
          obtain ⟨g3, hf⟩ := of_grd hf
          refine va_iald hx hb hK hP 1 0 rfl rfl g3 dX1_syndromeOf_33 ?_
          refine lv_ixor hx hb dX1_syndromeOf_34 ?_
          refine lv_istore_n (lv' := [(2, .int (u10_2 ^^^ (a1 u10_4.toNatClampNeg))), (0, .ref h0), (1, .int c10_1), (3, .int c10_3), (4, .int u10_4)]) hx hb dX1_syndromeOf_35 rfl hl (by decide) rfl (fun ls hl => ?_)
          exact kJ36 _ _ hf _ _ hP hD hS _ (lv_sub hl [1, 2, 0, 3, 4] rfl)
  refine lv_iconst (v := (0 : Int32)) hx hb dX1_syndromeOf_0 (by decide) ?_
  refine lv_istore_n (lv' := [(2, .int (0 : Int32)), (0, .ref h0), (1, .int b1)]) hx hb dX1_syndromeOf_1 rfl hl (by decide) rfl (fun ls hl => ?_)
  refine lv_aload_n hx hb dX1_syndromeOf_2 rfl (lv_at hl 1 rfl) ?_
  obtain ⟨r_3_3, hc_r_3_3, hf⟩ := of_bnd hf
  refine cl_Vi (w2 := (wW_X1_syndromeOf G h0 h1 y0_4 y0_5 x0_0 x0_1 x0_2 a1)) (As := []) (rest := []) ⟨hx, hb, hml, hown, ht0⟩ (c_X1_places l G h0 h1 y0_4 y0_5 _ x0_0 x0_1 x0_2 F _ hc_r_3_3) yk_X1_places wd_527 ⟨rfl, rfl, by decide, by decide⟩ ⟨Nat.le_refl _, Nat.le_refl _⟩ hX hK hP hD hS hA [0] [1] [1, 0] (va_recv hK hP (ci := 1) (q0 := 0) rfl rfl) rfl rfl (by decide) rfl rfl rfl rfl rfl hl.1 rfl (Nat.le_of_ble_eq_true rfl) dX1_syndromeOf_3 (fun H locs hP hD hS => ?_)
  refine lv_istore_n (lv' := [(3, .int r_3_3), (2, .int (0 : Int32)), (0, .ref h0), (1, .int b1)]) hx hb dX1_syndromeOf_6 rfl hl (by decide) rfl (fun ls hl => ?_)
  refine lv_iconst (v := (0 : Int32)) hx hb dX1_syndromeOf_7 (by decide) ?_
  refine lv_istore (lv' := [(4, .int (0 : Int32)), (3, .int r_3_3), (2, .int (0 : Int32)), (0, .ref h0), (1, .int b1)]) hx hb dX1_syndromeOf_8 hl (by decide) rfl (fun ls hl => ?_)
  exact kL10 _ _ _ _ _ hf _ _ hP hD hS _ (lv_sub hl [3, 4, 2, 1, 0] rfl)
theorem yk_X1_syndromeOf : ykV yX1_syndromeOf RX1 cX1_syndromeOf 5 (some .int) 1 := ⟨wd_773, wd_774, wd_131, wd_775, rfl, by decide +kernel, by decide +kernel, by decide +kernel⟩
theorem dX1_wholeOf_0 : decode cX1_wholeOf 0 = .ok (.iload_n 1, 1) := by decide +kernel
theorem dX1_wholeOf_1 : decode cX1_wholeOf 1 = .ok (.aload_n 0, 1) := by decide +kernel
theorem dX1_wholeOf_2 : decode cX1_wholeOf 2 = .ok (.invokevirtual 32, 3) := by decide +kernel
theorem dX1_wholeOf_5 : decode cX1_wholeOf 5 = .ok (.iand, 1) := by decide +kernel
theorem dX1_wholeOf_6 : decode cX1_wholeOf 6 = .ok (.istore_n 2, 1) := by decide +kernel
theorem dX1_wholeOf_7 : decode cX1_wholeOf 7 = .ok (.iload_n 2, 1) := by decide +kernel
theorem dX1_wholeOf_8 : decode cX1_wholeOf 8 = .ok (.aload_n 0, 1) := by decide +kernel
theorem dX1_wholeOf_9 : decode cX1_wholeOf 9 = .ok (.iload_n 2, 1) := by decide +kernel
theorem dX1_wholeOf_10 : decode cX1_wholeOf 10 = .ok (.invokevirtual 60, 3) := by decide +kernel
theorem dX1_wholeOf_13 : decode cX1_wholeOf 13 = .ok (.aload_n 0, 1) := by decide +kernel
theorem dX1_wholeOf_14 : decode cX1_wholeOf 14 = .ok (.getfield 9, 3) := by decide +kernel
theorem dX1_wholeOf_17 : decode cX1_wholeOf 17 = .ok (.ishl, 1) := by decide +kernel
theorem dX1_wholeOf_18 : decode cX1_wholeOf 18 = .ok (.ior, 1) := by decide +kernel
theorem dX1_wholeOf_19 : decode cX1_wholeOf 19 = .ok (.ireturn, 1) := by decide +kernel
def wW_X1_wholeOf (G : GG) (h0 h1 y0_4 y0_5 : Nat) (x0_0 : Int32) (x0_1 : Int32) (x0_2 : Int32) (a1 : Nat → Int32) : va_W := [(h0, .inr (1, [.int x0_0, .int x0_1, .int x0_2, .ref h1, .ref y0_4, .ref y0_5])), (h1, .inl (G.2.1, 32, .inl a1))]
set_option maxHeartbeats 4000000 in
set_option maxRecDepth 100000 in
theorem c_X1_wholeOf (l : Launch) (G : GG) (h0 h1 y0_4 y0_5 : Nat) (sz : Nat) (x0_0 : Int32) (x0_1 : Int32) (x0_2 : Int32) (a1 : Nat → Int32) (F : Nat) (b1 : Int32)  (r0 : Int32) (hf : p_X1_wholeOf F x0_0 x0_1 a1 b1 = some r0) : Met l yX1_wholeOf (.code yX1_wholeOf cX1_wholeOf 3 (some .int) :: gtbl) ({ frames := 2, cells := 0, slots := 0, locals := 44 } : Room) (PcS G [.ref h0, .int b1] (wW_X1_wholeOf G h0 h1 y0_4 y0_5 x0_0 x0_1 x0_2 a1) sz) (QiS G r0 (va_A (wW_X1_wholeOf G h0 h1 y0_4 y0_5 x0_0 x0_1 x0_2 a1) sz) (wW_X1_wholeOf G h0 h1 y0_4 y0_5 x0_0 x0_1 x0_2 a1)) 0 0 (va_A (wW_X1_wholeOf G h0 h1 y0_4 y0_5 x0_0 x0_1 x0_2 a1) sz) := by
  refine met_start (by decide) (Nat.le_of_ble_eq_true rfl) ?_
  intro p e s m below meth c hC hr hlk hnm hK hP hD hA hS hX ls hl
  obtain ⟨hx, hb, hml, hown, ht0⟩ := hC
  have hown : s.vm.findClass RX1 = some m.cls := hown
  generalize va_A (wW_X1_wholeOf G h0 h1 y0_4 y0_5 x0_0 x0_1 x0_2 a1) sz = A at hD hA hS hX ⊢
  have hl : lv_has ls 3 [(0, .ref h0), (1, .int b1)] := hl
  have hf : p_X1_wholeOf F x0_0 x0_1 a1 b1 = some r0 := hf
  refine lv_iload_n hx hb dX1_wholeOf_0 rfl (lv_at hl 1 rfl) ?_
  refine lv_aload_n hx hb dX1_wholeOf_1 rfl (lv_at hl 0 rfl) ?_
  obtain ⟨r_2_0, hc_r_2_0, hf⟩ := of_bnd hf
  refine cl_Vi (w2 := (wW_X1_wholeOf G h0 h1 y0_4 y0_5 x0_0 x0_1 x0_2 a1)) (As := []) (rest := [.int b1]) ⟨hx, hb, hml, hown, ht0⟩ (c_X1_dataMask l G h0 h1 y0_4 y0_5 _ x0_0 x0_1 x0_2 F _ hc_r_2_0) yk_X1_dataMask wd_771 ⟨rfl, rfl, by decide, by decide⟩ ⟨Nat.le_refl _, Nat.le_refl _⟩ hX hK hP hD hS hA [0] [1] [1, 0] (va_recv hK hP (ci := 1) (q0 := 0) rfl rfl) rfl rfl (by decide) rfl rfl rfl rfl rfl hl.1 rfl (Nat.le_of_ble_eq_true rfl) dX1_wholeOf_2 (fun H locs hP hD hS => ?_)
  refine lv_iand hx hb dX1_wholeOf_5 ?_
  refine lv_istore_n (lv' := [(2, .int (b1 &&& r_2_0)), (0, .ref h0), (1, .int b1)]) hx hb dX1_wholeOf_6 rfl hl (by decide) rfl (fun ls hl => ?_)
  refine lv_iload_n hx hb dX1_wholeOf_7 rfl (lv_at hl 0 rfl) ?_
  refine lv_aload_n hx hb dX1_wholeOf_8 rfl (lv_at hl 1 rfl) ?_
  refine lv_iload_n hx hb dX1_wholeOf_9 rfl (lv_at hl 0 rfl) ?_
  obtain ⟨r_10_1, hc_r_10_1, hf⟩ := of_bnd hf
  refine cl_Vi (w2 := (wW_X1_wholeOf G h0 h1 y0_4 y0_5 x0_0 x0_1 x0_2 a1)) (As := [.int (b1 &&& r_2_0)]) (rest := [.int (b1 &&& r_2_0)]) ⟨hx, hb, hml, hown, ht0⟩ (c_X1_syndromeOf l G h0 h1 y0_4 y0_5 _ x0_0 x0_1 x0_2 a1 F (b1 &&& r_2_0) _ hc_r_10_1) yk_X1_syndromeOf wd_772 ⟨rfl, rfl, by decide, by decide⟩ ⟨Nat.le_refl _, Nat.le_refl _⟩ hX hK hP hD hS hA [0, 1] [] [0, 1] (va_recv hK hP (ci := 1) (q0 := 0) rfl rfl) rfl rfl (by decide) rfl rfl rfl rfl rfl hl.1 rfl (Nat.le_of_ble_eq_true rfl) dX1_wholeOf_10 (fun H locs hP hD hS => ?_)
  refine lv_aload_n hx hb dX1_wholeOf_13 rfl (lv_at hl 1 rfl) ?_
  refine va_get (ci := 1) (v := .int x0_0) (C := RX1) (T := TX1) (N := 6) hx hb ht0 iX1 hown hK hP 0 rfl rfl 0 (by decide) (ht0 _ wd_209) (fun _ h9 => h9) rfl dX1_wholeOf_14 ?_
  refine lv_ishl hx hb dX1_wholeOf_17 ?_
  refine lv_ior hx hb dX1_wholeOf_18 ?_
  cases hf
  exact ret_i hx hb hr hlk hK hP hD hS dX1_wholeOf_19
theorem yk_X1_wholeOf : ykV yX1_wholeOf RX1 cX1_wholeOf 3 (some .int) 1 := ⟨wd_768, wd_769, wd_131, wd_770, rfl, by decide +kernel, by decide +kernel, by decide +kernel⟩
theorem dX1_wiresOf_0 : decode cX1_wiresOf 0 = .ok (.iconst 0, 1) := by decide +kernel
theorem dX1_wiresOf_1 : decode cX1_wiresOf 1 = .ok (.istore_n 2, 1) := by decide +kernel
theorem dX1_wiresOf_2 : decode cX1_wiresOf 2 = .ok (.iconst 0, 1) := by decide +kernel
theorem dX1_wiresOf_3 : decode cX1_wiresOf 3 = .ok (.istore_n 3, 1) := by decide +kernel
theorem dX1_wiresOf_4 : decode cX1_wiresOf 4 = .ok (.iload_n 3, 1) := by decide +kernel
theorem dX1_wiresOf_5 : decode cX1_wiresOf 5 = .ok (.aload_n 0, 1) := by decide +kernel
theorem dX1_wiresOf_6 : decode cX1_wiresOf 6 = .ok (.getfield 9, 3) := by decide +kernel
theorem dX1_wiresOf_9 : decode cX1_wiresOf 9 = .ok (.if_icmp .ge 22, 3) := by decide +kernel
theorem dX1_wiresOf_12 : decode cX1_wiresOf 12 = .ok (.iload_n 2, 1) := by decide +kernel
theorem dX1_wiresOf_13 : decode cX1_wiresOf 13 = .ok (.aload_n 0, 1) := by decide +kernel
theorem dX1_wiresOf_14 : decode cX1_wiresOf 14 = .ok (.getfield 18, 3) := by decide +kernel
theorem dX1_wiresOf_17 : decode cX1_wiresOf 17 = .ok (.iload_n 3, 1) := by decide +kernel
theorem dX1_wiresOf_18 : decode cX1_wiresOf 18 = .ok (.iaload, 1) := by decide +kernel
theorem dX1_wiresOf_19 : decode cX1_wiresOf 19 = .ok (.iload_n 1, 1) := by decide +kernel
theorem dX1_wiresOf_20 : decode cX1_wiresOf 20 = .ok (.iushr, 1) := by decide +kernel
theorem dX1_wiresOf_21 : decode cX1_wiresOf 21 = .ok (.iconst 1, 1) := by decide +kernel
theorem dX1_wiresOf_22 : decode cX1_wiresOf 22 = .ok (.iand, 1) := by decide +kernel
theorem dX1_wiresOf_23 : decode cX1_wiresOf 23 = .ok (.iadd, 1) := by decide +kernel
theorem dX1_wiresOf_24 : decode cX1_wiresOf 24 = .ok (.istore_n 2, 1) := by decide +kernel
theorem dX1_wiresOf_25 : decode cX1_wiresOf 25 = .ok (.iinc 3 1, 3) := by decide +kernel
theorem dX1_wiresOf_28 : decode cX1_wiresOf 28 = .ok (.goto (-24), 3) := by decide +kernel
theorem dX1_wiresOf_31 : decode cX1_wiresOf 31 = .ok (.iload_n 2, 1) := by decide +kernel
theorem dX1_wiresOf_32 : decode cX1_wiresOf 32 = .ok (.ireturn, 1) := by decide +kernel
def wW_X1_wiresOf (G : GG) (h0 h1 y0_4 y0_5 : Nat) (x0_0 : Int32) (x0_1 : Int32) (x0_2 : Int32) (a1 : Nat → Int32) : va_W := [(h0, .inr (1, [.int x0_0, .int x0_1, .int x0_2, .ref h1, .ref y0_4, .ref y0_5])), (h1, .inl (G.2.1, 32, .inl a1))]
set_option maxHeartbeats 4000000 in
set_option maxRecDepth 100000 in
theorem c_X1_wiresOf (l : Launch) (G : GG) (h0 h1 y0_4 y0_5 : Nat) (sz : Nat) (x0_0 : Int32) (x0_1 : Int32) (x0_2 : Int32) (a1 : Nat → Int32) (F : Nat) (b1 : Int32)  (r0 : Int32) (hf : p_X1_wiresOf F x0_0 a1 b1 = some r0) : Met l yX1_wiresOf (.code yX1_wiresOf cX1_wiresOf 4 (some .int) :: gtbl) ({ frames := 0, cells := 0, slots := 0, locals := 0 } : Room) (PcS G [.ref h0, .int b1] (wW_X1_wiresOf G h0 h1 y0_4 y0_5 x0_0 x0_1 x0_2 a1) sz) (QiS G r0 (va_A (wW_X1_wiresOf G h0 h1 y0_4 y0_5 x0_0 x0_1 x0_2 a1) sz) (wW_X1_wiresOf G h0 h1 y0_4 y0_5 x0_0 x0_1 x0_2 a1)) 0 0 (va_A (wW_X1_wiresOf G h0 h1 y0_4 y0_5 x0_0 x0_1 x0_2 a1) sz) := by
  refine met_start (by decide) (Nat.le_of_ble_eq_true rfl) ?_
  intro p e s m below meth c hC hr hlk hnm hK hP hD hA hS hX ls hl
  obtain ⟨hx, hb, hml, hown, ht0⟩ := hC
  have hown : s.vm.findClass RX1 = some m.cls := hown
  generalize va_A (wW_X1_wiresOf G h0 h1 y0_4 y0_5 x0_0 x0_1 x0_2 a1) sz = A at hD hA hS hX ⊢
  have hl : lv_has ls 4 [(0, .ref h0), (1, .int b1)] := hl
  have hf : p_X1_wiresOf F x0_0 a1 b1 = some r0 := hf
  have kL4 : ∀ (c4_1 : Int32) (n4 : Nat) (u4_2 : Int32) (u4_3 : Int32), p_X1_wiresOf_L4 F x0_0 a1 c4_1 n4 u4_2 u4_3 = some r0 → ∀ (H : Heap) (locs : List Loc), va_P G.1 vwCl (wW_X1_wiresOf G h0 h1 y0_4 y0_5 x0_0 x0_1 x0_2 a1) H → va_D A (wW_X1_wiresOf G h0 h1 y0_4 y0_5 x0_0 x0_1 x0_2 a1) → va_S A s.heap H locs → ∀ ls : Array Slot, lv_has ls 4 [(0, .ref h0), (1, .int c4_1), (2, .int u4_2), (3, .int u4_3)] → W p l e ({ frames := 0, cells := 0, slots := 0, locals := 0 } : Room) s m (List.toArray [.ref h0, .int b1]) below meth c H locs 0 0 (MQ below (QiS G r0 A (wW_X1_wiresOf G h0 h1 y0_4 y0_5 x0_0 x0_1 x0_2 a1)) (List.toArray [.ref h0, .int b1]) s 0 0 A) (F0 m 4 ls []) := by
    intro c4_1 n4
    induction n4 with
    | zero =>
      intro u4_2 u4_3 hf
      cases hf
    | succ n4 ih4 =>
      intro u4_2 u4_3 hf H locs hP hD hS ls hl
      have hf : p_X1_wiresOf_L4b F x0_0 a1 c4_1 (p_X1_wiresOf_L4 F x0_0 a1 c4_1 n4) u4_2 u4_3 = some r0 := hf
      refine lv_iload_n hx hb dX1_wiresOf_4 rfl (lv_at hl 3 rfl) ?_
      refine lv_aload_n hx hb dX1_wiresOf_5 rfl (lv_at hl 0 rfl) ?_
      refine va_get (ci := 1) (v := .int x0_0) (C := RX1) (T := TX1) (N := 6) hx hb ht0 iX1 hown hK hP 0 rfl rfl 0 (by decide) (ht0 _ wd_209) (fun _ h9 => h9) rfl dX1_wiresOf_6 ?_
      refine lv_icmp_ge (tgt := 31) hx hb dX1_wiresOf_9 (by decide) (fun c1 => ?_) (fun c1 => ?_)
      · have hf := of_pos hf c1
        refine lv_iload_n hx hb dX1_wiresOf_31 rfl (lv_at hl 2 rfl) ?_
        cases hf
        exact ret_i hx hb hr hlk hK hP hD hS dX1_wiresOf_32
      · have hf := of_neg hf c1
        refine lv_iload_n hx hb dX1_wiresOf_12 rfl (lv_at hl 2 rfl) ?_
        refine lv_aload_n hx hb dX1_wiresOf_13 rfl (lv_at hl 0 rfl) ?_
        refine va_get (ci := 1) (v := .ref h1) (C := RX1) (T := TX1) (N := 6) hx hb ht0 iX1 hown hK hP 0 rfl rfl 3 (by decide) (ht0 _ wd_226) (fun _ h9 => h9) rfl dX1_wiresOf_14 ?_
        refine lv_iload_n hx hb dX1_wiresOf_17 rfl (lv_at hl 3 rfl) ?_
        obtain ⟨g2, hf⟩ := of_grd hf
        refine va_iald hx hb hK hP 1 0 rfl rfl g2 dX1_wiresOf_18 ?_
        refine lv_iload_n hx hb dX1_wiresOf_19 rfl (lv_at hl 1 rfl) ?_
        refine lv_iushr (v := jushr (a1 u4_3.toNatClampNeg) c4_1) hx hb dX1_wiresOf_20 rfl ?_
        refine lv_iconst (v := (1 : Int32)) hx hb dX1_wiresOf_21 (by decide) ?_
        refine lv_iand hx hb dX1_wiresOf_22 ?_
        refine lv_iadd hx hb dX1_wiresOf_23 ?_
        refine lv_topi (fun z3 ez3 => ?_)
        have hf := of_jlet hf ez3
        refine lv_istore_n (lv' := [(2, .int z3), (0, .ref h0), (1, .int c4_1), (3, .int u4_3)]) hx hb dX1_wiresOf_24 rfl hl (by decide) rfl (fun ls hl => ?_)
        refine lv_iinc (v := u4_3 + (1 : Int32)) (lv' := [(3, .int (u4_3 + (1 : Int32))), (2, .int z3), (0, .ref h0), (1, .int c4_1)]) hx hb dX1_wiresOf_25 hl (k := 3) rfl (by rfl) (by decide) rfl (fun ls hl => ?_)
        refine lv_goto (tgt := 4) hx hb dX1_wiresOf_28 (by decide) ?_
        exact ih4 _ _ hf _ _ hP hD hS _ (lv_sub hl [2, 3, 1, 0] rfl)
  refine lv_iconst (v := (0 : Int32)) hx hb dX1_wiresOf_0 (by decide) ?_
  refine lv_istore_n (lv' := [(2, .int (0 : Int32)), (0, .ref h0), (1, .int b1)]) hx hb dX1_wiresOf_1 rfl hl (by decide) rfl (fun ls hl => ?_)
  refine lv_iconst (v := (0 : Int32)) hx hb dX1_wiresOf_2 (by decide) ?_
  refine lv_istore_n (lv' := [(3, .int (0 : Int32)), (2, .int (0 : Int32)), (0, .ref h0), (1, .int b1)]) hx hb dX1_wiresOf_3 rfl hl (by decide) rfl (fun ls hl => ?_)
  exact kL4 _ _ _ _ hf _ _ hP hD hS _ (lv_sub hl [2, 3, 1, 0] rfl)
theorem yk_X1_wiresOf : ykV yX1_wiresOf RX1 cX1_wiresOf 4 (some .int) 1 := ⟨wd_1040, wd_1041, wd_131, wd_1042, rfl, by decide +kernel, by decide +kernel, by decide +kernel⟩
theorem dX1_countColumns_0 : decode cX1_countColumns 0 = .ok (.iconst 0, 1) := by decide +kernel
theorem dX1_countColumns_1 : decode cX1_countColumns 1 = .ok (.istore_n 3, 1) := by decide +kernel
theorem dX1_countColumns_2 : decode cX1_countColumns 2 = .ok (.iconst 0, 1) := by decide +kernel
theorem dX1_countColumns_3 : decode cX1_countColumns 3 = .ok (.istore 4, 2) := by decide +kernel
theorem dX1_countColumns_5 : decode cX1_countColumns 5 = .ok (.iload 4, 2) := by decide +kernel
theorem dX1_countColumns_7 : decode cX1_countColumns 7 = .ok (.iconst 1, 1) := by decide +kernel
theorem dX1_countColumns_8 : decode cX1_countColumns 8 = .ok (.aload_n 0, 1) := by decide +kernel
theorem dX1_countColumns_9 : decode cX1_countColumns 9 = .ok (.getfield 15, 3) := by decide +kernel
theorem dX1_countColumns_12 : decode cX1_countColumns 12 = .ok (.ishl, 1) := by decide +kernel
theorem dX1_countColumns_13 : decode cX1_countColumns 13 = .ok (.if_icmp .ge 35, 3) := by decide +kernel
theorem dX1_countColumns_16 : decode cX1_countColumns 16 = .ok (.iload 4, 2) := by decide +kernel
theorem dX1_countColumns_18 : decode cX1_countColumns 18 = .ok (.invokestatic 35, 3) := by decide +kernel
theorem dX1_countColumns_21 : decode cX1_countColumns 21 = .ok (.iload_n 1, 1) := by decide +kernel
theorem dX1_countColumns_22 : decode cX1_countColumns 22 = .ok (.if_icmp .ne 20, 3) := by decide +kernel
theorem dX1_countColumns_25 : decode cX1_countColumns 25 = .ok (.iload_n 2, 1) := by decide +kernel
theorem dX1_countColumns_26 : decode cX1_countColumns 26 = .ok (.ifCond .eq 13, 3) := by decide +kernel
theorem dX1_countColumns_29 : decode cX1_countColumns 29 = .ok (.aload_n 0, 1) := by decide +kernel
theorem dX1_countColumns_30 : decode cX1_countColumns 30 = .ok (.iload 4, 2) := by decide +kernel
theorem dX1_countColumns_32 : decode cX1_countColumns 32 = .ok (.invokevirtual 63, 3) := by decide +kernel
theorem dX1_countColumns_35 : decode cX1_countColumns 35 = .ok (.iconst (-1), 1) := by decide +kernel
theorem dX1_countColumns_36 : decode cX1_countColumns 36 = .ok (.if_icmp .ne 6, 3) := by decide +kernel
theorem dX1_countColumns_39 : decode cX1_countColumns 39 = .ok (.iinc 3 1, 3) := by decide +kernel
theorem dX1_countColumns_42 : decode cX1_countColumns 42 = .ok (.iinc 4 1, 3) := by decide +kernel
theorem dX1_countColumns_45 : decode cX1_countColumns 45 = .ok (.goto (-40), 3) := by decide +kernel
theorem dX1_countColumns_48 : decode cX1_countColumns 48 = .ok (.iload_n 3, 1) := by decide +kernel
theorem dX1_countColumns_49 : decode cX1_countColumns 49 = .ok (.ireturn, 1) := by decide +kernel
def wW_X1_countColumns (G : GG) (h0 h1 y0_3 y0_5 : Nat) (x0_0 : Int32) (x0_1 : Int32) (x0_2 : Int32) (a1 : Nat → Int32) : va_W := [(h0, .inr (1, [.int x0_0, .int x0_1, .int x0_2, .ref y0_3, .ref h1, .ref y0_5])), (h1, .inl (G.2.1, 256, .inl a1))]
set_option maxHeartbeats 4000000 in
set_option maxRecDepth 100000 in
theorem c_X1_countColumns (l : Launch) (G : GG) (h0 h1 y0_3 y0_5 : Nat) (sz : Nat) (x0_0 : Int32) (x0_1 : Int32) (x0_2 : Int32) (a1 : Nat → Int32) (F : Nat) (b1 : Int32) (b2 : Int32)  (r0 : Int32) (hf : p_X1_countColumns F x0_1 a1 b1 b2 = some r0) : Met l yX1_countColumns (.code yX1_countColumns cX1_countColumns 5 (some .int) :: gtbl) ({ frames := 1, cells := 0, slots := 0, locals := 21 } : Room) (PcS G [.ref h0, .int b1, .int b2] (wW_X1_countColumns G h0 h1 y0_3 y0_5 x0_0 x0_1 x0_2 a1) sz) (QiS G r0 (va_A (wW_X1_countColumns G h0 h1 y0_3 y0_5 x0_0 x0_1 x0_2 a1) sz) (wW_X1_countColumns G h0 h1 y0_3 y0_5 x0_0 x0_1 x0_2 a1)) 0 0 (va_A (wW_X1_countColumns G h0 h1 y0_3 y0_5 x0_0 x0_1 x0_2 a1) sz) := by
  refine met_start (by decide) (Nat.le_of_ble_eq_true rfl) ?_
  intro p e s m below meth c hC hr hlk hnm hK hP hD hA hS hX ls hl
  obtain ⟨hx, hb, hml, hown, ht0⟩ := hC
  have hown : s.vm.findClass RX1 = some m.cls := hown
  generalize va_A (wW_X1_countColumns G h0 h1 y0_3 y0_5 x0_0 x0_1 x0_2 a1) sz = A at hD hA hS hX ⊢
  have hl : lv_has ls 5 [(0, .ref h0), (1, .int b1), (2, .int b2)] := hl
  have hf : p_X1_countColumns F x0_1 a1 b1 b2 = some r0 := hf
  have kL5 : ∀ (c5_1 : Int32) (c5_2 : Int32) (n5 : Nat) (u5_3 : Int32) (u5_4 : Int32), p_X1_countColumns_L5 F x0_1 a1 c5_1 c5_2 n5 u5_3 u5_4 = some r0 → ∀ (H : Heap) (locs : List Loc), va_P G.1 vwCl (wW_X1_countColumns G h0 h1 y0_3 y0_5 x0_0 x0_1 x0_2 a1) H → va_D A (wW_X1_countColumns G h0 h1 y0_3 y0_5 x0_0 x0_1 x0_2 a1) → va_S A s.heap H locs → ∀ ls : Array Slot, lv_has ls 5 [(0, .ref h0), (1, .int c5_1), (2, .int c5_2), (3, .int u5_3), (4, .int u5_4)] → W p l e ({ frames := 1, cells := 0, slots := 0, locals := 21 } : Room) s m (List.toArray [.ref h0, .int b1, .int b2]) below meth c H locs 0 0 (MQ below (QiS G r0 A (wW_X1_countColumns G h0 h1 y0_3 y0_5 x0_0 x0_1 x0_2 a1)) (List.toArray [.ref h0, .int b1, .int b2]) s 0 0 A) (F0 m 5 ls []) := by
    intro c5_1 c5_2 n5
    induction n5 with
    | zero =>
      intro u5_3 u5_4 hf
      cases hf
    | succ n5 ih5 =>
      have kJ42 : ∀ (u42_3 : Int32) (u42_4 : Int32), p_X1_countColumns_J42 F x0_1 a1 c5_1 c5_2 (p_X1_countColumns_L5 F x0_1 a1 c5_1 c5_2 n5) u42_3 u42_4 = some r0 → ∀ (H : Heap) (locs : List Loc), va_P G.1 vwCl (wW_X1_countColumns G h0 h1 y0_3 y0_5 x0_0 x0_1 x0_2 a1) H → va_D A (wW_X1_countColumns G h0 h1 y0_3 y0_5 x0_0 x0_1 x0_2 a1) → va_S A s.heap H locs → ∀ ls : Array Slot, lv_has ls 5 [(0, .ref h0), (1, .int c5_1), (2, .int c5_2), (3, .int u42_3), (4, .int u42_4)] → W p l e ({ frames := 1, cells := 0, slots := 0, locals := 21 } : Room) s m (List.toArray [.ref h0, .int b1, .int b2]) below meth c H locs 0 0 (MQ below (QiS G r0 A (wW_X1_countColumns G h0 h1 y0_3 y0_5 x0_0 x0_1 x0_2 a1)) (List.toArray [.ref h0, .int b1, .int b2]) s 0 0 A) (F0 m 42 ls []) := by
        intro u42_3 u42_4 hf H locs hP hD hS ls hl
        refine lv_iinc (v := u42_4 + (1 : Int32)) (lv' := [(4, .int (u42_4 + (1 : Int32))), (0, .ref h0), (1, .int c5_1), (2, .int c5_2), (3, .int u42_3)]) hx hb dX1_countColumns_42 hl (k := 4) rfl (by rfl) (by decide) rfl (fun ls hl => ?_)
        refine lv_goto (tgt := 5) hx hb dX1_countColumns_45 (by decide) ?_
        exact ih5 _ _ hf _ _ hP hD hS _ (lv_sub hl [1, 2, 3, 4, 0] rfl)
      have kJ39 : ∀ (u39_3 : Int32) (u39_4 : Int32), p_X1_countColumns_J39 F x0_1 a1 c5_1 c5_2 (p_X1_countColumns_L5 F x0_1 a1 c5_1 c5_2 n5) u39_3 u39_4 = some r0 → ∀ (H : Heap) (locs : List Loc), va_P G.1 vwCl (wW_X1_countColumns G h0 h1 y0_3 y0_5 x0_0 x0_1 x0_2 a1) H → va_D A (wW_X1_countColumns G h0 h1 y0_3 y0_5 x0_0 x0_1 x0_2 a1) → va_S A s.heap H locs → ∀ ls : Array Slot, lv_has ls 5 [(0, .ref h0), (1, .int c5_1), (2, .int c5_2), (3, .int u39_3), (4, .int u39_4)] → W p l e ({ frames := 1, cells := 0, slots := 0, locals := 21 } : Room) s m (List.toArray [.ref h0, .int b1, .int b2]) below meth c H locs 0 0 (MQ below (QiS G r0 A (wW_X1_countColumns G h0 h1 y0_3 y0_5 x0_0 x0_1 x0_2 a1)) (List.toArray [.ref h0, .int b1, .int b2]) s 0 0 A) (F0 m 39 ls []) := by
        intro u39_3 u39_4 hf H locs hP hD hS ls hl
        refine lv_iinc (v := u39_3 + (1 : Int32)) (lv' := [(3, .int (u39_3 + (1 : Int32))), (0, .ref h0), (1, .int c5_1), (2, .int c5_2), (4, .int u39_4)]) hx hb dX1_countColumns_39 hl (k := 3) rfl (by rfl) (by decide) rfl (fun ls hl => ?_)
        exact kJ42 _ _ hf _ _ hP hD hS _ (lv_sub hl [1, 2, 3, 0, 4] rfl)
      intro u5_3 u5_4 hf H locs hP hD hS ls hl
      have hf : p_X1_countColumns_L5b F x0_1 a1 c5_1 c5_2 (p_X1_countColumns_L5 F x0_1 a1 c5_1 c5_2 n5) u5_3 u5_4 = some r0 := hf
      refine lv_iload hx hb dX1_countColumns_5 (lv_at hl 4 rfl) ?_
      refine lv_iconst (v := (1 : Int32)) hx hb dX1_countColumns_7 (by decide) ?_
      refine lv_aload_n hx hb dX1_countColumns_8 rfl (lv_at hl 0 rfl) ?_
      refine va_get (ci := 1) (v := .int x0_1) (C := RX1) (T := TX1) (N := 6) hx hb ht0 iX1 hown hK hP 0 rfl rfl 1 (by decide) (ht0 _ wd_215) (fun _ h9 => h9) rfl dX1_countColumns_9 ?_
      refine lv_ishl hx hb dX1_countColumns_12 ?_
      refine lv_icmp_ge (tgt := 48) hx hb dX1_countColumns_13 (by decide) (fun c1 => ?_) (fun c1 => ?_)
      · have hf := of_pos hf c1
        refine lv_iload_n hx hb dX1_countColumns_48 rfl (lv_at hl 3 rfl) ?_
        cases hf
        exact ret_i hx hb hr hlk hK hP hD hS dX1_countColumns_49
      · have hf := of_neg hf c1
        refine lv_iload hx hb dX1_countColumns_16 (lv_at hl 4 rfl) ?_
        obtain ⟨r_18_1, hc_r_18_1, hf⟩ := of_bnd hf
        refine cl_Si (w2 := (wW_X1_countColumns G h0 h1 y0_3 y0_5 x0_0 x0_1 x0_2 a1)) (As := [.int u5_4]) (rest := []) ⟨hx, hb, hml, hown, ht0⟩ (c_J6_bitCount_0f7a4 l G _ F u5_4 _ hc_r_18_1) yk_J6_bitCount_0f7a4 wd_744 ⟨rfl, rfl, by decide, by decide⟩ ⟨Nat.le_refl _, Nat.le_refl _⟩ hX hK hP hD hS hA [] [0, 1] [0, 1] rfl rfl (by decide) rfl rfl rfl rfl rfl hl.1 rfl (Nat.le_of_ble_eq_true rfl) dX1_countColumns_18 (fun H locs hP hD hS => ?_)
        refine lv_iload_n hx hb dX1_countColumns_21 rfl (lv_at hl 1 rfl) ?_
        refine lv_icmp_ne (tgt := 42) hx hb dX1_countColumns_22 (by decide) (fun c3 => ?_) (fun c3 => ?_)
        · have hf := of_neg hf c3
          exact kJ42 _ _ hf _ _ hP hD hS _ (lv_sub hl [0, 1, 2, 3, 4] rfl)
        · have hf := of_pos hf c3
          refine lv_iload_n hx hb dX1_countColumns_25 rfl (lv_at hl 2 rfl) ?_
          refine lv_if_eq (tgt := 39) hx hb dX1_countColumns_26 (by decide) (fun c4 => ?_) (fun c4 => ?_)
          · have hf := of_pos hf c4
            exact kJ39 _ _ hf _ _ hP hD hS _ (lv_sub hl [0, 1, 2, 3, 4] rfl)
          · have hf := of_neg hf c4
            refine lv_aload_n hx hb dX1_countColumns_29 rfl (lv_at hl 0 rfl) ?_
            refine lv_iload hx hb dX1_countColumns_30 (lv_at hl 4 rfl) ?_
            obtain ⟨r_32_4, hc_r_32_4, hf⟩ := of_bnd hf
            refine cl_Vi (w2 := (wW_X1_countColumns G h0 h1 y0_3 y0_5 x0_0 x0_1 x0_2 a1)) (As := [.int u5_4]) (rest := []) ⟨hx, hb, hml, hown, ht0⟩ (c_X1_placeWith l G h0 h1 y0_3 y0_5 _ x0_0 x0_1 x0_2 a1 F u5_4 _ hc_r_32_4) yk_X1_placeWith wd_1216 ⟨rfl, rfl, by decide, by decide⟩ ⟨Nat.le_refl _, Nat.le_refl _⟩ hX hK hP hD hS hA [0, 1] [] [0, 1] (va_recv hK hP (ci := 1) (q0 := 0) rfl rfl) rfl rfl (by decide) rfl rfl rfl rfl rfl hl.1 rfl (Nat.le_of_ble_eq_true rfl) dX1_countColumns_32 (fun H locs hP hD hS => ?_)
            refine lv_iconst (v := (-1 : Int32)) hx hb dX1_countColumns_35 (by decide) ?_
            refine lv_icmp_ne (tgt := 42) hx hb dX1_countColumns_36 (by decide) (fun c6 => ?_) (fun c6 => ?_)
            · have hf := of_neg hf c6
              exact kJ42 _ _ hf _ _ hP hD hS _ (lv_sub hl [0, 1, 2, 3, 4] rfl)
            · have hf := of_pos hf c6
              exact kJ39 _ _ hf _ _ hP hD hS _ (lv_sub hl [0, 1, 2, 3, 4] rfl)
  refine lv_iconst (v := (0 : Int32)) hx hb dX1_countColumns_0 (by decide) ?_
  refine lv_istore_n (lv' := [(3, .int (0 : Int32)), (0, .ref h0), (1, .int b1), (2, .int b2)]) hx hb dX1_countColumns_1 rfl hl (by decide) rfl (fun ls hl => ?_)
  refine lv_iconst (v := (0 : Int32)) hx hb dX1_countColumns_2 (by decide) ?_
  refine lv_istore (lv' := [(4, .int (0 : Int32)), (3, .int (0 : Int32)), (0, .ref h0), (1, .int b1), (2, .int b2)]) hx hb dX1_countColumns_3 hl (by decide) rfl (fun ls hl => ?_)
  exact kL5 _ _ _ _ _ hf _ _ hP hD hS _ (lv_sub hl [2, 3, 4, 1, 0] rfl)
theorem yk_X1_countColumns : ykV yX1_countColumns RX1 cX1_countColumns 5 (some .int) 2 := ⟨wd_1213, wd_1214, wd_131, wd_1215, rfl, by decide +kernel, by decide +kernel, by decide +kernel⟩
