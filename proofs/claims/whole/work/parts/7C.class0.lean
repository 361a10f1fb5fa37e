/-! the class is made -/
theorem pcs {a x : Nat × va_E} {R : va_W} : ((a :: R) ++ [x]).Perm (a :: x :: R) := List.Perm.cons a (List.perm_append_comm (l₁ := R) (l₂ := [x]))
theorem gAp {L T : va_W} {x : Nat × va_E} : (L ++ (x :: T))[L.length]? = some x := (List.getElem?_append_right (Nat.le_refl _)).trans (by rw [Nat.sub_self]; rfl)
theorem pBig {c arr : Nat × va_E} {x3 h8 P s1 s2 z x2 x4 x5 x1 x9 : va_W} : (c :: ((((((((arr :: (((x3 ++ (h8 ++ P)) ++ s1) ++ s2)) ++ z) ++ x2) ++ x4) ++ x5) ++ x1) ++ x9))).Perm ((c :: (x3 ++ (h8 ++ (arr :: (z ++ (x2 ++ (x4 ++ (x5 ++ (x1 ++ x9))))))))) ++ ((P ++ s1) ++ s2)) := by
  have h : (arr :: ((x3 ++ h8) ++ (((P ++ s1) ++ s2) ++ (z ++ (x2 ++ (x4 ++ (x5 ++ (x1 ++ x9)))))))).Perm ((x3 ++ h8) ++ (arr :: ((z ++ (x2 ++ (x4 ++ (x5 ++ (x1 ++ x9))))) ++ ((P ++ s1) ++ s2)))) :=
    (List.Perm.cons arr ((List.perm_append_comm).append_left (x3 ++ h8))).trans List.perm_middle.symm
  have h := List.Perm.cons c h
  simp only [List.append_assoc, List.cons_append, List.nil_append] at h ⊢
  exact h
def wC (G : GG) (ca : Nat → Nat) (ci : Nat → Int32) (cf : Nat → AA) (st bx : Nat → Option Nat) : va_W := [(ca 0, .inr (10, [.ref (ca 2), .ref (ca 1), .ref (ca 4), .ref (ca 15), .ref (ca 17), .ref (ca 18), .ref (ca 19), .ref (ca 20), .ref (ca 28), .ref (ca 35), .ref (ca 39), .int (ci 0), .int (ci 1)])), (ca 1, .inr (3, [.ref (ca 2), .ref (ca 4), .ref (ca 10), .ref (ca 14), .int (ci 2), .int (ci 3), .int (ci 4), .int (ci 5), .int (ci 6), .int (ci 7), .int (ci 8), .int (ci 9), .int (ci 10), .int (ci 11), .int (ci 12)])), (ca 2, .inr (7, [.ref (ca 3), .int (ci 13)])), (ca 3, .inl (G.2.1, 600, .inl (cf 3))), (ca 4, .inr (0, [.ref (ca 5), .int (ci 14), .ref (ca 6), .ref (ca 7), .ref (ca 8), .ref (ca 9)])), (ca 5, .inl (G.2.1, 256, .inl (cf 5))), (ca 6, .inl (G.2.2.1, 256, .inl (cf 6))), (ca 7, .inl (G.2.2.1, 256, .inl (cf 7))), (ca 8, .inl (G.2.1, 24, .inl (cf 8))), (ca 9, .inl (G.2.1, 8, .inl (cf 9))), (ca 10, .inr (1, [.int (ci 15), .int (ci 16), .int (ci 17), .ref (ca 11), .ref (ca 12), .ref (ca 13)])), (ca 11, .inl (G.2.1, 32, .inl (cf 11))), (ca 12, .inl (G.2.1, 256, .inl (cf 12))), (ca 13, .inl (G.2.1, 256, .inl (cf 13))), (ca 14, .inl (G.2.1, 16, .inl (cf 14))), (ca 15, .inr (8, [.ref (ca 16), .int (ci 18), .int (ci 19)])), (ca 16, .inl (G.2.2.2.2.1, 13, .inr (.inr (.inr (.inr st))))), (ca 17, .inl (G.2.2.2.2.1, 2, .inr (.inr (.inr (.inr bx))))), (ca 18, .inl (G.2.2.1, 2, .inl (cf 18))), (ca 19, .inr (2, [.int (ci 20), .int (ci 21), .int (ci 22)])), (ca 20, .inr (4, [.ref (ca 21), .ref (ca 22), .ref (ca 23), .ref (ca 27), .int (ci 23), .int (ci 24), .int (ci 25)])), (ca 21, .inl (G.2.1, 256, .inl (cf 21))), (ca 22, .inl (G.2.1, 256, .inl (cf 22))), (ca 23, .inr (1, [.int (ci 26), .int (ci 27), .int (ci 28), .ref (ca 24), .ref (ca 25), .ref (ca 26)])), (ca 24, .inl (G.2.1, 32, .inl (cf 24))), (ca 25, .inl (G.2.1, 256, .inl (cf 25))), (ca 26, .inl (G.2.1, 256, .inl (cf 26))), (ca 27, .inr (2, [.int (ci 29), .int (ci 30), .int (ci 31)])), (ca 28, .inr (5, [.ref (ca 29), .ref (ca 30), .ref (ca 31), .ref (ca 32), .ref (ca 33), .ref (ca 34), .int (ci 32), .int (ci 33), .int (ci 34)])), (ca 29, .inl (G.2.1, 128, .inl (cf 29))), (ca 30, .inl (G.2.1, 128, .inl (cf 30))), (ca 31, .inl (G.2.1, 128, .inl (cf 31))), (ca 32, .inl (G.2.1, 128, .inl (cf 32))), (ca 33, .inl (G.2.1, 128, .inl (cf 33))), (ca 34, .inl (G.2.1, 128, .inl (cf 34))), (ca 35, .inr (1, [.int (ci 35), .int (ci 36), .int (ci 37), .ref (ca 36), .ref (ca 37), .ref (ca 38)])), (ca 36, .inl (G.2.1, 32, .inl (cf 36))), (ca 37, .inl (G.2.1, 256, .inl (cf 37))), (ca 38, .inl (G.2.1, 256, .inl (cf 38))), (ca 39, .inr (9, [.ref (ca 40), .ref (ca 41), .ref (ca 42), .ref (ca 43), .ref (ca 44)])), (ca 40, .inl (G.2.1, 16, .inl (cf 40))), (ca 41, .inl (G.2.1, 16, .inl (cf 41))), (ca 42, .inl (G.2.1, 16, .inl (cf 42))), (ca 43, .inl (G.2.1, 16, .inl (cf 43))), (ca 44, .inl (G.2.1, 8, .inl (cf 44)))]
theorem ykN_X10_init : ykN yX10_init cX10_init 1 := ⟨wd_150, wd_127, wd_151, ⟨by decide, by decide, by decide +kernel⟩, rfl⟩
def bxF (tl : Nat → tS) : Nat → Option Nat := fun j => if j = 0 then some (tl 13).1 else if j = 1 then some (tl 14).1 else none
theorem wC_sub {G : GG} {ca : Nat → Nat} {ci : Nat → Int32} {cf : Nat → AA} {st bx : Nat → Option Nat} {wc : va_W} (is : List Nat) (h : is.map (fun i => (wC G ca ci cf st bx)[i]?) = wc.map some) : ∀ x ∈ wc, x ∈ wC G ca ci cf st bx := fun x hx => by
  obtain ⟨k, hk⟩ := List.getElem?_of_mem hx
  obtain ⟨i, -, hi⟩ := va_in_of is h hk
  exact List.mem_of_getElem? hi
def ci0 (e_x0_1 : Int32) : Nat → Int32 := (gI [0, (-1), 0, 0, 0, 0, 0, 0, 0, 0, 0, 0, 0, 0, e_x0_1, 8, 5, 0, 0, 0, 0, (-1), 0, (-1), (-1), (-1), 8, 5, 0, 0, (-1), 0, 0, 0, 0, 8, 5, 0])
def cf0 (e_a1 e_a2 e_a3 e_a4 e_a5 e_a7 e_a8 e_a9 : AA) : Nat → AA := (gA [zA, zA, zA, zA, zA, e_a1, e_a2, e_a3, e_a4, e_a5, zA, zA, zA, zA, zA, zA, zA, zA, zA, zA, zA, zA, zA, zA, zA, zA, zA, zA, zA, zA, zA, zA, zA, zA, zA, zA, e_a7, e_a8, e_a9, zA, zA, zA, zA, zA, zA])
def nv0 (e_a7 e_a8 e_a9 : AA) : Nx := (8, 5, 0, va_cpy e_a7 zA 0 0 32, va_cpy e_a8 zA 0 0 256, va_cpy e_a9 zA 0 0 256, zA, zA, zA, zA, zA)
def caH (h0 : Nat) (f : Nat → Nat) : Nat → Nat
  | 0 => h0
  | j + 1 => f (j + 1)
def wN_X10 (G : GG) (h0 : Nat) (ci : Nat → Int32) (cf : Nat → AA) (v : Nx) (u : (Nat → Nat) × (Nat → tS)) : va_W := wC G (caH h0 u.1) ci cf (stF u.2 13) (bxF u.2) ++ poolS G u.2 (svU (fun _ => v0) 0 v) sk0 15
set_option maxRecDepth 100000 in
set_option maxHeartbeats 8000000 in
theorem c_X10_init (l : Launch) (G : GG) (h0 sz F : Nat) (e_x0_1 : Int32) (e_a1 : Nat → Int32) (e_a2 : Nat → Int32) (e_a3 : Nat → Int32) (e_a4 : Nat → Int32) (e_a5 : Nat → Int32) (e_a7 : Nat → Int32) (e_a8 : Nat → Int32) (e_a9 : Nat → Int32) (hf : p_X0_chooseColumns F 0 zA zA zA zA zA 8 5 zA zA zA 0 = some (1, e_x0_1, e_a1, e_a2, e_a3, e_a4, e_a5, e_a7, e_a8, e_a9)) : Met l yX10_init (.code yX10_init cX10_init 1 none :: gtbl) ({ frames := 5, cells := 209, slots := 13923, locals := 115 } : Room) (PcN G [.ref h0] [(h0, .inr (10, [.null, .null, .null, .null, .null, .null, .null, .null, .null, .null, .null, .int 0, .int 0]))] sz) (QvN G (va_A [(h0, .inr (10, [.null, .null, .null, .null, .null, .null, .null, .null, .null, .null, .null, .int 0, .int 0]))] sz) (wN_X10 G h0 (ci0 e_x0_1) (cf0 e_a1 e_a2 e_a3 e_a4 e_a5 e_a7 e_a8 e_a9) (nv0 e_a7 e_a8 e_a9))) 209 13923 (va_A [(h0, .inr (10, [.null, .null, .null, .null, .null, .null, .null, .null, .null, .null, .null, .int 0, .int 0]))] sz) := by
  refine met_startN (by decide) (Nat.le_of_ble_eq_true rfl) ?_
  intro p e s m below meth c C hr hlk hin hK hP hD hA hS hX hO ls hl
  obtain ⟨hx, hb, hml, hown, ht0⟩ := C
  generalize va_A [(h0, .inr (10, [.null, .null, .null, .null, .null, .null, .null, .null, .null, .null, .null, .int 0, .int 0]))] sz = A at hD hA hS hX ⊢
  have hl : lv_has ls 1 [(0, .ref h0)] := hl
  refine lv_aload_n hx hb dX10_init_0 rfl (lv_at hl 0 rfl) ?_
  refine W.objInit hx hb hown (ht0 _ wd_152) (ht0 _ wd_153) (ht0 _ wd_154) rfl (by rw [hml]; exact hl.1) rfl dX10_init_1 (Nat.le_of_ble_eq_true rfl) (Nat.le_of_ble_eq_true rfl) ?_
  refine W.eq (g2 := F0 m 4 ls []) rfl ?_
  refine lv_aload_n hx hb dX10_init_4 rfl (lv_at hl 0 rfl) ?_
  refine va_new (ci := 3) (fs := [.null, .null, .null, .null, .int 0, .int 0, .int 0, .int 0, .int 0, .int 0, .int 0, .int 0, .int 0, .int 0, .int 0]) (C := RX3) (T := TX3) (N := 15) hx hb ht0 iX3 tyX3 tyX3_ok hown (ht0 _ wd_155) (ht0 _ wd_156) (ht0 _ wd_128) hK hP hD hS hA rfl (fun j hj => by rcases (show j = 0 ∨ j = 1 ∨ j = 2 ∨ j = 3 ∨ j = 4 ∨ j = 5 ∨ j = 6 ∨ j = 7 ∨ j = 8 ∨ j = 9 ∨ j = 10 ∨ j = 11 ∨ j = 12 ∨ j = 13 ∨ j = 14 by omega) with rfl | rfl | rfl | rfl | rfl | rfl | rfl | rfl | rfl | rfl | rfl | rfl | rfl | rfl | rfl <;> rfl) (Nat.le_of_ble_eq_true rfl) (Nat.le_of_ble_eq_true rfl) dX10_init_5 (fun q5 H hP hD hS => ?_)
  refine W.widen (k := 1) (n := 15) (by decide) (by decide) ?_
  refine lv_dup hx hb dX10_init_8 rfl ?_
  refine cl_N (rest := [.ref q5, .ref h0]) ⟨hx, hb, hml, hown, ht0⟩ (c_X3_init l G q5 H.size) ykN_X3_init (List.mem_of_getElem? (i := 0) rfl) ⟨rfl, rfl, Nat.le_of_ble_eq_true rfl, Nat.le_of_ble_eq_true rfl⟩ ⟨Nat.le_of_ble_eq_true rfl, Nat.le_of_ble_eq_true rfl⟩ hX hO hK hP hD hS hA hl.1 (Nat.le_of_ble_eq_true rfl) dX10_init_9 (fun u9 H locs hP hD hS => ?_)
  refine W.widen (k := 14) (n := 1989) (by decide) (by decide) ?_
  refine va_putF (ci := 10) (v := .ref q5) (ty := (.object "OddColumns$Script")) (C := RX10) (T := TX10) (N := 13) hx hb ht0 iX10 tyX10 tyX10_ok nmX10 hown hK hP hD hS 0 rfl rfl 1 (by decide) (ht0 _ wd_541) (fun _ h9 => h9) rfl hin rfl rfl rfl rfl (Nat.le_of_ble_eq_true rfl) dX10_init_12 (fun H locs hP hD hS => ?_)
  simp only [List.cons_append, List.nil_append, List.set_cons_zero, List.set_cons_succ] at hP hD
  refine lv_aload_n hx hb dX10_init_15 rfl (lv_at hl 0 rfl) ?_
  refine lv_aload_n hx hb dX10_init_16 rfl (lv_at hl 0 rfl) ?_
  refine va_get (ci := 10) (v := .ref q5) (C := RX10) (T := TX10) (N := 13) hx hb ht0 iX10 hown hK hP 0 rfl rfl 1 (by decide) (ht0 _ wd_541) (fun _ h9 => h9) rfl dX10_init_17 ?_
  refine va_get (ci := 3) (v := .ref u9.1) (C := RX3) (T := TX3) (N := 15) hx hb ht0 iX3 hown hK hP 1 rfl rfl 0 (by decide) (ht0 _ wd_248) (fun _ h9 => h9) rfl dX10_init_20 ?_
  refine va_putF (ci := 10) (v := .ref u9.1) (ty := (.object "OddColumns$Tape")) (C := RX10) (T := TX10) (N := 13) hx hb ht0 iX10 tyX10 tyX10_ok nmX10 hown hK hP hD hS 0 rfl rfl 0 (by decide) (ht0 _ wd_540) (fun _ h9 => h9) rfl hin rfl rfl rfl rfl (Nat.le_of_ble_eq_true rfl) dX10_init_23 (fun H locs hP hD hS => ?_)
  simp only [List.cons_append, List.nil_append, List.set_cons_zero, List.set_cons_succ] at hP hD
  refine lv_aload_n hx hb dX10_init_26 rfl (lv_at hl 0 rfl) ?_
  refine lv_aload_n hx hb dX10_init_27 rfl (lv_at hl 0 rfl) ?_
  refine va_get (ci := 10) (v := .ref q5) (C := RX10) (T := TX10) (N := 13) hx hb ht0 iX10 hown hK hP 0 rfl rfl 1 (by decide) (ht0 _ wd_541) (fun _ h9 => h9) rfl dX10_init_28 ?_
  refine va_get (ci := 3) (v := .ref u9.2.2.1) (C := RX3) (T := TX3) (N := 15) hx hb ht0 iX3 hown hK hP 1 rfl rfl 1 (by decide) (ht0 _ wd_250) (fun _ h9 => h9) rfl dX10_init_31 ?_
  refine va_putF (ci := 10) (v := .ref u9.2.2.1) (ty := (.object "OddColumns$Chooser")) (C := RX10) (T := TX10) (N := 13) hx hb ht0 iX10 tyX10 tyX10_ok nmX10 hown hK hP hD hS 0 rfl rfl 2 (by decide) (ht0 _ wd_542) (fun _ h9 => h9) rfl hin rfl rfl rfl rfl (Nat.le_of_ble_eq_true rfl) dX10_init_34 (fun H locs hP hD hS => ?_)
  simp only [List.cons_append, List.nil_append, List.set_cons_zero, List.set_cons_succ] at hP hD
  obtain ⟨R1, hR1⟩ : ∃ R : va_W, R = wN_X3 G q5 u9 := ⟨_, rfl⟩
  rw [← hR1] at hP hD
  refine lv_aload_n hx hb dX10_init_37 rfl (lv_at hl 0 rfl) ?_
  refine va_new (ci := 8) (fs := [.null, .int 0, .int 0]) (C := RX8) (T := TX8) (N := 3) hx hb ht0 iX8 tyX8 tyX8_ok hown (ht0 _ wd_299) (ht0 _ wd_300) (ht0 _ wd_132) hK hP hD hS hA rfl (fun j hj => by rcases (show j = 0 ∨ j = 1 ∨ j = 2 by omega) with rfl | rfl | rfl <;> rfl) (Nat.le_of_ble_eq_true rfl) (Nat.le_of_ble_eq_true rfl) dX10_init_38 (fun q38 H hP hD hS => ?_)
  refine W.widen (k := 15) (n := 1992) (by decide) (by decide) ?_
  refine lv_dup hx hb dX10_init_41 rfl ?_
  refine cl_I (rest := [.ref q38, .ref h0]) ⟨hx, hb, hml, hown, ht0⟩ (c_X8_init l G q38 H.size) ykN_X8_init wd_301 ⟨rfl, rfl, Nat.le_of_ble_eq_true rfl, Nat.le_of_ble_eq_true rfl⟩ ⟨Nat.le_of_ble_eq_true rfl, Nat.le_of_ble_eq_true rfl⟩ hX hO hK hP hD hS hA hl.1 (Nat.le_of_ble_eq_true rfl) dX10_init_42 (fun u42 H locs hP hD hS => ?_)
  refine W.widen (k := 159) (n := 10182) (by decide) (by decide) ?_
  refine va_putF (ci := 10) (v := .ref q38) (ty := (.object "OddColumns$Timeline")) (C := RX10) (T := TX10) (N := 13) hx hb ht0 iX10 tyX10 tyX10_ok nmX10 hown hK hP hD hS 0 rfl rfl 3 (by decide) (ht0 _ wd_543) (fun _ h9 => h9) rfl hin rfl rfl rfl rfl (Nat.le_of_ble_eq_true rfl) dX10_init_45 (fun H locs hP hD hS => ?_)
  simp only [List.cons_append, List.nil_append, List.set_cons_zero, List.set_cons_succ] at hP hD
  obtain ⟨R2, hR2⟩ : ∃ R : va_W, R = R1 ++ wN_X8 G q38 u42 := ⟨_, rfl⟩
  rw [← hR2] at hP hD
  refine lv_aload_n hx hb dX10_init_48 rfl (lv_at hl 0 rfl) ?_
  refine lv_iconst (v := (2 : Int32)) hx hb dX10_init_49 (by decide) ?_
  refine nw_S (n := (2 : Int32)) (N := 2) (rest := [.ref h0]) hx hb hown (ht0 _ wd_362) hO hK hP hD hS hA (by decide) (by decide) (by decide) (Nat.le_of_ble_eq_true rfl) (Nat.le_of_ble_eq_true rfl) dX10_init_50 (fun q50 H hP hD hS => ?_)
  have hP := hP.perm pcs
  have hD := hD.perm pcs
  refine W.widen (k := 160) (n := 10184) (by decide) (by decide) ?_
  refine lv_dup hx hb dX10_init_53 rfl ?_
  refine lv_iconst (v := (0 : Int32)) hx hb dX10_init_54 (by decide) ?_
  refine va_new (ci := 6) (fs := [.null, .null]) (C := RX6) (T := TX6) (N := 2) hx hb ht0 iX6 tyX6 tyX6_ok hown (ht0 _ wd_362) (ht0 _ wd_307) (ht0 _ wd_133) hK hP hD hS hA rfl (fun j hj => by rcases (show j = 0 ∨ j = 1 by omega) with rfl | rfl <;> rfl) (Nat.le_of_ble_eq_true rfl) (Nat.le_of_ble_eq_true rfl) dX10_init_55 (fun q55 H hP hD hS => ?_)
  refine W.widen (k := 161) (n := 10186) (by decide) (by decide) ?_
  refine lv_dup hx hb dX10_init_58 rfl ?_
  refine cl_N (rest := [.ref q55, .int (0 : Int32), .ref q50, .ref q50, .ref h0]) ⟨hx, hb, hml, hown, ht0⟩ (c_X6_init l G q55 H.size) ykN_X6_init (List.mem_of_getElem? (i := 7) rfl) ⟨rfl, rfl, Nat.le_of_ble_eq_true rfl, Nat.le_of_ble_eq_true rfl⟩ ⟨Nat.le_of_ble_eq_true rfl, Nat.le_of_ble_eq_true rfl⟩ hX hO hK hP hD hS hA hl.1 (Nat.le_of_ble_eq_true rfl) dX10_init_59 (fun u59 H locs hP hD hS => ?_)
  refine W.widen (k := 171) (n := 10813) (by decide) (by decide) ?_
  refine va_astq (q0 := 1) (t0 := 3) (qk := _) (ci := 6) (r := (RX6, TX6, 2)) hx hb hK hP hD hS rfl rfl gAp rfl (show ¬ ixBad (0 : Int32) 2 by decide) dX10_init_62 (fun H locs hP hD hS => ?_)
  simp only [List.cons_append, List.nil_append, List.set_cons_zero, List.set_cons_succ] at hP hD
  obtain ⟨R3, hR3⟩ : ∃ R : va_W, R = R2 ++ wN_X6 G q55 u59 := ⟨_, rfl⟩
  rw [← hR3] at hP hD
  refine lv_dup hx hb dX10_init_63 rfl ?_
  refine lv_iconst (v := (1 : Int32)) hx hb dX10_init_64 (by decide) ?_
  refine va_new (ci := 6) (fs := [.null, .null]) (C := RX6) (T := TX6) (N := 2) hx hb ht0 iX6 tyX6 tyX6_ok hown (ht0 _ wd_362) (ht0 _ wd_307) (ht0 _ wd_133) hK hP hD hS hA rfl (fun j hj => by rcases (show j = 0 ∨ j = 1 by omega) with rfl | rfl <;> rfl) (Nat.le_of_ble_eq_true rfl) (Nat.le_of_ble_eq_true rfl) dX10_init_65 (fun q65 H hP hD hS => ?_)
  refine W.widen (k := 172) (n := 10815) (by decide) (by decide) ?_
  refine lv_dup hx hb dX10_init_68 rfl ?_
  refine cl_N (rest := [.ref q65, .int (1 : Int32), .ref q50, .ref q50, .ref h0]) ⟨hx, hb, hml, hown, ht0⟩ (c_X6_init l G q65 H.size) ykN_X6_init (List.mem_of_getElem? (i := 7) rfl) ⟨rfl, rfl, Nat.le_of_ble_eq_true rfl, Nat.le_of_ble_eq_true rfl⟩ ⟨Nat.le_of_ble_eq_true rfl, Nat.le_of_ble_eq_true rfl⟩ hX hO hK hP hD hS hA hl.1 (Nat.le_of_ble_eq_true rfl) dX10_init_69 (fun u69 H locs hP hD hS => ?_)
  refine W.widen (k := 182) (n := 11442) (by decide) (by decide) ?_
  refine va_astq (q0 := 1) (t0 := 3) (qk := _) (ci := 6) (r := (RX6, TX6, 2)) hx hb hK hP hD hS rfl rfl gAp rfl (show ¬ ixBad (1 : Int32) 2 by decide) dX10_init_72 (fun H locs hP hD hS => ?_)
  simp only [List.cons_append, List.nil_append, List.set_cons_zero, List.set_cons_succ] at hP hD
  obtain ⟨R4, hR4⟩ : ∃ R : va_W, R = R3 ++ wN_X6 G q65 u69 := ⟨_, rfl⟩
  rw [← hR4] at hP hD
  refine va_putF (ci := 10) (v := .ref q50) (ty := (.array (.object "OddColumns$State"))) (C := RX10) (T := TX10) (N := 13) hx hb ht0 iX10 tyX10 tyX10_ok nmX10 hown hK hP hD hS 0 rfl rfl 4 (by decide) (ht0 _ wd_544) (fun _ h9 => h9) rfl hin rfl rfl rfl rfl (Nat.le_of_ble_eq_true rfl) dX10_init_73 (fun H locs hP hD hS => ?_)
  simp only [List.cons_append, List.nil_append, List.set_cons_zero, List.set_cons_succ] at hP hD
  obtain ⟨R5, hR5⟩ : ∃ R : va_W, R = (q50, .inl (G.2.2.2.2.1, 2, .inr (.inr (.inr (.inr (va_up (va_up (fun _ => none) (Int32.toNatClampNeg 0) (some q55)) (Int32.toNatClampNeg 1) (some q65))))))) :: R4 := ⟨_, rfl⟩
  rw [← hR5] at hP hD
  refine lv_aload_n hx hb dX10_init_76 rfl (lv_at hl 0 rfl) ?_
  refine lv_iconst (v := (2 : Int32)) hx hb dX10_init_77 (by decide) ?_
  refine nw_Z (n := (2 : Int32)) (N := 2) (rest := [.ref h0]) hx hb (ht0 _ wd_202) hK hP hD hS hA (by decide) (by decide) (by decide) (Nat.le_of_ble_eq_true rfl) (Nat.le_of_ble_eq_true rfl) dX10_init_78 (fun q78 H hP hD hS => ?_)
  refine W.widen (k := 183) (n := 11444) (by decide) (by decide) ?_
  refine va_putF (ci := 10) (v := .ref q78) (ty := (.array .boolean)) (C := RX10) (T := TX10) (N := 13) hx hb ht0 iX10 tyX10 tyX10_ok nmX10 hown hK hP hD hS 0 rfl rfl 5 (by decide) (ht0 _ wd_545) (fun _ h9 => h9) rfl hin rfl rfl rfl rfl (Nat.le_of_ble_eq_true rfl) dX10_init_80 (fun H locs hP hD hS => ?_)
  simp only [List.cons_append, List.nil_append, List.set_cons_zero, List.set_cons_succ] at hP hD
  obtain ⟨R6, hR6⟩ : ∃ R : va_W, R = R5 ++ [(q78, .inl (G.2.2.1, 2, .inl (fun _ => 0)))] := ⟨_, rfl⟩
  rw [← hR6] at hP hD
  refine lv_aload_n hx hb dX10_init_83 rfl (lv_at hl 0 rfl) ?_
  refine va_new (ci := 2) (fs := [.int 0, .int 0, .int 0]) (C := RX2) (T := TX2) (N := 3) hx hb ht0 iX2 tyX2 tyX2_ok hown (ht0 _ wd_364) (ht0 _ wd_365) (ht0 _ wd_135) hK hP hD hS hA rfl (fun j hj => by rcases (show j = 0 ∨ j = 1 ∨ j = 2 by omega) with rfl | rfl | rfl <;> rfl) (Nat.le_of_ble_eq_true rfl) (Nat.le_of_ble_eq_true rfl) dX10_init_84 (fun q84 H hP hD hS => ?_)
  refine W.widen (k := 184) (n := 11447) (by decide) (by decide) ?_
  refine lv_dup hx hb dX10_init_87 rfl ?_
  refine cl_N (rest := [.ref q84, .ref h0]) ⟨hx, hb, hml, hown, ht0⟩ (c_X2_init l G q84 H.size) ykN_X2_init (List.mem_of_getElem? (i := 8) rfl) ⟨rfl, rfl, Nat.le_of_ble_eq_true rfl, Nat.le_of_ble_eq_true rfl⟩ ⟨Nat.le_of_ble_eq_true rfl, Nat.le_of_ble_eq_true rfl⟩ hX hO hK hP hD hS hA hl.1 (Nat.le_of_ble_eq_true rfl) dX10_init_88 (fun u88 H locs hP hD hS => ?_)
  refine W.widen (k := 184) (n := 11447) (by decide) (by decide) ?_
  refine va_putF (ci := 10) (v := .ref q84) (ty := (.object "OddColumns$Reading")) (C := RX10) (T := TX10) (N := 13) hx hb ht0 iX10 tyX10 tyX10_ok nmX10 hown hK hP hD hS 0 rfl rfl 6 (by decide) (ht0 _ wd_546) (fun _ h9 => h9) rfl hin rfl rfl rfl rfl (Nat.le_of_ble_eq_true rfl) dX10_init_91 (fun H locs hP hD hS => ?_)
  simp only [List.cons_append, List.nil_append, List.set_cons_zero, List.set_cons_succ] at hP hD
  obtain ⟨R7, hR7⟩ : ∃ R : va_W, R = R6 ++ wN_X2 G q84 u88 := ⟨_, rfl⟩
  rw [← hR7] at hP hD
  refine lv_aload_n hx hb dX10_init_94 rfl (lv_at hl 0 rfl) ?_
  refine va_new (ci := 4) (fs := [.null, .null, .null, .null, .int 0, .int 0, .int 0]) (C := RX4) (T := TX4) (N := 7) hx hb ht0 iX4 tyX4 tyX4_ok hown (ht0 _ wd_385) (ht0 _ wd_386) (ht0 _ wd_136) hK hP hD hS hA rfl (fun j hj => by rcases (show j = 0 ∨ j = 1 ∨ j = 2 ∨ j = 3 ∨ j = 4 ∨ j = 5 ∨ j = 6 by omega) with rfl | rfl | rfl | rfl | rfl | rfl | rfl <;> rfl) (Nat.le_of_ble_eq_true rfl) (Nat.le_of_ble_eq_true rfl) dX10_init_95 (fun q95 H hP hD hS => ?_)
  refine W.widen (k := 185) (n := 11454) (by decide) (by decide) ?_
  refine lv_dup hx hb dX10_init_98 rfl ?_
  refine cl_N (rest := [.ref q95, .ref h0]) ⟨hx, hb, hml, hown, ht0⟩ (c_X4_init l G q95 H.size) ykN_X4_init (List.mem_of_getElem? (i := 9) rfl) ⟨rfl, rfl, Nat.le_of_ble_eq_true rfl, Nat.le_of_ble_eq_true rfl⟩ ⟨Nat.le_of_ble_eq_true rfl, Nat.le_of_ble_eq_true rfl⟩ hX hO hK hP hD hS hA hl.1 (Nat.le_of_ble_eq_true rfl) dX10_init_99 (fun u99 H locs hP hD hS => ?_)
  refine W.widen (k := 192) (n := 12519) (by decide) (by decide) ?_
  refine va_putF (ci := 10) (v := .ref q95) (ty := (.object "OddColumns$Searcher")) (C := RX10) (T := TX10) (N := 13) hx hb ht0 iX10 tyX10 tyX10_ok nmX10 hown hK hP hD hS 0 rfl rfl 7 (by decide) (ht0 _ wd_547) (fun _ h9 => h9) rfl hin rfl rfl rfl rfl (Nat.le_of_ble_eq_true rfl) dX10_init_102 (fun H locs hP hD hS => ?_)
  simp only [List.cons_append, List.nil_append, List.set_cons_zero, List.set_cons_succ] at hP hD
  obtain ⟨R8, hR8⟩ : ∃ R : va_W, R = R7 ++ wN_X4 G q95 u99 := ⟨_, rfl⟩
  rw [← hR8] at hP hD
  refine lv_aload_n hx hb dX10_init_105 rfl (lv_at hl 0 rfl) ?_
  refine va_new (ci := 5) (fs := [.null, .null, .null, .null, .null, .null, .int 0, .int 0, .int 0]) (C := RX5) (T := TX5) (N := 9) hx hb ht0 iX5 tyX5 tyX5_ok hown (ht0 _ wd_420) (ht0 _ wd_421) (ht0 _ wd_137) hK hP hD hS hA rfl (fun j hj => by rcases (show j = 0 ∨ j = 1 ∨ j = 2 ∨ j = 3 ∨ j = 4 ∨ j = 5 ∨ j = 6 ∨ j = 7 ∨ j = 8 by omega) with rfl | rfl | rfl | rfl | rfl | rfl | rfl | rfl | rfl <;> rfl) (Nat.le_of_ble_eq_true rfl) (Nat.le_of_ble_eq_true rfl) dX10_init_106 (fun q106 H hP hD hS => ?_)
  refine W.widen (k := 193) (n := 12528) (by decide) (by decide) ?_
  refine lv_dup hx hb dX10_init_109 rfl ?_
  refine cl_N (rest := [.ref q106, .ref h0]) ⟨hx, hb, hml, hown, ht0⟩ (c_X5_init l G q106 H.size) ykN_X5_init (List.mem_of_getElem? (i := 12) rfl) ⟨rfl, rfl, Nat.le_of_ble_eq_true rfl, Nat.le_of_ble_eq_true rfl⟩ ⟨Nat.le_of_ble_eq_true rfl, Nat.le_of_ble_eq_true rfl⟩ hX hO hK hP hD hS hA hl.1 (Nat.le_of_ble_eq_true rfl) dX10_init_110 (fun u110 H locs hP hD hS => ?_)
  refine W.widen (k := 199) (n := 13296) (by decide) (by decide) ?_
  refine va_putF (ci := 10) (v := .ref q106) (ty := (.object "OddColumns$Sharing")) (C := RX10) (T := TX10) (N := 13) hx hb ht0 iX10 tyX10 tyX10_ok nmX10 hown hK hP hD hS 0 rfl rfl 8 (by decide) (ht0 _ wd_548) (fun _ h9 => h9) rfl hin rfl rfl rfl rfl (Nat.le_of_ble_eq_true rfl) dX10_init_113 (fun H locs hP hD hS => ?_)
  simp only [List.cons_append, List.nil_append, List.set_cons_zero, List.set_cons_succ] at hP hD
  obtain ⟨R9, hR9⟩ : ∃ R : va_W, R = R8 ++ wN_X5 G q106 u110 := ⟨_, rfl⟩
  rw [← hR9] at hP hD
  refine lv_aload_n hx hb dX10_init_116 rfl (lv_at hl 0 rfl) ?_
  refine va_new (ci := 1) (fs := [.int 0, .int 0, .int 0, .null, .null, .null]) (C := RX1) (T := TX1) (N := 6) hx hb ht0 iX1 tyX1 tyX1_ok hown (ht0 _ wd_454) (ht0 _ wd_204) (ht0 _ wd_131) hK hP hD hS hA rfl (fun j hj => by rcases (show j = 0 ∨ j = 1 ∨ j = 2 ∨ j = 3 ∨ j = 4 ∨ j = 5 by omega) with rfl | rfl | rfl | rfl | rfl | rfl <;> rfl) (Nat.le_of_ble_eq_true rfl) (Nat.le_of_ble_eq_true rfl) dX10_init_117 (fun q117 H hP hD hS => ?_)
  refine W.widen (k := 200) (n := 13302) (by decide) (by decide) ?_
  refine lv_dup hx hb dX10_init_120 rfl ?_
  refine cl_N (rest := [.ref q117, .ref h0]) ⟨hx, hb, hml, hown, ht0⟩ (c_X1_init l G q117 H.size) ykN_X1_init (List.mem_of_getElem? (i := 13) rfl) ⟨rfl, rfl, Nat.le_of_ble_eq_true rfl, Nat.le_of_ble_eq_true rfl⟩ ⟨Nat.le_of_ble_eq_true rfl, Nat.le_of_ble_eq_true rfl⟩ hX hO hK hP hD hS hA hl.1 (Nat.le_of_ble_eq_true rfl) dX10_init_121 (fun u121 H locs hP hD hS => ?_)
  refine W.widen (k := 203) (n := 13846) (by decide) (by decide) ?_
  refine va_putF (ci := 10) (v := .ref q117) (ty := (.object "OddColumns$Code")) (C := RX10) (T := TX10) (N := 13) hx hb ht0 iX10 tyX10 tyX10_ok nmX10 hown hK hP hD hS 0 rfl rfl 9 (by decide) (ht0 _ wd_549) (fun _ h9 => h9) rfl hin rfl rfl rfl rfl (Nat.le_of_ble_eq_true rfl) dX10_init_124 (fun H locs hP hD hS => ?_)
  simp only [List.cons_append, List.nil_append, List.set_cons_zero, List.set_cons_succ] at hP hD
  obtain ⟨R10, hR10⟩ : ∃ R : va_W, R = R9 ++ wN_X1 G q117 u121 := ⟨_, rfl⟩
  rw [← hR10] at hP hD
  refine lv_aload_n hx hb dX10_init_127 rfl (lv_at hl 0 rfl) ?_
  refine va_new (ci := 9) (fs := [.null, .null, .null, .null, .null]) (C := RX9) (T := TX9) (N := 5) hx hb ht0 iX9 tyX9 tyX9_ok hown (ht0 _ wd_456) (ht0 _ wd_315) (ht0 _ wd_134) hK hP hD hS hA rfl (fun j hj => by rcases (show j = 0 ∨ j = 1 ∨ j = 2 ∨ j = 3 ∨ j = 4 by omega) with rfl | rfl | rfl | rfl | rfl <;> rfl) (Nat.le_of_ble_eq_true rfl) (Nat.le_of_ble_eq_true rfl) dX10_init_128 (fun q128 H hP hD hS => ?_)
  refine W.widen (k := 204) (n := 13851) (by decide) (by decide) ?_
  refine lv_dup hx hb dX10_init_131 rfl ?_
  refine cl_N (rest := [.ref q128, .ref h0]) ⟨hx, hb, hml, hown, ht0⟩ (c_X9_init l G q128 H.size) ykN_X9_init (List.mem_of_getElem? (i := 14) rfl) ⟨rfl, rfl, Nat.le_of_ble_eq_true rfl, Nat.le_of_ble_eq_true rfl⟩ ⟨Nat.le_of_ble_eq_true rfl, Nat.le_of_ble_eq_true rfl⟩ hX hO hK hP hD hS hA hl.1 (Nat.le_of_ble_eq_true rfl) dX10_init_132 (fun u132 H locs hP hD hS => ?_)
  refine W.widen (k := 209) (n := 13923) (by decide) (by decide) ?_
  refine va_putF (ci := 10) (v := .ref q128) (ty := (.object "OddColumns$Words")) (C := RX10) (T := TX10) (N := 13) hx hb ht0 iX10 tyX10 tyX10_ok nmX10 hown hK hP hD hS 0 rfl rfl 10 (by decide) (ht0 _ wd_550) (fun _ h9 => h9) rfl hin rfl rfl rfl rfl (Nat.le_of_ble_eq_true rfl) dX10_init_135 (fun H locs hP hD hS => ?_)
  simp only [List.cons_append, List.nil_append, List.set_cons_zero, List.set_cons_succ] at hP hD
  obtain ⟨R11, hR11⟩ : ∃ R : va_W, R = R10 ++ wN_X9 G q128 u132 := ⟨_, rfl⟩
  rw [← hR11] at hP hD
  refine lv_aload_n hx hb dX10_init_138 rfl (lv_at hl 0 rfl) ?_
  refine lv_iconst (v := (0 : Int32)) hx hb dX10_init_139 (by decide) ?_
  refine va_put (ci := 10) (v := .int (0 : Int32)) (ty := .int) (C := RX10) (T := TX10) (N := 13) hx hb ht0 iX10 tyX10 tyX10_ok nmX10 hown hK hP hD hS 0 rfl rfl 11 (by decide) (ht0 _ wd_551) (fun _ h9 => h9) rfl rfl rfl rfl (Nat.le_of_ble_eq_true rfl) dX10_init_140 (fun H locs hP hD hS => ?_)
  simp only [List.cons_append, List.nil_append, List.set_cons_zero, List.set_cons_succ] at hP hD
  refine lv_aload_n hx hb dX10_init_143 rfl (lv_at hl 0 rfl) ?_
  refine lv_iconst (v := (-1 : Int32)) hx hb dX10_init_144 (by decide) ?_
  refine va_put (ci := 10) (v := .int (-1 : Int32)) (ty := .int) (C := RX10) (T := TX10) (N := 13) hx hb ht0 iX10 tyX10 tyX10_ok nmX10 hown hK hP hD hS 0 rfl rfl 12 (by decide) (ht0 _ wd_552) (fun _ h9 => h9) rfl rfl rfl rfl (Nat.le_of_ble_eq_true rfl) dX10_init_145 (fun H locs hP hD hS => ?_)
  simp only [List.cons_append, List.nil_append, List.set_cons_zero, List.set_cons_succ] at hP hD
  obtain ⟨tl, etl⟩ : ∃ tl : Nat → tS, tl = tlU (tlU u42.2 13 (q55, u59)) 14 (q65, u69) := ⟨_, rfl⟩
  have eB : ((poolN G u42.2 13 ++ wN_X6 G q55 u59) ++ wN_X6 G q65 u69 : va_W) = poolS G tl (fun _ => v0) sk0 15 := by rw [etl, ← poolN_S, poolN_push, poolN_push]
  have eS : stF u42.2 13 = stF tl 13 := by
    rw [etl]; funext j; unfold stF
    by_cases h : j < 13
    · rw [if_pos h, if_pos h]; unfold tlU; rw [if_neg (by omega), if_neg (by omega)]
    · rw [if_neg h, if_neg h]
  have eX : ((va_up (va_up (fun _ => none) 0 (some q55)) 1 (some q65)) : Nat → Option Nat) = bxF tl := by
    rw [etl]; funext j; unfold bxF va_up tlU
    by_cases h1 : j = 1
    · subst h1; rfl
    · rw [if_neg h1]
      by_cases h0 : j = 0
      · subst h0; rfl
      · rw [if_neg h0, if_neg h0, if_neg h1]
  obtain ⟨ca, hca⟩ : ∃ ca : Nat → Nat, ca = (gN [h0, q5, u9.1, u9.2.1, u9.2.2.1, u9.2.2.2.1.1, u9.2.2.2.1.2.1, u9.2.2.2.1.2.2.1, u9.2.2.2.1.2.2.2.1, u9.2.2.2.1.2.2.2.2, u9.2.2.2.2.1, u9.2.2.2.2.2.1.1, u9.2.2.2.2.2.1.2.1, u9.2.2.2.2.2.1.2.2, u9.2.2.2.2.2.2, q38, u42.1, q50, q78, q84, q95, u99.1, u99.2.1, u99.2.2.1, u99.2.2.2.1.1, u99.2.2.2.1.2.1, u99.2.2.2.1.2.2, u99.2.2.2.2.1, q106, u110.1, u110.2.1, u110.2.2.1, u110.2.2.2.1, u110.2.2.2.2.1, u110.2.2.2.2.2, q117, u121.1, u121.2.1, u121.2.2, q128, u132.1, u132.2.1, u132.2.2.1, u132.2.2.2.1, u132.2.2.2.2]) := ⟨_, rfl⟩
  have eT : ((h0, .inr (10, [.ref u9.1, .ref q5, .ref u9.2.2.1, .ref q38, .ref q50, .ref q78, .ref q84, .ref q95, .ref q106, .ref q117, .ref q128, .int 0, .int (-1)])) :: (wN_X3 G q5 u9 ++ ([(q38, .inr (8, [.ref u42.1, .int 0, .int 0])), (u42.1, .inl (G.2.2.2.2.1, 13, .inr (.inr (.inr (.inr (stF u42.2 13))))))] ++ ((q50, .inl (G.2.2.2.2.1, 2, .inr (.inr (.inr (.inr (va_up (va_up (fun _ => none) 0 (some q55)) 1 (some q65))))))) :: ([(q78, .inl (G.2.2.1, 2, .inl (fun _ => 0)))] ++ (wN_X2 G q84 u88 ++ (wN_X4 G q95 u99 ++ (wN_X5 G q106 u110 ++ (wN_X1 G q117 u121 ++ wN_X9 G q128 u132)))))))) : va_W) = wC G ca (ci0 0) (cf0 zA zA zA zA zA zA zA zA) (stF tl 13) (bxF tl) := by rw [← eS, ← eX, hca]; rfl
  have hbig := pBig (c := ((h0, .inr (10, [.ref u9.1, .ref q5, .ref u9.2.2.1, .ref q38, .ref q50, .ref q78, .ref q84, .ref q95, .ref q106, .ref q117, .ref q128, .int 0, .int (-1)])) : Nat × va_E)) (x3 := wN_X3 G q5 u9) (h8 := [(q38, .inr (8, [.ref u42.1, .int 0, .int 0])), (u42.1, .inl (G.2.2.2.2.1, 13, .inr (.inr (.inr (.inr (stF u42.2 13))))))]) (P := poolN G u42.2 13) (s1 := wN_X6 G q55 u59) (s2 := wN_X6 G q65 u69) (arr := (q50, .inl (G.2.2.2.2.1, 2, .inr (.inr (.inr (.inr (va_up (va_up (fun _ => none) 0 (some q55)) 1 (some q65)))))))) (z := [(q78, .inl (G.2.2.1, 2, .inl (fun _ => 0)))]) (x2 := wN_X2 G q84 u88) (x4 := wN_X4 G q95 u99) (x5 := wN_X5 G q106 u110) (x1 := wN_X1 G q117 u121) (x9 := wN_X9 G q128 u132)
  rw [eT, eB] at hbig
  rw [hR11, hR10, hR9, hR8, hR7, hR6, hR5, hR4, hR3, hR2, hR1] at hP hD
  have hP := hP.perm hbig
  have hD := hD.perm hbig
  have hl : lv_has ls 1 [(0, .ref (ca 0))] := by rw [hca]; exact hl
  refine lv_aload_n hx hb dX10_init_148 rfl (lv_at hl 0 rfl) ?_
  refine va_get (ci := 10) (v := .ref (ca 4)) (C := RX10) (T := TX10) (N := 13) hx hb ht0 iX10 hown hK hP 0 rfl rfl 2 (by decide) (ht0 _ wd_542) (fun _ h9 => h9) rfl dX10_init_149 ?_
  refine lv_aload_n hx hb dX10_init_152 rfl (lv_at hl 0 rfl) ?_
  refine va_get (ci := 10) (v := .ref (ca 35)) (C := RX10) (T := TX10) (N := 13) hx hb ht0 iX10 hown hK hP 0 rfl rfl 9 (by decide) (ht0 _ wd_549) (fun _ h9 => h9) rfl dX10_init_153 ?_
  refine lv_iconst (v := 0) hx hb dX10_init_156 (by decide) ?_
  refine cl_ZVi (Sx := []) (w2 := (wC G ca (ci0 e_x0_1) (cf0 e_a1 e_a2 e_a3 e_a4 e_a5 e_a7 e_a8 e_a9) (stF tl 13) (bxF tl))) (As := [.ref (ca 35), .int 0]) (rest := []) ⟨hx, hb, hml, hown, ht0⟩ (c_X0_chooseColumns l (gWith G []) (ca 4) (ca 5) (ca 6) (ca 7) (ca 8) (ca 9) (ca 35) (ca 36) (ca 37) (ca 38) _ 0 zA zA zA zA zA 8 5 0 zA zA zA F 0 _ _ _ _ _ _ _ _ _ _ hf) yk_X0_chooseColumns wd_458 ⟨rfl, rfl, by decide, by decide⟩ ⟨Nat.le_refl _, Nat.le_refl _⟩ hX.1 hX.2.1 hK hP hD hS hA [4, 5, 6, 7, 8, 9, 35, 36, 37, 38] [0, 1, 2, 3, 10, 11, 12, 13, 14, 15, 16, 17, 18, 19, 20, 21, 22, 23, 24, 25, 26, 27, 28, 29, 30, 31, 32, 33, 34, 39, 40, 41, 42, 43, 44] [0, 1, 2, 3, 35, 36, 37, 38, 39, 40, 4, 5, 6, 7, 8, 9, 10, 11, 12, 13, 14, 15, 16, 17, 18, 19, 20, 21, 22, 23, 24, 25, 26, 27, 28, 41, 42, 43, 44, 29, 30, 31, 32, 33, 34] (va_recv hK hP (ci := 0) (q0 := 4) rfl rfl) (fun q hq => by cases hq) rfl rfl (by decide) rfl rfl rfl rfl rfl hl.1 rfl (Nat.le_of_ble_eq_true rfl) dX10_init_157 (fun H locs hP hD hS => ?_)
  refine lv_pop hx hb dX10_init_160 rfl ?_
  refine lv_aload_n hx hb dX10_init_161 rfl (lv_at hl 0 rfl) ?_
  refine va_get (ci := 10) (v := .ref (ca 15)) (C := RX10) (T := TX10) (N := 13) hx hb ht0 iX10 hown hK hP 0 rfl rfl 3 (by decide) (ht0 _ wd_543) (fun _ h9 => h9) rfl dX10_init_162 ?_
  have hpm := List.Perm.refl ((wC G ca (ci0 e_x0_1) (cf0 e_a1 e_a2 e_a3 e_a4 e_a5 e_a7 e_a8 e_a9) (stF tl 13) (bxF tl)) ++ poolS G tl (fun _ => v0) sk0 15)
  refine cl_ZVr (Sx := allS tl) (w2 := (wC G ca (ci0 e_x0_1) (cf0 e_a1 e_a2 e_a3 e_a4 e_a5 e_a7 e_a8 e_a9) (stF tl 13) (bxF tl))) (As := []) (rest := []) ⟨hx, hb, hml, hown, ht0⟩ (c_X8_now l (gWith G (allS tl)) (ca 15) (ca 16) (tl 0).1 (tl 0).2.1 (tl 0).2.2.2.1 _ 0 0 (stF tl 13) F (List.mem_map.mpr ⟨0, List.mem_range.mpr (by decide), rfl⟩) (now_eq (a := 0) (by decide) rfl)) yk_X8_now wd_531 ⟨rfl, rfl, by decide, by decide⟩ ⟨Nat.le_refl _, Nat.le_refl _⟩ hX.1 hX.2.1 hK hP hD hS hA [15, 16] [0, 1, 2, 3, 4, 5, 6, 7, 8, 9, 10, 11, 12, 13, 14, 17, 18, 19, 20, 21, 22, 23, 24, 25, 26, 27, 28, 29, 30, 31, 32, 33, 34, 35, 36, 37, 38, 39, 40, 41, 42, 43, 44] [0, 1, 2, 3, 4, 5, 6, 7, 8, 9, 10, 11, 12, 13, 14, 43, 44, 15, 16, 17, 18, 19, 20, 21, 22, 23, 24, 25, 26, 27, 28, 29, 30, 31, 32, 33, 34, 35, 36, 37, 38, 39, 40, 41, 42] (va_recv hK hP (ci := 8) (q0 := 15) rfl rfl) (allS_ok hpm hP hD (fun x hx => List.mem_append_left _ (wC_sub [15, 16] rfl x hx)) rfl) rfl rfl (by decide) rfl rfl rfl rfl rfl hl.1 rfl (Nat.le_of_ble_eq_true rfl) dX10_init_165 (fun H locs hP hD hS => ?_)
  have hpt : ((wC G ca (ci0 e_x0_1) (cf0 e_a1 e_a2 e_a3 e_a4 e_a5 e_a7 e_a8 e_a9) (stF tl 13) (bxF tl)) ++ poolS G tl (fun _ => v0) sk0 15).Perm (((wC G ca (ci0 e_x0_1) (cf0 e_a1 e_a2 e_a3 e_a4 e_a5 e_a7 e_a8 e_a9) (stF tl 13) (bxF tl)) ++ clu G (tl 0) v0) ++ poolS G tl (fun _ => v0) (skA sk0 0) 15) := by rw [List.append_assoc]; exact (poolS_take rfl (by decide)).append_left _
  have hP := hP.perm hpt
  have hD := hD.perm hpt
  refine va_get (ci := 6) (v := .ref (tl 0).2.1) (C := RX6) (T := TX6) (N := 2) hx hb ht0 iX6 hown hK hP 45 rfl rfl 0 (by decide) (ht0 _ wd_342) (fun _ h9 => h9) rfl dX10_init_168 ?_
  refine lv_aload_n hx hb dX10_init_171 rfl (lv_at hl 0 rfl) ?_
  refine va_get (ci := 10) (v := .ref (ca 35)) (C := RX10) (T := TX10) (N := 13) hx hb ht0 iX10 hown hK hP 0 rfl rfl 9 (by decide) (ht0 _ wd_549) (fun _ h9 => h9) rfl dX10_init_172 ?_
  have hcp : p_X1_copyFrom F 8 5 0 zA zA zA 8 5 0 e_a7 e_a8 e_a9 = some (8, 5, 0, va_cpy e_a7 zA 0 0 32, va_cpy e_a8 zA 0 0 256, va_cpy e_a9 zA 0 0 256) := rfl
  refine cl_ZVv (Sx := []) (w2 := ((wC G ca (ci0 e_x0_1) (cf0 e_a1 e_a2 e_a3 e_a4 e_a5 e_a7 e_a8 e_a9) (stF tl 13) (bxF tl)) ++ clu G (tl 0) (nv0 e_a7 e_a8 e_a9))) (As := [.ref (ca 35)]) (rest := []) ⟨hx, hb, hml, hown, ht0⟩ (c_X1_copyFrom l (gWith G []) ((tl 0).2.1) ((tl 0).2.2.1.1) ((tl 0).2.2.1.2.1) ((tl 0).2.2.1.2.2) (ca 35) (ca 36) (ca 37) (ca 38) _ 8 5 0 zA zA zA 8 5 0 e_a7 e_a8 e_a9 F _ _ _ _ _ _ hcp) yk_X1_copyFrom wd_535 ⟨rfl, rfl, by decide, by decide⟩ ⟨Nat.le_refl _, Nat.le_refl _⟩ hX.1 hX.2.1 hK hP hD hS hA [46, 47, 48, 49, 35, 36, 37, 38] [0, 1, 2, 3, 4, 5, 6, 7, 8, 9, 10, 11, 12, 13, 14, 15, 16, 17, 18, 19, 20, 21, 22, 23, 24, 25, 26, 27, 28, 29, 30, 31, 32, 33, 34, 39, 40, 41, 42, 43, 44, 45, 50, 51, 52, 53, 54, 55] [0, 1, 2, 3, 4, 5, 6, 7, 8, 9, 10, 11, 12, 13, 14, 15, 16, 17, 18, 19, 20, 21, 22, 23, 24, 25, 26, 27, 28, 29, 30, 31, 32, 33, 34, 52, 53, 54, 55, 35, 36, 37, 38, 39, 40, 41, 48, 49, 50, 51, 42, 43, 44, 45, 46, 47] (va_recv hK hP (ci := 1) (q0 := 46) rfl rfl) (fun q hq => by cases hq) rfl rfl (by decide) rfl rfl rfl rfl rfl hl.1 rfl (Nat.le_of_ble_eq_true rfl) dX10_init_175 (fun H locs hP hD hS => ?_)
  have hbk : (((wC G ca (ci0 e_x0_1) (cf0 e_a1 e_a2 e_a3 e_a4 e_a5 e_a7 e_a8 e_a9) (stF tl 13) (bxF tl)) ++ clu G (tl 0) (nv0 e_a7 e_a8 e_a9)) ++ poolS G tl (fun _ => v0) (skA sk0 0) 15).Perm ((wC G ca (ci0 e_x0_1) (cf0 e_a1 e_a2 e_a3 e_a4 e_a5 e_a7 e_a8 e_a9) (stF tl 13) (bxF tl)) ++ poolS G tl (svU (fun _ => v0) 0 (nv0 e_a7 e_a8 e_a9)) sk0 15) := by
    have h := pool1_back (G := G) (tl := tl) (sv := fun _ => v0) (k := 0) (by decide) (nv0 e_a7 e_a8 e_a9) (wC G ca (ci0 e_x0_1) (cf0 e_a1 e_a2 e_a3 e_a4 e_a5 e_a7 e_a8 e_a9) (stF tl 13) (bxF tl)) []
    rw [List.append_nil] at h
    exact h
  have eca : caH h0 ca = ca := by
    funext j
    cases j with
    | zero => rw [hca]; rfl
    | succ j => rfl
  have hP := hP.perm hbk
  have hD := hD.perm hbk
  rw [← eca] at hP hD
  exact ret_vN (w1 := wN_X10 G h0 (ci0 e_x0_1) (cf0 e_a1 e_a2 e_a3 e_a4 e_a5 e_a7 e_a8 e_a9) (nv0 e_a7 e_a8 e_a9)) ((ca, tl) : (Nat → Nat) × (Nat → tS)) hx hb hr hlk hK hP hD hS dX10_init_178
