theorem dX9_copyFrom_0 : decode cX9_copyFrom 0 = .ok (.aload_n 1, 1) := by decide +kernel
theorem dX9_copyFrom_1 : decode cX9_copyFrom 1 = .ok (.getfield 9, 3) := by decide +kernel
theorem dX9_copyFrom_4 : decode cX9_copyFrom 4 = .ok (.iconst 0, 1) := by decide +kernel
theorem dX9_copyFrom_5 : decode cX9_copyFrom 5 = .ok (.aload_n 0, 1) := by decide +kernel
theorem dX9_copyFrom_6 : decode cX9_copyFrom 6 = .ok (.getfield 9, 3) := by decide +kernel
theorem dX9_copyFrom_9 : decode cX9_copyFrom 9 = .ok (.iconst 0, 1) := by decide +kernel
theorem dX9_copyFrom_10 : decode cX9_copyFrom 10 = .ok (.bipush 16, 2) := by decide +kernel
theorem dX9_copyFrom_12 : decode cX9_copyFrom 12 = .ok (.invokestatic 27, 3) := by decide +kernel
theorem dX9_copyFrom_15 : decode cX9_copyFrom 15 = .ok (.aload_n 1, 1) := by decide +kernel
theorem dX9_copyFrom_16 : decode cX9_copyFrom 16 = .ok (.getfield 15, 3) := by decide +kernel
theorem dX9_copyFrom_19 : decode cX9_copyFrom 19 = .ok (.iconst 0, 1) := by decide +kernel
theorem dX9_copyFrom_20 : decode cX9_copyFrom 20 = .ok (.aload_n 0, 1) := by decide +kernel
theorem dX9_copyFrom_21 : decode cX9_copyFrom 21 = .ok (.getfield 15, 3) := by decide +kernel
theorem dX9_copyFrom_24 : decode cX9_copyFrom 24 = .ok (.iconst 0, 1) := by decide +kernel
theorem dX9_copyFrom_25 : decode cX9_copyFrom 25 = .ok (.bipush 16, 2) := by decide +kernel
theorem dX9_copyFrom_27 : decode cX9_copyFrom 27 = .ok (.invokestatic 27, 3) := by decide +kernel
theorem dX9_copyFrom_30 : decode cX9_copyFrom 30 = .ok (.aload_n 1, 1) := by decide +kernel
theorem dX9_copyFrom_31 : decode cX9_copyFrom 31 = .ok (.getfield 18, 3) := by decide +kernel
theorem dX9_copyFrom_34 : decode cX9_copyFrom 34 = .ok (.iconst 0, 1) := by decide +kernel
theorem dX9_copyFrom_35 : decode cX9_copyFrom 35 = .ok (.aload_n 0, 1) := by decide +kernel
theorem dX9_copyFrom_36 : decode cX9_copyFrom 36 = .ok (.getfield 18, 3) := by decide +kernel
theorem dX9_copyFrom_39 : decode cX9_copyFrom 39 = .ok (.iconst 0, 1) := by decide +kernel
theorem dX9_copyFrom_40 : decode cX9_copyFrom 40 = .ok (.bipush 16, 2) := by decide +kernel
theorem dX9_copyFrom_42 : decode cX9_copyFrom 42 = .ok (.invokestatic 27, 3) := by decide +kernel
theorem dX9_copyFrom_45 : decode cX9_copyFrom 45 = .ok (.aload_n 1, 1) := by decide +kernel
theorem dX9_copyFrom_46 : decode cX9_copyFrom 46 = .ok (.getfield 21, 3) := by decide +kernel
theorem dX9_copyFrom_49 : decode cX9_copyFrom 49 = .ok (.iconst 0, 1) := by decide +kernel
theorem dX9_copyFrom_50 : decode cX9_copyFrom 50 = .ok (.aload_n 0, 1) := by decide +kernel
theorem dX9_copyFrom_51 : decode cX9_copyFrom 51 = .ok (.getfield 21, 3) := by decide +kernel
theorem dX9_copyFrom_54 : decode cX9_copyFrom 54 = .ok (.iconst 0, 1) := by decide +kernel
theorem dX9_copyFrom_55 : decode cX9_copyFrom 55 = .ok (.bipush 16, 2) := by decide +kernel
theorem dX9_copyFrom_57 : decode cX9_copyFrom 57 = .ok (.invokestatic 27, 3) := by decide +kernel
theorem dX9_copyFrom_60 : decode cX9_copyFrom 60 = .ok (.aload_n 1, 1) := by decide +kernel
theorem dX9_copyFrom_61 : decode cX9_copyFrom 61 = .ok (.getfield 24, 3) := by decide +kernel
theorem dX9_copyFrom_64 : decode cX9_copyFrom 64 = .ok (.iconst 0, 1) := by decide +kernel
theorem dX9_copyFrom_65 : decode cX9_copyFrom 65 = .ok (.aload_n 0, 1) := by decide +kernel
theorem dX9_copyFrom_66 : decode cX9_copyFrom 66 = .ok (.getfield 24, 3) := by decide +kernel
theorem dX9_copyFrom_69 : decode cX9_copyFrom 69 = .ok (.iconst 0, 1) := by decide +kernel
theorem dX9_copyFrom_70 : decode cX9_copyFrom 70 = .ok (.bipush 8, 2) := by decide +kernel
theorem dX9_copyFrom_72 : decode cX9_copyFrom 72 = .ok (.invokestatic 27, 3) := by decide +kernel
theorem dX9_copyFrom_75 : decode cX9_copyFrom 75 = .ok (.return_, 1) := by decide +kernel
def wW_X9_copyFrom (G : GG) (h0 h1 h2 h3 h4 h5 h6 h7 h8 h9 h10 h11 : Nat) (a1 : Nat → Int32) (a2 : Nat → Int32) (a3 : Nat → Int32) (a4 : Nat → Int32) (a5 : Nat → Int32) (a7 : Nat → Int32) (a8 : Nat → Int32) (a9 : Nat → Int32) (a10 : Nat → Int32) (a11 : Nat → Int32) : va_W := [(h0, .inr (9, [.ref h1, .ref h2, .ref h3, .ref h4, .ref h5])), (h1, .inl (G.2.1, 16, .inl a1)), (h2, .inl (G.2.1, 16, .inl a2)), (h3, .inl (G.2.1, 16, .inl a3)), (h4, .inl (G.2.1, 16, .inl a4)), (h5, .inl (G.2.1, 8, .inl a5)), (h6, .inr (9, [.ref h7, .ref h8, .ref h9, .ref h10, .ref h11])), (h7, .inl (G.2.1, 16, .inl a7)), (h8, .inl (G.2.1, 16, .inl a8)), (h9, .inl (G.2.1, 16, .inl a9)), (h10, .inl (G.2.1, 16, .inl a10)), (h11, .inl (G.2.1, 8, .inl a11))]
set_option maxHeartbeats 4000000 in
set_option maxRecDepth 100000 in
theorem c_X9_copyFrom (l : Launch) (G : GG) (h0 h1 h2 h3 h4 h5 h6 h7 h8 h9 h10 h11 : Nat) (sz : Nat) (a1 : Nat → Int32) (a2 : Nat → Int32) (a3 : Nat → Int32) (a4 : Nat → Int32) (a5 : Nat → Int32) (a7 : Nat → Int32) (a8 : Nat → Int32) (a9 : Nat → Int32) (a10 : Nat → Int32) (a11 : Nat → Int32) (F : Nat)   (e_a1 : Nat → Int32) (e_a2 : Nat → Int32) (e_a3 : Nat → Int32) (e_a4 : Nat → Int32) (e_a5 : Nat → Int32) (hf : p_X9_copyFrom F a1 a2 a3 a4 a5 a7 a8 a9 a10 a11  = some (e_a1, e_a2, e_a3, e_a4, e_a5)) : Met l yX9_copyFrom (.code yX9_copyFrom cX9_copyFrom 2 none :: gtbl) ({ frames := 1, cells := 0, slots := 0, locals := 48 } : Room) (PcS G [.ref h0, .ref h6] (wW_X9_copyFrom G h0 h1 h2 h3 h4 h5 h6 h7 h8 h9 h10 h11 a1 a2 a3 a4 a5 a7 a8 a9 a10 a11) sz) (QvS G (va_A (wW_X9_copyFrom G h0 h1 h2 h3 h4 h5 h6 h7 h8 h9 h10 h11 a1 a2 a3 a4 a5 a7 a8 a9 a10 a11) sz) (wW_X9_copyFrom G h0 h1 h2 h3 h4 h5 h6 h7 h8 h9 h10 h11 e_a1 e_a2 e_a3 e_a4 e_a5 a7 a8 a9 a10 a11)) 0 0 (va_A (wW_X9_copyFrom G h0 h1 h2 h3 h4 h5 h6 h7 h8 h9 h10 h11 a1 a2 a3 a4 a5 a7 a8 a9 a10 a11) sz) := by
  refine met_start (by decide) (Nat.le_of_ble_eq_true rfl) ?_
  intro p e s m below meth c hC hr hlk hnm hK hP hD hA hS hX ls hl
  obtain ⟨hx, hb, hml, hown, ht0⟩ := hC
  have hown : s.vm.findClass RX9 = some m.cls := hown
  generalize va_A (wW_X9_copyFrom G h0 h1 h2 h3 h4 h5 h6 h7 h8 h9 h10 h11 a1 a2 a3 a4 a5 a7 a8 a9 a10 a11) sz = A at hD hA hS hX ⊢
  have hl : lv_has ls 2 [(0, .ref h0), (1, .ref h6)] := hl
  have hf : p_X9_copyFrom F a1 a2 a3 a4 a5 a7 a8 a9 a10 a11  = some (e_a1, e_a2, e_a3, e_a4, e_a5) := hf
  refine lv_aload_n hx hb dX9_copyFrom_0 rfl (lv_at hl 1 rfl) ?_
  refine va_get (ci := 9) (v := .ref h7) (C := RX9) (T := TX9) (N := 5) hx hb ht0 iX9 hown hK hP 6 rfl rfl 0 (by decide) (ht0 _ wd_320) (fun _ h9 => h9) rfl dX9_copyFrom_1 ?_
  refine lv_iconst (v := (0 : Int32)) hx hb dX9_copyFrom_4 (by decide) ?_
  refine lv_aload_n hx hb dX9_copyFrom_5 rfl (lv_at hl 0 rfl) ?_
  refine va_get (ci := 9) (v := .ref h1) (C := RX9) (T := TX9) (N := 5) hx hb ht0 iX9 hown hK hP 0 rfl rfl 0 (by decide) (ht0 _ wd_320) (fun _ h9 => h9) rfl dX9_copyFrom_6 ?_
  refine lv_iconst (v := (0 : Int32)) hx hb dX9_copyFrom_9 (by decide) ?_
  refine lv_bipush (v := (16 : Int32)) hx hb dX9_copyFrom_10 (by decide) ?_
  have g1 : ¬ ((0 : Int32) < 0 ∨ (0 : Int32) < 0 ∨ (16 : Int32) < 0 ∨ 16 < (0 : Int32).toNatClampNeg + (16 : Int32).toNatClampNeg ∨ 16 < (0 : Int32).toNatClampNeg + (16 : Int32).toNatClampNeg) := by decide
  refine va_copyi hx hb (by rw [hml]; exact hl.1.symm) hown (ht0 _ wd_815) (ht0 _ wd_521) (ht0 _ wd_520) (ht0 _ wd_141) hK hP hD hS 7 1 0 0 rfl rfl rfl rfl rfl (fun q => g1 (Or.inl q)) (fun q => g1 (Or.inr (Or.inl q))) (fun q => g1 (Or.inr (Or.inr (Or.inl q)))) (Nat.not_lt.mp (fun q => g1 (Or.inr (Or.inr (Or.inr (Or.inl q)))))) (Nat.not_lt.mp (fun q => g1 (Or.inr (Or.inr (Or.inr (Or.inr q)))))) (fun _ _ => rfl) (by decide) (Nat.le_of_ble_eq_true rfl) dX9_copyFrom_12 (fun H locs hP hD hS => ?_)
  have hP : va_P G.1 vwCl (wW_X9_copyFrom G h0 h1 h2 h3 h4 h5 h6 h7 h8 h9 h10 h11 (va_cpy a7 a1 (0 : Int32).toNatClampNeg (0 : Int32).toNatClampNeg (16 : Int32).toNatClampNeg) a2 a3 a4 a5 a7 a8 a9 a10 a11) H := hP
  have hD : va_D A (wW_X9_copyFrom G h0 h1 h2 h3 h4 h5 h6 h7 h8 h9 h10 h11 (va_cpy a7 a1 (0 : Int32).toNatClampNeg (0 : Int32).toNatClampNeg (16 : Int32).toNatClampNeg) a2 a3 a4 a5 a7 a8 a9 a10 a11) := hD
  refine lv_aload_n hx hb dX9_copyFrom_15 rfl (lv_at hl 1 rfl) ?_
  refine va_get (ci := 9) (v := .ref h8) (C := RX9) (T := TX9) (N := 5) hx hb ht0 iX9 hown hK hP 6 rfl rfl 1 (by decide) (ht0 _ wd_322) (fun _ h9 => h9) rfl dX9_copyFrom_16 ?_
  refine lv_iconst (v := (0 : Int32)) hx hb dX9_copyFrom_19 (by decide) ?_
  refine lv_aload_n hx hb dX9_copyFrom_20 rfl (lv_at hl 0 rfl) ?_
  refine va_get (ci := 9) (v := .ref h2) (C := RX9) (T := TX9) (N := 5) hx hb ht0 iX9 hown hK hP 0 rfl rfl 1 (by decide) (ht0 _ wd_322) (fun _ h9 => h9) rfl dX9_copyFrom_21 ?_
  refine lv_iconst (v := (0 : Int32)) hx hb dX9_copyFrom_24 (by decide) ?_
  refine lv_bipush (v := (16 : Int32)) hx hb dX9_copyFrom_25 (by decide) ?_
  have g2 : ¬ ((0 : Int32) < 0 ∨ (0 : Int32) < 0 ∨ (16 : Int32) < 0 ∨ 16 < (0 : Int32).toNatClampNeg + (16 : Int32).toNatClampNeg ∨ 16 < (0 : Int32).toNatClampNeg + (16 : Int32).toNatClampNeg) := by decide
  refine va_copyi hx hb (by rw [hml]; exact hl.1.symm) hown (ht0 _ wd_815) (ht0 _ wd_521) (ht0 _ wd_520) (ht0 _ wd_141) hK hP hD hS 8 2 0 0 rfl rfl rfl rfl rfl (fun q => g2 (Or.inl q)) (fun q => g2 (Or.inr (Or.inl q))) (fun q => g2 (Or.inr (Or.inr (Or.inl q)))) (Nat.not_lt.mp (fun q => g2 (Or.inr (Or.inr (Or.inr (Or.inl q)))))) (Nat.not_lt.mp (fun q => g2 (Or.inr (Or.inr (Or.inr (Or.inr q)))))) (fun _ _ => rfl) (by decide) (Nat.le_of_ble_eq_true rfl) dX9_copyFrom_27 (fun H locs hP hD hS => ?_)
  have hP : va_P G.1 vwCl (wW_X9_copyFrom G h0 h1 h2 h3 h4 h5 h6 h7 h8 h9 h10 h11 (va_cpy a7 a1 (0 : Int32).toNatClampNeg (0 : Int32).toNatClampNeg (16 : Int32).toNatClampNeg) (va_cpy a8 a2 (0 : Int32).toNatClampNeg (0 : Int32).toNatClampNeg (16 : Int32).toNatClampNeg) a3 a4 a5 a7 a8 a9 a10 a11) H := hP
  have hD : va_D A (wW_X9_copyFrom G h0 h1 h2 h3 h4 h5 h6 h7 h8 h9 h10 h11 (va_cpy a7 a1 (0 : Int32).toNatClampNeg (0 : Int32).toNatClampNeg (16 : Int32).toNatClampNeg) (va_cpy a8 a2 (0 : Int32).toNatClampNeg (0 : Int32).toNatClampNeg (16 : Int32).toNatClampNeg) a3 a4 a5 a7 a8 a9 a10 a11) := hD
  refine lv_aload_n hx hb dX9_copyFrom_30 rfl (lv_at hl 1 rfl) ?_
  refine va_get (ci := 9) (v := .ref h9) (C := RX9) (T := TX9) (N := 5) hx hb ht0 iX9 hown hK hP 6 rfl rfl 2 (by decide) (ht0 _ wd_324) (fun _ h9 => h9) rfl dX9_copyFrom_31 ?_
  refine lv_iconst (v := (0 : Int32)) hx hb dX9_copyFrom_34 (by decide) ?_
  refine lv_aload_n hx hb dX9_copyFrom_35 rfl (lv_at hl 0 rfl) ?_
  refine va_get (ci := 9) (v := .ref h3) (C := RX9) (T := TX9) (N := 5) hx hb ht0 iX9 hown hK hP 0 rfl rfl 2 (by decide) (ht0 _ wd_324) (fun _ h9 => h9) rfl dX9_copyFrom_36 ?_
  refine lv_iconst (v := (0 : Int32)) hx hb dX9_copyFrom_39 (by decide) ?_
  refine lv_bipush (v := (16 : Int32)) hx hb dX9_copyFrom_40 (by decide) ?_
  have g3 : ¬ ((0 : Int32) < 0 ∨ (0 : Int32) < 0 ∨ (16 : Int32) < 0 ∨ 16 < (0 : Int32).toNatClampNeg + (16 : Int32).toNatClampNeg ∨ 16 < (0 : Int32).toNatClampNeg + (16 : Int32).toNatClampNeg) := by decide
  refine va_copyi hx hb (by rw [hml]; exact hl.1.symm) hown (ht0 _ wd_815) (ht0 _ wd_521) (ht0 _ wd_520) (ht0 _ wd_141) hK hP hD hS 9 3 0 0 rfl rfl rfl rfl rfl (fun q => g3 (Or.inl q)) (fun q => g3 (Or.inr (Or.inl q))) (fun q => g3 (Or.inr (Or.inr (Or.inl q)))) (Nat.not_lt.mp (fun q => g3 (Or.inr (Or.inr (Or.inr (Or.inl q)))))) (Nat.not_lt.mp (fun q => g3 (Or.inr (Or.inr (Or.inr (Or.inr q)))))) (fun _ _ => rfl) (by decide) (Nat.le_of_ble_eq_true rfl) dX9_copyFrom_42 (fun H locs hP hD hS => ?_)
  have hP : va_P G.1 vwCl (wW_X9_copyFrom G h0 h1 h2 h3 h4 h5 h6 h7 h8 h9 h10 h11 (va_cpy a7 a1 (0 : Int32).toNatClampNeg (0 : Int32).toNatClampNeg (16 : Int32).toNatClampNeg) (va_cpy a8 a2 (0 : Int32).toNatClampNeg (0 : Int32).toNatClampNeg (16 : Int32).toNatClampNeg) (va_cpy a9 a3 (0 : Int32).toNatClampNeg (0 : Int32).toNatClampNeg (16 : Int32).toNatClampNeg) a4 a5 a7 a8 a9 a10 a11) H := hP
  have hD : va_D A (wW_X9_copyFrom G h0 h1 h2 h3 h4 h5 h6 h7 h8 h9 h10 h11 (va_cpy a7 a1 (0 : Int32).toNatClampNeg (0 : Int32).toNatClampNeg (16 : Int32).toNatClampNeg) (va_cpy a8 a2 (0 : Int32).toNatClampNeg (0 : Int32).toNatClampNeg (16 : Int32).toNatClampNeg) (va_cpy a9 a3 (0 : Int32).toNatClampNeg (0 : Int32).toNatClampNeg (16 : Int32).toNatClampNeg) a4 a5 a7 a8 a9 a10 a11) := hD
  refine lv_aload_n hx hb dX9_copyFrom_45 rfl (lv_at hl 1 rfl) ?_
  refine va_get (ci := 9) (v := .ref h10) (C := RX9) (T := TX9) (N := 5) hx hb ht0 iX9 hown hK hP 6 rfl rfl 3 (by decide) (ht0 _ wd_326) (fun _ h9 => h9) rfl dX9_copyFrom_46 ?_
  refine lv_iconst (v := (0 : Int32)) hx hb dX9_copyFrom_49 (by decide) ?_
  refine lv_aload_n hx hb dX9_copyFrom_50 rfl (lv_at hl 0 rfl) ?_
  refine va_get (ci := 9) (v := .ref h4) (C := RX9) (T := TX9) (N := 5) hx hb ht0 iX9 hown hK hP 0 rfl rfl 3 (by decide) (ht0 _ wd_326) (fun _ h9 => h9) rfl dX9_copyFrom_51 ?_
  refine lv_iconst (v := (0 : Int32)) hx hb dX9_copyFrom_54 (by decide) ?_
  refine lv_bipush (v := (16 : Int32)) hx hb dX9_copyFrom_55 (by decide) ?_
  have g4 : ¬ ((0 : Int32) < 0 ∨ (0 : Int32) < 0 ∨ (16 : Int32) < 0 ∨ 16 < (0 : Int32).toNatClampNeg + (16 : Int32).toNatClampNeg ∨ 16 < (0 : Int32).toNatClampNeg + (16 : Int32).toNatClampNeg) := by decide
  refine va_copyi hx hb (by rw [hml]; exact hl.1.symm) hown (ht0 _ wd_815) (ht0 _ wd_521) (ht0 _ wd_520) (ht0 _ wd_141) hK hP hD hS 10 4 0 0 rfl rfl rfl rfl rfl (fun q => g4 (Or.inl q)) (fun q => g4 (Or.inr (Or.inl q))) (fun q => g4 (Or.inr (Or.inr (Or.inl q)))) (Nat.not_lt.mp (fun q => g4 (Or.inr (Or.inr (Or.inr (Or.inl q)))))) (Nat.not_lt.mp (fun q => g4 (Or.inr (Or.inr (Or.inr (Or.inr q)))))) (fun _ _ => rfl) (by decide) (Nat.le_of_ble_eq_true rfl) dX9_copyFrom_57 (fun H locs hP hD hS => ?_)
  have hP : va_P G.1 vwCl (wW_X9_copyFrom G h0 h1 h2 h3 h4 h5 h6 h7 h8 h9 h10 h11 (va_cpy a7 a1 (0 : Int32).toNatClampNeg (0 : Int32).toNatClampNeg (16 : Int32).toNatClampNeg) (va_cpy a8 a2 (0 : Int32).toNatClampNeg (0 : Int32).toNatClampNeg (16 : Int32).toNatClampNeg) (va_cpy a9 a3 (0 : Int32).toNatClampNeg (0 : Int32).toNatClampNeg (16 : Int32).toNatClampNeg) (va_cpy a10 a4 (0 : Int32).toNatClampNeg (0 : Int32).toNatClampNeg (16 : Int32).toNatClampNeg) a5 a7 a8 a9 a10 a11) H := hP
  have hD : va_D A (wW_X9_copyFrom G h0 h1 h2 h3 h4 h5 h6 h7 h8 h9 h10 h11 (va_cpy a7 a1 (0 : Int32).toNatClampNeg (0 : Int32).toNatClampNeg (16 : Int32).toNatClampNeg) (va_cpy a8 a2 (0 : Int32).toNatClampNeg (0 : Int32).toNatClampNeg (16 : Int32).toNatClampNeg) (va_cpy a9 a3 (0 : Int32).toNatClampNeg (0 : Int32).toNatClampNeg (16 : Int32).toNatClampNeg) (va_cpy a10 a4 (0 : Int32).toNatClampNeg (0 : Int32).toNatClampNeg (16 : Int32).toNatClampNeg) a5 a7 a8 a9 a10 a11) := hD
  refine lv_aload_n hx hb dX9_copyFrom_60 rfl (lv_at hl 1 rfl) ?_
  refine va_get (ci := 9) (v := .ref h11) (C := RX9) (T := TX9) (N := 5) hx hb ht0 iX9 hown hK hP 6 rfl rfl 4 (by decide) (ht0 _ wd_328) (fun _ h9 => h9) rfl dX9_copyFrom_61 ?_
  refine lv_iconst (v := (0 : Int32)) hx hb dX9_copyFrom_64 (by decide) ?_
  refine lv_aload_n hx hb dX9_copyFrom_65 rfl (lv_at hl 0 rfl) ?_
  refine va_get (ci := 9) (v := .ref h5) (C := RX9) (T := TX9) (N := 5) hx hb ht0 iX9 hown hK hP 0 rfl rfl 4 (by decide) (ht0 _ wd_328) (fun _ h9 => h9) rfl dX9_copyFrom_66 ?_
  refine lv_iconst (v := (0 : Int32)) hx hb dX9_copyFrom_69 (by decide) ?_
  refine lv_bipush (v := (8 : Int32)) hx hb dX9_copyFrom_70 (by decide) ?_
  have g5 : ¬ ((0 : Int32) < 0 ∨ (0 : Int32) < 0 ∨ (8 : Int32) < 0 ∨ 8 < (0 : Int32).toNatClampNeg + (8 : Int32).toNatClampNeg ∨ 8 < (0 : Int32).toNatClampNeg + (8 : Int32).toNatClampNeg) := by decide
  refine va_copyi hx hb (by rw [hml]; exact hl.1.symm) hown (ht0 _ wd_815) (ht0 _ wd_521) (ht0 _ wd_520) (ht0 _ wd_141) hK hP hD hS 11 5 0 0 rfl rfl rfl rfl rfl (fun q => g5 (Or.inl q)) (fun q => g5 (Or.inr (Or.inl q))) (fun q => g5 (Or.inr (Or.inr (Or.inl q)))) (Nat.not_lt.mp (fun q => g5 (Or.inr (Or.inr (Or.inr (Or.inl q)))))) (Nat.not_lt.mp (fun q => g5 (Or.inr (Or.inr (Or.inr (Or.inr q)))))) (fun _ _ => rfl) (by decide) (Nat.le_of_ble_eq_true rfl) dX9_copyFrom_72 (fun H locs hP hD hS => ?_)
  have hP : va_P G.1 vwCl (wW_X9_copyFrom G h0 h1 h2 h3 h4 h5 h6 h7 h8 h9 h10 h11 (va_cpy a7 a1 (0 : Int32).toNatClampNeg (0 : Int32).toNatClampNeg (16 : Int32).toNatClampNeg) (va_cpy a8 a2 (0 : Int32).toNatClampNeg (0 : Int32).toNatClampNeg (16 : Int32).toNatClampNeg) (va_cpy a9 a3 (0 : Int32).toNatClampNeg (0 : Int32).toNatClampNeg (16 : Int32).toNatClampNeg) (va_cpy a10 a4 (0 : Int32).toNatClampNeg (0 : Int32).toNatClampNeg (16 : Int32).toNatClampNeg) (va_cpy a11 a5 (0 : Int32).toNatClampNeg (0 : Int32).toNatClampNeg (8 : Int32).toNatClampNeg) a7 a8 a9 a10 a11) H := hP
  have hD : va_D A (wW_X9_copyFrom G h0 h1 h2 h3 h4 h5 h6 h7 h8 h9 h10 h11 (va_cpy a7 a1 (0 : Int32).toNatClampNeg (0 : Int32).toNatClampNeg (16 : Int32).toNatClampNeg) (va_cpy a8 a2 (0 : Int32).toNatClampNeg (0 : Int32).toNatClampNeg (16 : Int32).toNatClampNeg) (va_cpy a9 a3 (0 : Int32).toNatClampNeg (0 : Int32).toNatClampNeg (16 : Int32).toNatClampNeg) (va_cpy a10 a4 (0 : Int32).toNatClampNeg (0 : Int32).toNatClampNeg (16 : Int32).toNatClampNeg) (va_cpy a11 a5 (0 : Int32).toNatClampNeg (0 : Int32).toNatClampNeg (8 : Int32).toNatClampNeg) a7 a8 a9 a10 a11) := hD
  cases hf
  exact ret_v hx hb hr hlk hK hP hD hS dX9_copyFrom_75
theorem yk_X9_copyFrom : ykV yX9_copyFrom RX9 cX9_copyFrom 2 none 1 := ⟨wd_812, wd_813, wd_134, wd_814, rfl, by decide +kernel, by decide +kernel, by decide +kernel⟩
theorem dX9_putBits_0 : decode cX9_putBits 0 = .ok (.aload_n 0, 1) := by decide +kernel
theorem dX9_putBits_1 : decode cX9_putBits 1 = .ok (.getfield 18, 3) := by decide +kernel
theorem dX9_putBits_4 : decode cX9_putBits 4 = .ok (.iload_n 2, 1) := by decide +kernel
theorem dX9_putBits_5 : decode cX9_putBits 5 = .ok (.iaload, 1) := by decide +kernel
theorem dX9_putBits_6 : decode cX9_putBits 6 = .ok (.istore 4, 2) := by decide +kernel
theorem dX9_putBits_8 : decode cX9_putBits 8 = .ok (.aload_n 0, 1) := by decide +kernel
theorem dX9_putBits_9 : decode cX9_putBits 9 = .ok (.getfield 9, 3) := by decide +kernel
theorem dX9_putBits_12 : decode cX9_putBits 12 = .ok (.iload_n 2, 1) := by decide +kernel
theorem dX9_putBits_13 : decode cX9_putBits 13 = .ok (.iload_n 3, 1) := by decide +kernel
theorem dX9_putBits_14 : decode cX9_putBits 14 = .ok (.iload 4, 2) := by decide +kernel
theorem dX9_putBits_16 : decode cX9_putBits 16 = .ok (.iconst (-1), 1) := by decide +kernel
theorem dX9_putBits_17 : decode cX9_putBits 17 = .ok (.ixor, 1) := by decide +kernel
theorem dX9_putBits_18 : decode cX9_putBits 18 = .ok (.iand, 1) := by decide +kernel
theorem dX9_putBits_19 : decode cX9_putBits 19 = .ok (.aload_n 0, 1) := by decide +kernel
theorem dX9_putBits_20 : decode cX9_putBits 20 = .ok (.getfield 9, 3) := by decide +kernel
theorem dX9_putBits_23 : decode cX9_putBits 23 = .ok (.iload_n 2, 1) := by decide +kernel
theorem dX9_putBits_24 : decode cX9_putBits 24 = .ok (.iaload, 1) := by decide +kernel
theorem dX9_putBits_25 : decode cX9_putBits 25 = .ok (.iload 4, 2) := by decide +kernel
theorem dX9_putBits_27 : decode cX9_putBits 27 = .ok (.iand, 1) := by decide +kernel
theorem dX9_putBits_28 : decode cX9_putBits 28 = .ok (.ior, 1) := by decide +kernel
theorem dX9_putBits_29 : decode cX9_putBits 29 = .ok (.iastore, 1) := by decide +kernel
theorem dX9_putBits_30 : decode cX9_putBits 30 = .ok (.aload_n 0, 1) := by decide +kernel
theorem dX9_putBits_31 : decode cX9_putBits 31 = .ok (.getfield 21, 3) := by decide +kernel
theorem dX9_putBits_34 : decode cX9_putBits 34 = .ok (.iload_n 2, 1) := by decide +kernel
theorem dX9_putBits_35 : decode cX9_putBits 35 = .ok (.aload_n 1, 1) := by decide +kernel
theorem dX9_putBits_36 : decode cX9_putBits 36 = .ok (.aload_n 0, 1) := by decide +kernel
theorem dX9_putBits_37 : decode cX9_putBits 37 = .ok (.getfield 9, 3) := by decide +kernel
theorem dX9_putBits_40 : decode cX9_putBits 40 = .ok (.iload_n 2, 1) := by decide +kernel
theorem dX9_putBits_41 : decode cX9_putBits 41 = .ok (.iaload, 1) := by decide +kernel
theorem dX9_putBits_42 : decode cX9_putBits 42 = .ok (.invokevirtual 62, 3) := by decide +kernel
theorem dX9_putBits_45 : decode cX9_putBits 45 = .ok (.iastore, 1) := by decide +kernel
theorem dX9_putBits_46 : decode cX9_putBits 46 = .ok (.return_, 1) := by decide +kernel
def wW_X9_putBits (G : GG) (h0 h1 h2 h3 h4 h5 y0_1 y0_4 y4_4 y4_5 : Nat) (a1 : Nat → Int32) (a2 : Nat → Int32) (a3 : Nat → Int32) (x4_0 : Int32) (x4_1 : Int32) (x4_2 : Int32) (a5 : Nat → Int32) : va_W := [(h0, .inr (9, [.ref h1, .ref y0_1, .ref h2, .ref h3, .ref y0_4])), (h1, .inl (G.2.1, 16, .inl a1)), (h2, .inl (G.2.1, 16, .inl a2)), (h3, .inl (G.2.1, 16, .inl a3)), (h4, .inr (1, [.int x4_0, .int x4_1, .int x4_2, .ref h5, .ref y4_4, .ref y4_5])), (h5, .inl (G.2.1, 32, .inl a5))]
set_option maxHeartbeats 4000000 in
set_option maxRecDepth 100000 in
theorem c_X9_putBits (l : Launch) (G : GG) (h0 h1 h2 h3 h4 h5 y0_1 y0_4 y4_4 y4_5 : Nat) (sz : Nat) (a1 : Nat → Int32) (a2 : Nat → Int32) (a3 : Nat → Int32) (x4_0 : Int32) (x4_1 : Int32) (x4_2 : Int32) (a5 : Nat → Int32) (F : Nat) (b2 : Int32) (b3 : Int32)  (e_a1 : Nat → Int32) (e_a3 : Nat → Int32) (hf : p_X9_putBits F a1 a2 a3 x4_0 x4_1 a5 b2 b3 = some (e_a1, e_a3)) : Met l yX9_putBits (.code yX9_putBits cX9_putBits 5 none :: gtbl) ({ frames := 2, cells := 0, slots := 0, locals := 44 } : Room) (PcS G [.ref h0, .ref h4, .int b2, .int b3] (wW_X9_putBits G h0 h1 h2 h3 h4 h5 y0_1 y0_4 y4_4 y4_5 a1 a2 a3 x4_0 x4_1 x4_2 a5) sz) (QvS G (va_A (wW_X9_putBits G h0 h1 h2 h3 h4 h5 y0_1 y0_4 y4_4 y4_5 a1 a2 a3 x4_0 x4_1 x4_2 a5) sz) (wW_X9_putBits G h0 h1 h2 h3 h4 h5 y0_1 y0_4 y4_4 y4_5 e_a1 a2 e_a3 x4_0 x4_1 x4_2 a5)) 0 0 (va_A (wW_X9_putBits G h0 h1 h2 h3 h4 h5 y0_1 y0_4 y4_4 y4_5 a1 a2 a3 x4_0 x4_1 x4_2 a5) sz) := by
  refine met_start (by decide) (Nat.le_of_ble_eq_true rfl) ?_
  intro p e s m below meth c hC hr hlk hnm hK hP hD hA hS hX ls hl
  obtain ⟨hx, hb, hml, hown, ht0⟩ := hC
  have hown : s.vm.findClass RX9 = some m.cls := hown
  generalize va_A (wW_X9_putBits G h0 h1 h2 h3 h4 h5 y0_1 y0_4 y4_4 y4_5 a1 a2 a3 x4_0 x4_1 x4_2 a5) sz = A at hD hA hS hX ⊢
  have hl : lv_has ls 5 [(0, .ref h0), (1, .ref h4), (2, .int b2), (3, .int b3)] := hl
  have hf : p_X9_putBits F a1 a2 a3 x4_0 x4_1 a5 b2 b3 = some (e_a1, e_a3) := hf
  refine lv_aload_n hx hb dX9_putBits_0 rfl (lv_at hl 0 rfl) ?_
  refine va_get (ci := 9) (v := .ref h2) (C := RX9) (T := TX9) (N := 5) hx hb ht0 iX9 hown hK hP 0 rfl rfl 2 (by decide) (ht0 _ wd_324) (fun _ h9 => h9) rfl dX9_putBits_1 ?_
  refine lv_iload_n hx hb dX9_putBits_4 rfl (lv_at hl 2 rfl) ?_
  obtain ⟨g1, hf⟩ := of_grd hf
  refine va_iald hx hb hK hP 2 0 rfl rfl g1 dX9_putBits_5 ?_
  refine lv_istore (lv' := [(4, .int (a2 b2.toNatClampNeg)), (0, .ref h0), (1, .ref h4), (2, .int b2), (3, .int b3)]) hx hb dX9_putBits_6 hl (by decide) rfl (fun ls hl => ?_)
  refine lv_aload_n hx hb dX9_putBits_8 rfl (lv_at hl 1 rfl) ?_
  refine va_get (ci := 9) (v := .ref h1) (C := RX9) (T := TX9) (N := 5) hx hb ht0 iX9 hown hK hP 0 rfl rfl 0 (by decide) (ht0 _ wd_320) (fun _ h9 => h9) rfl dX9_putBits_9 ?_
  refine lv_iload_n hx hb dX9_putBits_12 rfl (lv_at hl 3 rfl) ?_
  refine lv_iload_n hx hb dX9_putBits_13 rfl (lv_at hl 4 rfl) ?_
  refine lv_iload hx hb dX9_putBits_14 (lv_at hl 0 rfl) ?_
  refine lv_iconst (v := (-1 : Int32)) hx hb dX9_putBits_16 (by decide) ?_
  refine lv_ixor hx hb dX9_putBits_17 ?_
  refine lv_iand hx hb dX9_putBits_18 ?_
  refine lv_aload_n hx hb dX9_putBits_19 rfl (lv_at hl 1 rfl) ?_
  refine va_get (ci := 9) (v := .ref h1) (C := RX9) (T := TX9) (N := 5) hx hb ht0 iX9 hown hK hP 0 rfl rfl 0 (by decide) (ht0 _ wd_320) (fun _ h9 => h9) rfl dX9_putBits_20 ?_
  refine lv_iload_n hx hb dX9_putBits_23 rfl (lv_at hl 3 rfl) ?_
  obtain ⟨g2, hf⟩ := of_grd hf
  refine va_iald hx hb hK hP 1 0 rfl rfl g2 dX9_putBits_24 ?_
  refine lv_iload hx hb dX9_putBits_25 (lv_at hl 0 rfl) ?_
  refine lv_iand hx hb dX9_putBits_27 ?_
  refine lv_ior hx hb dX9_putBits_28 ?_
  obtain ⟨g3, hf⟩ := of_grd hf
  refine va_iast hx hb hK hP hD hS 1 0 rfl rfl g3 dX9_putBits_29 (fun H locs hP hD hS => ?_)
  have hP : va_P G.1 vwCl (wW_X9_putBits G h0 h1 h2 h3 h4 h5 y0_1 y0_4 y4_4 y4_5 (upd a1 b2.toNatClampNeg ((b3 &&& ((a2 b2.toNatClampNeg) ^^^ (-1 : Int32))) ||| ((a1 b2.toNatClampNeg) &&& (a2 b2.toNatClampNeg)))) a2 a3 x4_0 x4_1 x4_2 a5) H := hP
  have hD : va_D A (wW_X9_putBits G h0 h1 h2 h3 h4 h5 y0_1 y0_4 y4_4 y4_5 (upd a1 b2.toNatClampNeg ((b3 &&& ((a2 b2.toNatClampNeg) ^^^ (-1 : Int32))) ||| ((a1 b2.toNatClampNeg) &&& (a2 b2.toNatClampNeg)))) a2 a3 x4_0 x4_1 x4_2 a5) := hD
  refine lv_aload_n hx hb dX9_putBits_30 rfl (lv_at hl 1 rfl) ?_
  refine va_get (ci := 9) (v := .ref h3) (C := RX9) (T := TX9) (N := 5) hx hb ht0 iX9 hown hK hP 0 rfl rfl 3 (by decide) (ht0 _ wd_326) (fun _ h9 => h9) rfl dX9_putBits_31 ?_
  refine lv_iload_n hx hb dX9_putBits_34 rfl (lv_at hl 3 rfl) ?_
  refine lv_aload_n hx hb dX9_putBits_35 rfl (lv_at hl 2 rfl) ?_
  refine lv_aload_n hx hb dX9_putBits_36 rfl (lv_at hl 1 rfl) ?_
  refine va_get (ci := 9) (v := .ref h1) (C := RX9) (T := TX9) (N := 5) hx hb ht0 iX9 hown hK hP 0 rfl rfl 0 (by decide) (ht0 _ wd_320) (fun _ h9 => h9) rfl dX9_putBits_37 ?_
  refine lv_iload_n hx hb dX9_putBits_40 rfl (lv_at hl 3 rfl) ?_
  obtain ⟨g4, hf⟩ := of_grd hf
  refine va_iald hx hb hK hP 1 0 rfl rfl g4 dX9_putBits_41 ?_
  obtain ⟨r_42_4, hc_r_42_4, hf⟩ := of_bnd hf
  refine cl_Vi (w2 := (wW_X9_putBits G h0 h1 h2 h3 h4 h5 y0_1 y0_4 y4_4 y4_5 (upd a1 b2.toNatClampNeg ((b3 &&& ((a2 b2.toNatClampNeg) ^^^ (-1 : Int32))) ||| ((a1 b2.toNatClampNeg) &&& (a2 b2.toNatClampNeg)))) a2 a3 x4_0 x4_1 x4_2 a5)) (As := [.int ((upd a1 b2.toNatClampNeg ((b3 &&& ((a2 b2.toNatClampNeg) ^^^ (-1 : Int32))) ||| ((a1 b2.toNatClampNeg) &&& (a2 b2.toNatClampNeg)))) b2.toNatClampNeg)]) (rest := [.int b2, .ref h3]) ⟨hx, hb, hml, hown, ht0⟩ (c_X1_syndromeOf l G h4 h5 y4_4 y4_5 _ x4_0 x4_1 x4_2 a5 F ((upd a1 b2.toNatClampNeg ((b3 &&& ((a2 b2.toNatClampNeg) ^^^ (-1 : Int32))) ||| ((a1 b2.toNatClampNeg) &&& (a2 b2.toNatClampNeg)))) b2.toNatClampNeg) _ hc_r_42_4) yk_X1_syndromeOf wd_780 ⟨rfl, rfl, by decide, by decide⟩ ⟨Nat.le_refl _, Nat.le_refl _⟩ hX hK hP hD hS hA [4, 5] [0, 1, 2, 3] [0, 1, 2, 3, 4, 5] (va_recv hK hP (ci := 1) (q0 := 4) rfl rfl) rfl rfl (by decide) rfl rfl rfl rfl rfl hl.1 rfl (Nat.le_of_ble_eq_true rfl) dX9_putBits_42 (fun H locs hP hD hS => ?_)
  obtain ⟨g6, hf⟩ := of_grd hf
  refine va_iast hx hb hK hP hD hS 3 0 rfl rfl g6 dX9_putBits_45 (fun H locs hP hD hS => ?_)
  have hP : va_P G.1 vwCl (wW_X9_putBits G h0 h1 h2 h3 h4 h5 y0_1 y0_4 y4_4 y4_5 (upd a1 b2.toNatClampNeg ((b3 &&& ((a2 b2.toNatClampNeg) ^^^ (-1 : Int32))) ||| ((a1 b2.toNatClampNeg) &&& (a2 b2.toNatClampNeg)))) a2 (upd a3 b2.toNatClampNeg r_42_4) x4_0 x4_1 x4_2 a5) H := hP
  have hD : va_D A (wW_X9_putBits G h0 h1 h2 h3 h4 h5 y0_1 y0_4 y4_4 y4_5 (upd a1 b2.toNatClampNeg ((b3 &&& ((a2 b2.toNatClampNeg) ^^^ (-1 : Int32))) ||| ((a1 b2.toNatClampNeg) &&& (a2 b2.toNatClampNeg)))) a2 (upd a3 b2.toNatClampNeg r_42_4) x4_0 x4_1 x4_2 a5) := hD
  cases hf
  exact ret_v hx hb hr hlk hK hP hD hS dX9_putBits_46
theorem yk_X9_putBits : ykV yX9_putBits RX9 cX9_putBits 5 none 3 := ⟨wd_778, wd_23, wd_134, wd_779, rfl, by decide +kernel, by decide +kernel, by decide +kernel⟩
theorem dX9_writeMeant_0 : decode cX9_writeMeant 0 = .ok (.aload_n 0, 1) := by decide +kernel
theorem dX9_writeMeant_1 : decode cX9_writeMeant 1 = .ok (.getfield 15, 3) := by decide +kernel
theorem dX9_writeMeant_4 : decode cX9_writeMeant 4 = .ok (.iload_n 2, 1) := by decide +kernel
theorem dX9_writeMeant_5 : decode cX9_writeMeant 5 = .ok (.aload_n 1, 1) := by decide +kernel
theorem dX9_writeMeant_6 : decode cX9_writeMeant 6 = .ok (.iload_n 3, 1) := by decide +kernel
theorem dX9_writeMeant_7 : decode cX9_writeMeant 7 = .ok (.invokevirtual 43, 3) := by decide +kernel
theorem dX9_writeMeant_10 : decode cX9_writeMeant 10 = .ok (.iastore, 1) := by decide +kernel
theorem dX9_writeMeant_11 : decode cX9_writeMeant 11 = .ok (.aload_n 0, 1) := by decide +kernel
theorem dX9_writeMeant_12 : decode cX9_writeMeant 12 = .ok (.aload_n 1, 1) := by decide +kernel
theorem dX9_writeMeant_13 : decode cX9_writeMeant 13 = .ok (.iload_n 2, 1) := by decide +kernel
theorem dX9_writeMeant_14 : decode cX9_writeMeant 14 = .ok (.aload_n 0, 1) := by decide +kernel
theorem dX9_writeMeant_15 : decode cX9_writeMeant 15 = .ok (.getfield 15, 3) := by decide +kernel
theorem dX9_writeMeant_18 : decode cX9_writeMeant 18 = .ok (.iload_n 2, 1) := by decide +kernel
theorem dX9_writeMeant_19 : decode cX9_writeMeant 19 = .ok (.iaload, 1) := by decide +kernel
theorem dX9_writeMeant_20 : decode cX9_writeMeant 20 = .ok (.invokevirtual 49, 3) := by decide +kernel
theorem dX9_writeMeant_23 : decode cX9_writeMeant 23 = .ok (.return_, 1) := by decide +kernel
def wW_X9_writeMeant (G : GG) (h0 h1 h2 h3 h4 h5 h6 y0_4 y5_4 y5_5 : Nat) (a1 : Nat → Int32) (a2 : Nat → Int32) (a3 : Nat → Int32) (a4 : Nat → Int32) (x5_0 : Int32) (x5_1 : Int32) (x5_2 : Int32) (a6 : Nat → Int32) : va_W := [(h0, .inr (9, [.ref h1, .ref h2, .ref h3, .ref h4, .ref y0_4])), (h1, .inl (G.2.1, 16, .inl a1)), (h2, .inl (G.2.1, 16, .inl a2)), (h3, .inl (G.2.1, 16, .inl a3)), (h4, .inl (G.2.1, 16, .inl a4)), (h5, .inr (1, [.int x5_0, .int x5_1, .int x5_2, .ref h6, .ref y5_4, .ref y5_5])), (h6, .inl (G.2.1, 32, .inl a6))]
set_option maxHeartbeats 4000000 in
set_option maxRecDepth 100000 in
theorem c_X9_writeMeant (l : Launch) (G : GG) (h0 h1 h2 h3 h4 h5 h6 y0_4 y5_4 y5_5 : Nat) (sz : Nat) (a1 : Nat → Int32) (a2 : Nat → Int32) (a3 : Nat → Int32) (a4 : Nat → Int32) (x5_0 : Int32) (x5_1 : Int32) (x5_2 : Int32) (a6 : Nat → Int32) (F : Nat) (b2 : Int32) (b3 : Int32)  (e_a1 : Nat → Int32) (e_a2 : Nat → Int32) (e_a4 : Nat → Int32) (hf : p_X9_writeMeant F a1 a2 a3 a4 x5_0 x5_1 a6 b2 b3 = some (e_a1, e_a2, e_a4)) : Met l yX9_writeMeant (.code yX9_writeMeant cX9_writeMeant 4 none :: gtbl) ({ frames := 3, cells := 0, slots := 0, locals := 68 } : Room) (PcS G [.ref h0, .ref h5, .int b2, .int b3] (wW_X9_writeMeant G h0 h1 h2 h3 h4 h5 h6 y0_4 y5_4 y5_5 a1 a2 a3 a4 x5_0 x5_1 x5_2 a6) sz) (QvS G (va_A (wW_X9_writeMeant G h0 h1 h2 h3 h4 h5 h6 y0_4 y5_4 y5_5 a1 a2 a3 a4 x5_0 x5_1 x5_2 a6) sz) (wW_X9_writeMeant G h0 h1 h2 h3 h4 h5 h6 y0_4 y5_4 y5_5 e_a1 e_a2 a3 e_a4 x5_0 x5_1 x5_2 a6)) 0 0 (va_A (wW_X9_writeMeant G h0 h1 h2 h3 h4 h5 h6 y0_4 y5_4 y5_5 a1 a2 a3 a4 x5_0 x5_1 x5_2 a6) sz) := by
  refine met_start (by decide) (Nat.le_of_ble_eq_true rfl) ?_
  intro p e s m below meth c hC hr hlk hnm hK hP hD hA hS hX ls hl
  obtain ⟨hx, hb, hml, hown, ht0⟩ := hC
  have hown : s.vm.findClass RX9 = some m.cls := hown
  generalize va_A (wW_X9_writeMeant G h0 h1 h2 h3 h4 h5 h6 y0_4 y5_4 y5_5 a1 a2 a3 a4 x5_0 x5_1 x5_2 a6) sz = A at hD hA hS hX ⊢
  have hl : lv_has ls 4 [(0, .ref h0), (1, .ref h5), (2, .int b2), (3, .int b3)] := hl
  have hf : p_X9_writeMeant F a1 a2 a3 a4 x5_0 x5_1 a6 b2 b3 = some (e_a1, e_a2, e_a4) := hf
  refine lv_aload_n hx hb dX9_writeMeant_0 rfl (lv_at hl 0 rfl) ?_
  refine va_get (ci := 9) (v := .ref h2) (C := RX9) (T := TX9) (N := 5) hx hb ht0 iX9 hown hK hP 0 rfl rfl 1 (by decide) (ht0 _ wd_322) (fun _ h9 => h9) rfl dX9_writeMeant_1 ?_
  refine lv_iload_n hx hb dX9_writeMeant_4 rfl (lv_at hl 2 rfl) ?_
  refine lv_aload_n hx hb dX9_writeMeant_5 rfl (lv_at hl 1 rfl) ?_
  refine lv_iload_n hx hb dX9_writeMeant_6 rfl (lv_at hl 3 rfl) ?_
  obtain ⟨r_7_0, hc_r_7_0, hf⟩ := of_bnd hf
  refine cl_Vi (w2 := (wW_X9_writeMeant G h0 h1 h2 h3 h4 h5 h6 y0_4 y5_4 y5_5 a1 a2 a3 a4 x5_0 x5_1 x5_2 a6)) (As := [.int b3]) (rest := [.int b2, .ref h2]) ⟨hx, hb, hml, hown, ht0⟩ (c_X1_wholeOf l G h5 h6 y5_4 y5_5 _ x5_0 x5_1 x5_2 a6 F b3 _ hc_r_7_0) yk_X1_wholeOf wd_767 ⟨rfl, rfl, by decide, by decide⟩ ⟨Nat.le_refl _, Nat.le_refl _⟩ hX hK hP hD hS hA [5, 6] [0, 1, 2, 3, 4] [0, 1, 2, 3, 4, 5, 6] (va_recv hK hP (ci := 1) (q0 := 5) rfl rfl) rfl rfl (by decide) rfl rfl rfl rfl rfl hl.1 rfl (Nat.le_of_ble_eq_true rfl) dX9_writeMeant_7 (fun H locs hP hD hS => ?_)
  obtain ⟨g2, hf⟩ := of_grd hf
  refine va_iast hx hb hK hP hD hS 2 0 rfl rfl g2 dX9_writeMeant_10 (fun H locs hP hD hS => ?_)
  have hP : va_P G.1 vwCl (wW_X9_writeMeant G h0 h1 h2 h3 h4 h5 h6 y0_4 y5_4 y5_5 a1 (upd a2 b2.toNatClampNeg r_7_0) a3 a4 x5_0 x5_1 x5_2 a6) H := hP
  have hD : va_D A (wW_X9_writeMeant G h0 h1 h2 h3 h4 h5 h6 y0_4 y5_4 y5_5 a1 (upd a2 b2.toNatClampNeg r_7_0) a3 a4 x5_0 x5_1 x5_2 a6) := hD
  refine lv_aload_n hx hb dX9_writeMeant_11 rfl (lv_at hl 0 rfl) ?_
  refine lv_aload_n hx hb dX9_writeMeant_12 rfl (lv_at hl 1 rfl) ?_
  refine lv_iload_n hx hb dX9_writeMeant_13 rfl (lv_at hl 2 rfl) ?_
  refine lv_aload_n hx hb dX9_writeMeant_14 rfl (lv_at hl 0 rfl) ?_
  refine va_get (ci := 9) (v := .ref h2) (C := RX9) (T := TX9) (N := 5) hx hb ht0 iX9 hown hK hP 0 rfl rfl 1 (by decide) (ht0 _ wd_322) (fun _ h9 => h9) rfl dX9_writeMeant_15 ?_
  refine lv_iload_n hx hb dX9_writeMeant_18 rfl (lv_at hl 2 rfl) ?_
  obtain ⟨g3, hf⟩ := of_grd hf
  refine va_iald hx hb hK hP 2 0 rfl rfl g3 dX9_writeMeant_19 ?_
  obtain ⟨⟨r_20_3_a1, r_20_3_a3⟩, hc_r_20_3, hf⟩ := of_bnd hf
  refine cl_Vv (w2 := (wW_X9_writeMeant G h0 h1 h2 h3 h4 h5 h6 y0_4 y5_4 y5_5 r_20_3_a1 (upd a2 b2.toNatClampNeg r_7_0) a3 r_20_3_a3 x5_0 x5_1 x5_2 a6)) (As := [.ref h5, .int b2, .int ((upd a2 b2.toNatClampNeg r_7_0) b2.toNatClampNeg)]) (rest := []) ⟨hx, hb, hml, hown, ht0⟩ (c_X9_putBits l G h0 h1 h3 h4 h5 h6 h2 y0_4 y5_4 y5_5 _ a1 a3 a4 x5_0 x5_1 x5_2 a6 F b2 ((upd a2 b2.toNatClampNeg r_7_0) b2.toNatClampNeg) _ _ hc_r_20_3) yk_X9_putBits wd_776 ⟨rfl, rfl, by decide, by decide⟩ ⟨Nat.le_refl _, Nat.le_refl _⟩ hX hK hP hD hS hA [0, 1, 3, 4, 5, 6] [2] [1, 2, 0, 3, 4, 5, 6] (va_recv hK hP (ci := 9) (q0 := 0) rfl rfl) rfl rfl (by decide) rfl rfl rfl rfl rfl hl.1 rfl (Nat.le_of_ble_eq_true rfl) dX9_writeMeant_20 (fun H locs hP hD hS => ?_)
  cases hf
  exact ret_v hx hb hr hlk hK hP hD hS dX9_writeMeant_23
theorem yk_X9_writeMeant : ykV yX9_writeMeant RX9 cX9_writeMeant 4 none 3 := ⟨wd_764, wd_765, wd_134, wd_766, rfl, by decide +kernel, by decide +kernel, by decide +kernel⟩
theorem dX9_beginWith_0 : decode cX9_beginWith 0 = .ok (.aload_n 0, 1) := by decide +kernel
theorem dX9_beginWith_1 : decode cX9_beginWith 1 = .ok (.getfield 18, 3) := by decide +kernel
theorem dX9_beginWith_4 : decode cX9_beginWith 4 = .ok (.iconst 0, 1) := by decide +kernel
theorem dX9_beginWith_5 : decode cX9_beginWith 5 = .ok (.invokestatic 33, 3) := by decide +kernel
theorem dX9_beginWith_8 : decode cX9_beginWith 8 = .ok (.aload_n 0, 1) := by decide +kernel
theorem dX9_beginWith_9 : decode cX9_beginWith 9 = .ok (.getfield 24, 3) := by decide +kernel
theorem dX9_beginWith_12 : decode cX9_beginWith 12 = .ok (.iconst 0, 1) := by decide +kernel
theorem dX9_beginWith_13 : decode cX9_beginWith 13 = .ok (.invokestatic 33, 3) := by decide +kernel
theorem dX9_beginWith_16 : decode cX9_beginWith 16 = .ok (.iconst 0, 1) := by decide +kernel
theorem dX9_beginWith_17 : decode cX9_beginWith 17 = .ok (.istore_n 3, 1) := by decide +kernel
theorem dX9_beginWith_18 : decode cX9_beginWith 18 = .ok (.iload_n 3, 1) := by decide +kernel
theorem dX9_beginWith_19 : decode cX9_beginWith 19 = .ok (.bipush 16, 2) := by decide +kernel
theorem dX9_beginWith_21 : decode cX9_beginWith 21 = .ok (.if_icmp .ge 24, 3) := by decide +kernel
theorem dX9_beginWith_24 : decode cX9_beginWith 24 = .ok (.iload_n 3, 1) := by decide +kernel
theorem dX9_beginWith_25 : decode cX9_beginWith 25 = .ok (.aload_n 2, 1) := by decide +kernel
theorem dX9_beginWith_26 : decode cX9_beginWith 26 = .ok (.arraylength, 1) := by decide +kernel
theorem dX9_beginWith_27 : decode cX9_beginWith 27 = .ok (.if_icmp .ge 18, 3) := by decide +kernel
theorem dX9_beginWith_30 : decode cX9_beginWith 30 = .ok (.aload_n 0, 1) := by decide +kernel
theorem dX9_beginWith_31 : decode cX9_beginWith 31 = .ok (.aload_n 1, 1) := by decide +kernel
theorem dX9_beginWith_32 : decode cX9_beginWith 32 = .ok (.iload_n 3, 1) := by decide +kernel
theorem dX9_beginWith_33 : decode cX9_beginWith 33 = .ok (.aload_n 2, 1) := by decide +kernel
theorem dX9_beginWith_34 : decode cX9_beginWith 34 = .ok (.iload_n 3, 1) := by decide +kernel
theorem dX9_beginWith_35 : decode cX9_beginWith 35 = .ok (.iaload, 1) := by decide +kernel
theorem dX9_beginWith_36 : decode cX9_beginWith 36 = .ok (.invokevirtual 39, 3) := by decide +kernel
theorem dX9_beginWith_39 : decode cX9_beginWith 39 = .ok (.iinc 3 1, 3) := by decide +kernel
theorem dX9_beginWith_42 : decode cX9_beginWith 42 = .ok (.goto (-24), 3) := by decide +kernel
theorem dX9_beginWith_45 : decode cX9_beginWith 45 = .ok (.return_, 1) := by decide +kernel
def wW_X9_beginWith (G : GG) (h0 h1 h2 h3 h4 h5 h6 h7 h8 y6_4 y6_5 : Nat) (a1 : Nat → Int32) (a2 : Nat → Int32) (a3 : Nat → Int32) (a4 : Nat → Int32) (a5 : Nat → Int32) (x6_0 : Int32) (x6_1 : Int32) (x6_2 : Int32) (a7 : Nat → Int32) (a8 : Nat → Int32) : va_W := [(h0, .inr (9, [.ref h1, .ref h2, .ref h3, .ref h4, .ref h5])), (h1, .inl (G.2.1, 16, .inl a1)), (h2, .inl (G.2.1, 16, .inl a2)), (h3, .inl (G.2.1, 16, .inl a3)), (h4, .inl (G.2.1, 16, .inl a4)), (h5, .inl (G.2.1, 8, .inl a5)), (h6, .inr (1, [.int x6_0, .int x6_1, .int x6_2, .ref h7, .ref y6_4, .ref y6_5])), (h7, .inl (G.2.1, 32, .inl a7)), (h8, .inl (G.2.1, 16, .inl a8))]
set_option maxHeartbeats 4000000 in
set_option maxRecDepth 100000 in
theorem c_X9_beginWith (l : Launch) (G : GG) (h0 h1 h2 h3 h4 h5 h6 h7 h8 y6_4 y6_5 : Nat) (sz : Nat) (a1 : Nat → Int32) (a2 : Nat → Int32) (a3 : Nat → Int32) (a4 : Nat → Int32) (a5 : Nat → Int32) (x6_0 : Int32) (x6_1 : Int32) (x6_2 : Int32) (a7 : Nat → Int32) (a8 : Nat → Int32) (F : Nat)   (e_a1 : Nat → Int32) (e_a2 : Nat → Int32) (e_a3 : Nat → Int32) (e_a4 : Nat → Int32) (e_a5 : Nat → Int32) (hf : p_X9_beginWith F a1 a2 a3 a4 a5 x6_0 x6_1 a7 a8  = some (e_a1, e_a2, e_a3, e_a4, e_a5)) : Met l yX9_beginWith (.code yX9_beginWith cX9_beginWith 4 none :: gtbl) ({ frames := 4, cells := 0, slots := 0, locals := 91 } : Room) (PcS G [.ref h0, .ref h6, .ref h8] (wW_X9_beginWith G h0 h1 h2 h3 h4 h5 h6 h7 h8 y6_4 y6_5 a1 a2 a3 a4 a5 x6_0 x6_1 x6_2 a7 a8) sz) (QvS G (va_A (wW_X9_beginWith G h0 h1 h2 h3 h4 h5 h6 h7 h8 y6_4 y6_5 a1 a2 a3 a4 a5 x6_0 x6_1 x6_2 a7 a8) sz) (wW_X9_beginWith G h0 h1 h2 h3 h4 h5 h6 h7 h8 y6_4 y6_5 e_a1 e_a2 e_a3 e_a4 e_a5 x6_0 x6_1 x6_2 a7 a8)) 0 0 (va_A (wW_X9_beginWith G h0 h1 h2 h3 h4 h5 h6 h7 h8 y6_4 y6_5 a1 a2 a3 a4 a5 x6_0 x6_1 x6_2 a7 a8) sz) := by
  refine met_start (by decide) (Nat.le_of_ble_eq_true rfl) ?_
  intro p e s m below meth c hC hr hlk hnm hK hP hD hA hS hX ls hl
  obtain ⟨hx, hb, hml, hown, ht0⟩ := hC
  have hown : s.vm.findClass RX9 = some m.cls := hown
  generalize va_A (wW_X9_beginWith G h0 h1 h2 h3 h4 h5 h6 h7 h8 y6_4 y6_5 a1 a2 a3 a4 a5 x6_0 x6_1 x6_2 a7 a8) sz = A at hD hA hS hX ⊢
  have hl : lv_has ls 4 [(0, .ref h0), (1, .ref h6), (2, .ref h8)] := hl
  have hf : p_X9_beginWith F a1 a2 a3 a4 a5 x6_0 x6_1 a7 a8  = some (e_a1, e_a2, e_a3, e_a4, e_a5) := hf
  have kL18 : ∀ (n18 : Nat) (u18_3 : Int32) (a1_18 : Nat → Int32) (a2_18 : Nat → Int32) (a3_18 : Nat → Int32) (a4_18 : Nat → Int32) (a5_18 : Nat → Int32), p_X9_beginWith_L18 F x6_0 x6_1 a7 a8 n18 u18_3 a1_18 a2_18 a3_18 a4_18 a5_18 = some (e_a1, e_a2, e_a3, e_a4, e_a5) → ∀ (H : Heap) (locs : List Loc), va_P G.1 vwCl (wW_X9_beginWith G h0 h1 h2 h3 h4 h5 h6 h7 h8 y6_4 y6_5 a1_18 a2_18 a3_18 a4_18 a5_18 x6_0 x6_1 x6_2 a7 a8) H → va_D A (wW_X9_beginWith G h0 h1 h2 h3 h4 h5 h6 h7 h8 y6_4 y6_5 a1_18 a2_18 a3_18 a4_18 a5_18 x6_0 x6_1 x6_2 a7 a8) → va_S A s.heap H locs → ∀ ls : Array Slot, lv_has ls 4 [(0, .ref h0), (1, .ref h6), (2, .ref h8), (3, .int u18_3)] → W p l e ({ frames := 4, cells := 0, slots := 0, locals := 91 } : Room) s m (List.toArray [.ref h0, .ref h6, .ref h8]) below meth c H locs 0 0 (MQ below (QvS G A (wW_X9_beginWith G h0 h1 h2 h3 h4 h5 h6 h7 h8 y6_4 y6_5 e_a1 e_a2 e_a3 e_a4 e_a5 x6_0 x6_1 x6_2 a7 a8)) (List.toArray [.ref h0, .ref h6, .ref h8]) s 0 0 A) (F0 m 18 ls []) := by
    intro n18
    induction n18 with
    | zero =>
      intro u18_3 a1_18 a2_18 a3_18 a4_18 a5_18 hf
      cases hf
    | succ n18 ih18 =>
      intro u18_3 a1_18 a2_18 a3_18 a4_18 a5_18 hf H locs hP hD hS ls hl
      have hf : p_X9_beginWith_L18b F x6_0 x6_1 a7 a8 (p_X9_beginWith_L18 F x6_0 x6_1 a7 a8 n18) u18_3 a1_18 a2_18 a3_18 a4_18 a5_18 = some (e_a1, e_a2, e_a3, e_a4, e_a5) := hf
      refine lv_iload_n hx hb dX9_beginWith_18 rfl (lv_at hl 3 rfl) ?_
      refine lv_bipush (v := (16 : Int32)) hx hb dX9_beginWith_19 (by decide) ?_
      refine lv_icmp_ge (tgt := 45) hx hb dX9_beginWith_21 (by decide) (fun c1 => ?_) (fun c1 => ?_)
      · have hf := of_pos hf c1
        cases hf
        exact ret_v hx hb hr hlk hK hP hD hS dX9_beginWith_45
      · have hf := of_neg hf c1
        refine lv_iload_n hx hb dX9_beginWith_24 rfl (lv_at hl 3 rfl) ?_
        refine lv_aload_n hx hb dX9_beginWith_25 rfl (lv_at hl 2 rfl) ?_
        refine va_alen (v := (16 : Int32)) hx hb hK hP 8 0 rfl rfl rfl dX9_beginWith_26 ?_
        refine lv_icmp_ge (tgt := 45) hx hb dX9_beginWith_27 (by decide) (fun c2 => ?_) (fun c2 => ?_)
        · have hf := of_pos hf c2
          cases hf
          exact ret_v hx hb hr hlk hK hP hD hS dX9_beginWith_45
        · have hf := of_neg hf c2
          refine lv_aload_n hx hb dX9_beginWith_30 rfl (lv_at hl 0 rfl) ?_
          refine lv_aload_n hx hb dX9_beginWith_31 rfl (lv_at hl 1 rfl) ?_
          refine lv_iload_n hx hb dX9_beginWith_32 rfl (lv_at hl 3 rfl) ?_
          refine lv_aload_n hx hb dX9_beginWith_33 rfl (lv_at hl 2 rfl) ?_
          refine lv_iload_n hx hb dX9_beginWith_34 rfl (lv_at hl 3 rfl) ?_
          obtain ⟨g3, hf⟩ := of_grd hf
          refine va_iald hx hb hK hP 8 0 rfl rfl g3 dX9_beginWith_35 ?_
          obtain ⟨⟨r_36_3_a1, r_36_3_a2, r_36_3_a4⟩, hc_r_36_3, hf⟩ := of_bnd hf
          refine cl_Vv (w2 := (wW_X9_beginWith G h0 h1 h2 h3 h4 h5 h6 h7 h8 y6_4 y6_5 r_36_3_a1 r_36_3_a2 a3_18 r_36_3_a4 a5_18 x6_0 x6_1 x6_2 a7 a8)) (As := [.ref h6, .int u18_3, .int (a8 u18_3.toNatClampNeg)]) (rest := []) ⟨hx, hb, hml, hown, ht0⟩ (c_X9_writeMeant l G h0 h1 h2 h3 h4 h6 h7 h5 y6_4 y6_5 _ a1_18 a2_18 a3_18 a4_18 x6_0 x6_1 x6_2 a7 F u18_3 (a8 u18_3.toNatClampNeg) _ _ _ hc_r_36_3) yk_X9_writeMeant wd_763 ⟨rfl, rfl, by decide, by decide⟩ ⟨Nat.le_refl _, Nat.le_refl _⟩ hX hK hP hD hS hA [0, 1, 2, 3, 4, 6, 7] [5, 8] [2, 3, 4, 5, 6, 0, 7, 8, 1] (va_recv hK hP (ci := 9) (q0 := 0) rfl rfl) rfl rfl (by decide) rfl rfl rfl rfl rfl hl.1 rfl (Nat.le_of_ble_eq_true rfl) dX9_beginWith_36 (fun H locs hP hD hS => ?_)
          refine lv_iinc (v := u18_3 + (1 : Int32)) (lv' := [(3, .int (u18_3 + (1 : Int32))), (0, .ref h0), (1, .ref h6), (2, .ref h8)]) hx hb dX9_beginWith_39 hl (k := 3) rfl (by rfl) (by decide) rfl (fun ls hl => ?_)
          refine lv_goto (tgt := 18) hx hb dX9_beginWith_42 (by decide) ?_
          exact ih18 _ _ _ _ _ _ hf _ _ hP hD hS _ (lv_sub hl [1, 2, 3, 0] rfl)
  refine lv_aload_n hx hb dX9_beginWith_0 rfl (lv_at hl 0 rfl) ?_
  refine va_get (ci := 9) (v := .ref h3) (C := RX9) (T := TX9) (N := 5) hx hb ht0 iX9 hown hK hP 0 rfl rfl 2 (by decide) (ht0 _ wd_324) (fun _ h9 => h9) rfl dX9_beginWith_1 ?_
  refine lv_iconst (v := (0 : Int32)) hx hb dX9_beginWith_4 (by decide) ?_
  obtain ⟨r_5_4_a0, hc_r_5_4, hf⟩ := of_bnd hf
  refine cl_Sv (w2 := (wW_X9_beginWith G h0 h1 h2 h3 h4 h5 h6 h7 h8 y6_4 y6_5 a1 a2 r_5_4_a0 a4 a5 x6_0 x6_1 x6_2 a7 a8)) (As := [.ref h3, .int (0 : Int32)]) (rest := []) ⟨hx, hb, hml, hown, ht0⟩ (c_J7_fill_53178 l G 16 h3 _ a3 F (0 : Int32) _ hc_r_5_4) yk_J7_fill_53178 wd_762 ⟨rfl, rfl, by decide, by decide⟩ ⟨Nat.le_refl _, Nat.le_refl _⟩ hX hK hP hD hS hA [3] [0, 1, 2, 4, 5, 6, 7, 8] [0, 1, 2, 8, 3, 4, 5, 6, 7] rfl rfl (by decide) rfl rfl rfl rfl rfl hl.1 rfl (Nat.le_of_ble_eq_true rfl) dX9_beginWith_5 (fun H locs hP hD hS => ?_)
  refine lv_aload_n hx hb dX9_beginWith_8 rfl (lv_at hl 0 rfl) ?_
  refine va_get (ci := 9) (v := .ref h5) (C := RX9) (T := TX9) (N := 5) hx hb ht0 iX9 hown hK hP 0 rfl rfl 4 (by decide) (ht0 _ wd_328) (fun _ h9 => h9) rfl dX9_beginWith_9 ?_
  refine lv_iconst (v := (0 : Int32)) hx hb dX9_beginWith_12 (by decide) ?_
  obtain ⟨r_13_5_a0, hc_r_13_5, hf⟩ := of_bnd hf
  refine cl_Sv (w2 := (wW_X9_beginWith G h0 h1 h2 h3 h4 h5 h6 h7 h8 y6_4 y6_5 a1 a2 r_5_4_a0 a4 r_13_5_a0 x6_0 x6_1 x6_2 a7 a8)) (As := [.ref h5, .int (0 : Int32)]) (rest := []) ⟨hx, hb, hml, hown, ht0⟩ (c_J7_fill_53178 l G 8 h5 _ a5 F (0 : Int32) _ hc_r_13_5) yk_J7_fill_53178 wd_762 ⟨rfl, rfl, by decide, by decide⟩ ⟨Nat.le_refl _, Nat.le_refl _⟩ hX hK hP hD hS hA [5] [0, 1, 2, 3, 4, 6, 7, 8] [0, 1, 2, 3, 4, 8, 5, 6, 7] rfl rfl (by decide) rfl rfl rfl rfl rfl hl.1 rfl (Nat.le_of_ble_eq_true rfl) dX9_beginWith_13 (fun H locs hP hD hS => ?_)
  refine lv_iconst (v := (0 : Int32)) hx hb dX9_beginWith_16 (by decide) ?_
  refine lv_istore_n (lv' := [(3, .int (0 : Int32)), (0, .ref h0), (1, .ref h6), (2, .ref h8)]) hx hb dX9_beginWith_17 rfl hl (by decide) rfl (fun ls hl => ?_)
  exact kL18 _ _ _ _ _ _ _ hf _ _ hP hD hS _ (lv_sub hl [1, 2, 3, 0] rfl)
theorem yk_X9_beginWith : ykV yX9_beginWith RX9 cX9_beginWith 4 none 2 := ⟨wd_759, wd_760, wd_134, wd_761, rfl, by decide +kernel, by decide +kernel, by decide +kernel⟩
theorem dX9_writeAllAnew_0 : decode cX9_writeAllAnew 0 = .ok (.iconst 0, 1) := by decide +kernel
theorem dX9_writeAllAnew_1 : decode cX9_writeAllAnew 1 = .ok (.istore_n 2, 1) := by decide +kernel
theorem dX9_writeAllAnew_2 : decode cX9_writeAllAnew 2 = .ok (.iload_n 2, 1) := by decide +kernel
theorem dX9_writeAllAnew_3 : decode cX9_writeAllAnew 3 = .ok (.bipush 16, 2) := by decide +kernel
theorem dX9_writeAllAnew_5 : decode cX9_writeAllAnew 5 = .ok (.if_icmp .ge 21, 3) := by decide +kernel
theorem dX9_writeAllAnew_8 : decode cX9_writeAllAnew 8 = .ok (.aload_n 0, 1) := by decide +kernel
theorem dX9_writeAllAnew_9 : decode cX9_writeAllAnew 9 = .ok (.aload_n 1, 1) := by decide +kernel
theorem dX9_writeAllAnew_10 : decode cX9_writeAllAnew 10 = .ok (.iload_n 2, 1) := by decide +kernel
theorem dX9_writeAllAnew_11 : decode cX9_writeAllAnew 11 = .ok (.aload_n 0, 1) := by decide +kernel
theorem dX9_writeAllAnew_12 : decode cX9_writeAllAnew 12 = .ok (.getfield 15, 3) := by decide +kernel
theorem dX9_writeAllAnew_15 : decode cX9_writeAllAnew 15 = .ok (.iload_n 2, 1) := by decide +kernel
theorem dX9_writeAllAnew_16 : decode cX9_writeAllAnew 16 = .ok (.iaload, 1) := by decide +kernel
theorem dX9_writeAllAnew_17 : decode cX9_writeAllAnew 17 = .ok (.invokevirtual 39, 3) := by decide +kernel
theorem dX9_writeAllAnew_20 : decode cX9_writeAllAnew 20 = .ok (.iinc 2 1, 3) := by decide +kernel
theorem dX9_writeAllAnew_23 : decode cX9_writeAllAnew 23 = .ok (.goto (-21), 3) := by decide +kernel
theorem dX9_writeAllAnew_26 : decode cX9_writeAllAnew 26 = .ok (.return_, 1) := by decide +kernel
def wW_X9_writeAllAnew (G : GG) (h0 h1 h2 h3 h4 h5 h6 y0_4 y5_4 y5_5 : Nat) (a1 : Nat → Int32) (a2 : Nat → Int32) (a3 : Nat → Int32) (a4 : Nat → Int32) (x5_0 : Int32) (x5_1 : Int32) (x5_2 : Int32) (a6 : Nat → Int32) : va_W := [(h0, .inr (9, [.ref h1, .ref h2, .ref h3, .ref h4, .ref y0_4])), (h1, .inl (G.2.1, 16, .inl a1)), (h2, .inl (G.2.1, 16, .inl a2)), (h3, .inl (G.2.1, 16, .inl a3)), (h4, .inl (G.2.1, 16, .inl a4)), (h5, .inr (1, [.int x5_0, .int x5_1, .int x5_2, .ref h6, .ref y5_4, .ref y5_5])), (h6, .inl (G.2.1, 32, .inl a6))]
set_option maxHeartbeats 4000000 in
set_option maxRecDepth 100000 in
theorem c_X9_writeAllAnew (l : Launch) (G : GG) (h0 h1 h2 h3 h4 h5 h6 y0_4 y5_4 y5_5 : Nat) (sz : Nat) (a1 : Nat → Int32) (a2 : Nat → Int32) (a3 : Nat → Int32) (a4 : Nat → Int32) (x5_0 : Int32) (x5_1 : Int32) (x5_2 : Int32) (a6 : Nat → Int32) (F : Nat)   (e_a1 : Nat → Int32) (e_a2 : Nat → Int32) (e_a4 : Nat → Int32) (hf : p_X9_writeAllAnew F a1 a2 a3 a4 x5_0 x5_1 a6  = some (e_a1, e_a2, e_a4)) : Met l yX9_writeAllAnew (.code yX9_writeAllAnew cX9_writeAllAnew 3 none :: gtbl) ({ frames := 4, cells := 0, slots := 0, locals := 91 } : Room) (PcS G [.ref h0, .ref h5] (wW_X9_writeAllAnew G h0 h1 h2 h3 h4 h5 h6 y0_4 y5_4 y5_5 a1 a2 a3 a4 x5_0 x5_1 x5_2 a6) sz) (QvS G (va_A (wW_X9_writeAllAnew G h0 h1 h2 h3 h4 h5 h6 y0_4 y5_4 y5_5 a1 a2 a3 a4 x5_0 x5_1 x5_2 a6) sz) (wW_X9_writeAllAnew G h0 h1 h2 h3 h4 h5 h6 y0_4 y5_4 y5_5 e_a1 e_a2 a3 e_a4 x5_0 x5_1 x5_2 a6)) 0 0 (va_A (wW_X9_writeAllAnew G h0 h1 h2 h3 h4 h5 h6 y0_4 y5_4 y5_5 a1 a2 a3 a4 x5_0 x5_1 x5_2 a6) sz) := by
  refine met_start (by decide) (Nat.le_of_ble_eq_true rfl) ?_
  intro p e s m below meth c hC hr hlk hnm hK hP hD hA hS hX ls hl
  obtain ⟨hx, hb, hml, hown, ht0⟩ := hC
  have hown : s.vm.findClass RX9 = some m.cls := hown
  generalize va_A (wW_X9_writeAllAnew G h0 h1 h2 h3 h4 h5 h6 y0_4 y5_4 y5_5 a1 a2 a3 a4 x5_0 x5_1 x5_2 a6) sz = A at hD hA hS hX ⊢
  have hl : lv_has ls 3 [(0, .ref h0), (1, .ref h5)] := hl
  have hf : p_X9_writeAllAnew F a1 a2 a3 a4 x5_0 x5_1 a6  = some (e_a1, e_a2, e_a4) := hf
  have kL2 : ∀ (n2 : Nat) (u2_2 : Int32) (a1_2 : Nat → Int32) (a2_2 : Nat → Int32) (a4_2 : Nat → Int32), p_X9_writeAllAnew_L2 F a3 x5_0 x5_1 a6 n2 u2_2 a1_2 a2_2 a4_2 = some (e_a1, e_a2, e_a4) → ∀ (H : Heap) (locs : List Loc), va_P G.1 vwCl (wW_X9_writeAllAnew G h0 h1 h2 h3 h4 h5 h6 y0_4 y5_4 y5_5 a1_2 a2_2 a3 a4_2 x5_0 x5_1 x5_2 a6) H → va_D A (wW_X9_writeAllAnew G h0 h1 h2 h3 h4 h5 h6 y0_4 y5_4 y5_5 a1_2 a2_2 a3 a4_2 x5_0 x5_1 x5_2 a6) → va_S A s.heap H locs → ∀ ls : Array Slot, lv_has ls 3 [(0, .ref h0), (1, .ref h5), (2, .int u2_2)] → W p l e ({ frames := 4, cells := 0, slots := 0, locals := 91 } : Room) s m (List.toArray [.ref h0, .ref h5]) below meth c H locs 0 0 (MQ below (QvS G A (wW_X9_writeAllAnew G h0 h1 h2 h3 h4 h5 h6 y0_4 y5_4 y5_5 e_a1 e_a2 a3 e_a4 x5_0 x5_1 x5_2 a6)) (List.toArray [.ref h0, .ref h5]) s 0 0 A) (F0 m 2 ls []) := by
    intro n2
    induction n2 with
    | zero =>
      intro u2_2 a1_2 a2_2 a4_2 hf
      cases hf
    | succ n2 ih2 =>
      intro u2_2 a1_2 a2_2 a4_2 hf H locs hP hD hS ls hl
      have hf : p_X9_writeAllAnew_L2b F a3 x5_0 x5_1 a6 (p_X9_writeAllAnew_L2 F a3 x5_0 x5_1 a6 n2) u2_2 a1_2 a2_2 a4_2 = some (e_a1, e_a2, e_a4) := hf
      refine lv_iload_n hx hb dX9_writeAllAnew_2 rfl (lv_at hl 2 rfl) ?_
      refine lv_bipush (v := (16 : Int32)) hx hb dX9_writeAllAnew_3 (by decide) ?_
      refine lv_icmp_ge (tgt := 26) hx hb dX9_writeAllAnew_5 (by decide) (fun c1 => ?_) (fun c1 => ?_)
      · have hf := of_pos hf c1
        cases hf
        exact ret_v hx hb hr hlk hK hP hD hS dX9_writeAllAnew_26
      · have hf := of_neg hf c1
        refine lv_aload_n hx hb dX9_writeAllAnew_8 rfl (lv_at hl 0 rfl) ?_
        refine lv_aload_n hx hb dX9_writeAllAnew_9 rfl (lv_at hl 1 rfl) ?_
        refine lv_iload_n hx hb dX9_writeAllAnew_10 rfl (lv_at hl 2 rfl) ?_
        refine lv_aload_n hx hb dX9_writeAllAnew_11 rfl (lv_at hl 0 rfl) ?_
        refine va_get (ci := 9) (v := .ref h2) (C := RX9) (T := TX9) (N := 5) hx hb ht0 iX9 hown hK hP 0 rfl rfl 1 (by decide) (ht0 _ wd_322) (fun _ h9 => h9) rfl dX9_writeAllAnew_12 ?_
        refine lv_iload_n hx hb dX9_writeAllAnew_15 rfl (lv_at hl 2 rfl) ?_
        obtain ⟨g2, hf⟩ := of_grd hf
        refine va_iald hx hb hK hP 2 0 rfl rfl g2 dX9_writeAllAnew_16 ?_
        obtain ⟨⟨r_17_2_a1, r_17_2_a2, r_17_2_a4⟩, hc_r_17_2, hf⟩ := of_bnd hf
        refine cl_Vv (w2 := (wW_X9_writeAllAnew G h0 h1 h2 h3 h4 h5 h6 y0_4 y5_4 y5_5 r_17_2_a1 r_17_2_a2 a3 r_17_2_a4 x5_0 x5_1 x5_2 a6)) (As := [.ref h5, .int u2_2, .int (a2_2 u2_2.toNatClampNeg)]) (rest := []) ⟨hx, hb, hml, hown, ht0⟩ (c_X9_writeMeant l G h0 h1 h2 h3 h4 h5 h6 y0_4 y5_4 y5_5 _ a1_2 a2_2 a3 a4_2 x5_0 x5_1 x5_2 a6 F u2_2 (a2_2 u2_2.toNatClampNeg) _ _ _ hc_r_17_2) yk_X9_writeMeant wd_763 ⟨rfl, rfl, by decide, by decide⟩ ⟨Nat.le_refl _, Nat.le_refl _⟩ hX hK hP hD hS hA [0, 1, 2, 3, 4, 5, 6] [] [0, 1, 2, 3, 4, 5, 6] (va_recv hK hP (ci := 9) (q0 := 0) rfl rfl) rfl rfl (by decide) rfl rfl rfl rfl rfl hl.1 rfl (Nat.le_of_ble_eq_true rfl) dX9_writeAllAnew_17 (fun H locs hP hD hS => ?_)
        refine lv_iinc (v := u2_2 + (1 : Int32)) (lv' := [(2, .int (u2_2 + (1 : Int32))), (0, .ref h0), (1, .ref h5)]) hx hb dX9_writeAllAnew_20 hl (k := 2) rfl (by rfl) (by decide) rfl (fun ls hl => ?_)
        refine lv_goto (tgt := 2) hx hb dX9_writeAllAnew_23 (by decide) ?_
        exact ih2 _ _ _ _ hf _ _ hP hD hS _ (lv_sub hl [1, 2, 0] rfl)
  refine lv_iconst (v := (0 : Int32)) hx hb dX9_writeAllAnew_0 (by decide) ?_
  refine lv_istore_n (lv' := [(2, .int (0 : Int32)), (0, .ref h0), (1, .ref h5)]) hx hb dX9_writeAllAnew_1 rfl hl (by decide) rfl (fun ls hl => ?_)
  exact kL2 _ _ _ _ _ hf _ _ hP hD hS _ (lv_sub hl [1, 2, 0] rfl)
theorem yk_X9_writeAllAnew : ykV yX9_writeAllAnew RX9 cX9_writeAllAnew 3 none 1 := ⟨wd_960, wd_961, wd_134, wd_962, rfl, by decide +kernel, by decide +kernel, by decide +kernel⟩
theorem dX9_countReading_0 : decode cX9_countReading 0 = .ok (.aload_n 0, 1) := by decide +kernel
theorem dX9_countReading_1 : decode cX9_countReading 1 = .ok (.getfield 24, 3) := by decide +kernel
theorem dX9_countReading_4 : decode cX9_countReading 4 = .ok (.aload_n 2, 1) := by decide +kernel
theorem dX9_countReading_5 : decode cX9_countReading 5 = .ok (.getfield 77, 3) := by decide +kernel
theorem dX9_countReading_8 : decode cX9_countReading 8 = .ok (.dup2, 1) := by decide +kernel
theorem dX9_countReading_9 : decode cX9_countReading 9 = .ok (.iaload, 1) := by decide +kernel
theorem dX9_countReading_10 : decode cX9_countReading 10 = .ok (.iconst 1, 1) := by decide +kernel
theorem dX9_countReading_11 : decode cX9_countReading 11 = .ok (.iadd, 1) := by decide +kernel
theorem dX9_countReading_12 : decode cX9_countReading 12 = .ok (.iastore, 1) := by decide +kernel
theorem dX9_countReading_13 : decode cX9_countReading 13 = .ok (.aload_n 2, 1) := by decide +kernel
theorem dX9_countReading_14 : decode cX9_countReading 14 = .ok (.aload_n 0, 1) := by decide +kernel
theorem dX9_countReading_15 : decode cX9_countReading 15 = .ok (.getfield 9, 3) := by decide +kernel
theorem dX9_countReading_18 : decode cX9_countReading 18 = .ok (.iload_n 1, 1) := by decide +kernel
theorem dX9_countReading_19 : decode cX9_countReading 19 = .ok (.iaload, 1) := by decide +kernel
theorem dX9_countReading_20 : decode cX9_countReading 20 = .ok (.aload_n 0, 1) := by decide +kernel
theorem dX9_countReading_21 : decode cX9_countReading 21 = .ok (.getfield 15, 3) := by decide +kernel
theorem dX9_countReading_24 : decode cX9_countReading 24 = .ok (.iload_n 1, 1) := by decide +kernel
theorem dX9_countReading_25 : decode cX9_countReading 25 = .ok (.iaload, 1) := by decide +kernel
theorem dX9_countReading_26 : decode cX9_countReading 26 = .ok (.ixor, 1) := by decide +kernel
theorem dX9_countReading_27 : decode cX9_countReading 27 = .ok (.invokevirtual 80, 3) := by decide +kernel
theorem dX9_countReading_30 : decode cX9_countReading 30 = .ok (.iconst 2, 1) := by decide +kernel
theorem dX9_countReading_31 : decode cX9_countReading 31 = .ok (.if_icmp .ne 14, 3) := by decide +kernel
theorem dX9_countReading_34 : decode cX9_countReading 34 = .ok (.aload_n 0, 1) := by decide +kernel
theorem dX9_countReading_35 : decode cX9_countReading 35 = .ok (.getfield 24, 3) := by decide +kernel
theorem dX9_countReading_38 : decode cX9_countReading 38 = .ok (.bipush 6, 2) := by decide +kernel
theorem dX9_countReading_40 : decode cX9_countReading 40 = .ok (.dup2, 1) := by decide +kernel
theorem dX9_countReading_41 : decode cX9_countReading 41 = .ok (.iaload, 1) := by decide +kernel
theorem dX9_countReading_42 : decode cX9_countReading 42 = .ok (.iconst 1, 1) := by decide +kernel
theorem dX9_countReading_43 : decode cX9_countReading 43 = .ok (.iadd, 1) := by decide +kernel
theorem dX9_countReading_44 : decode cX9_countReading 44 = .ok (.iastore, 1) := by decide +kernel
theorem dX9_countReading_45 : decode cX9_countReading 45 = .ok (.return_, 1) := by decide +kernel
def wW_X9_countReading (G : GG) (h0 h1 h2 h3 h4 y0_2 y0_3 : Nat) (a1 : Nat → Int32) (a2 : Nat → Int32) (a3 : Nat → Int32) (x4_0 : Int32) (x4_1 : Int32) (x4_2 : Int32) : va_W := [(h0, .inr (9, [.ref h1, .ref h2, .ref y0_2, .ref y0_3, .ref h3])), (h1, .inl (G.2.1, 16, .inl a1)), (h2, .inl (G.2.1, 16, .inl a2)), (h3, .inl (G.2.1, 8, .inl a3)), (h4, .inr (2, [.int x4_0, .int x4_1, .int x4_2]))]
set_option maxHeartbeats 4000000 in
set_option maxRecDepth 100000 in
theorem c_X9_countReading (l : Launch) (G : GG) (h0 h1 h2 h3 h4 y0_2 y0_3 : Nat) (sz : Nat) (a1 : Nat → Int32) (a2 : Nat → Int32) (a3 : Nat → Int32) (x4_0 : Int32) (x4_1 : Int32) (x4_2 : Int32) (F : Nat) (b1 : Int32)  (e_a3 : Nat → Int32) (hf : p_X9_countReading F a1 a2 a3 x4_0 x4_2 b1 = some e_a3) : Met l yX9_countReading (.code yX9_countReading cX9_countReading 3 none :: gtbl) ({ frames := 2, cells := 0, slots := 0, locals := 41 } : Room) (PcS G [.ref h0, .int b1, .ref h4] (wW_X9_countReading G h0 h1 h2 h3 h4 y0_2 y0_3 a1 a2 a3 x4_0 x4_1 x4_2) sz) (QvS G (va_A (wW_X9_countReading G h0 h1 h2 h3 h4 y0_2 y0_3 a1 a2 a3 x4_0 x4_1 x4_2) sz) (wW_X9_countReading G h0 h1 h2 h3 h4 y0_2 y0_3 a1 a2 e_a3 x4_0 x4_1 x4_2)) 0 0 (va_A (wW_X9_countReading G h0 h1 h2 h3 h4 y0_2 y0_3 a1 a2 a3 x4_0 x4_1 x4_2) sz) := by
  refine met_start (by decide) (Nat.le_of_ble_eq_true rfl) ?_
  intro p e s m below meth c hC hr hlk hnm hK hP hD hA hS hX ls hl
  obtain ⟨hx, hb, hml, hown, ht0⟩ := hC
  have hown : s.vm.findClass RX9 = some m.cls := hown
  generalize va_A (wW_X9_countReading G h0 h1 h2 h3 h4 y0_2 y0_3 a1 a2 a3 x4_0 x4_1 x4_2) sz = A at hD hA hS hX ⊢
  have hl : lv_has ls 3 [(0, .ref h0), (1, .int b1), (2, .ref h4)] := hl
  have hf : p_X9_countReading F a1 a2 a3 x4_0 x4_2 b1 = some e_a3 := hf
  refine lv_aload_n hx hb dX9_countReading_0 rfl (lv_at hl 0 rfl) ?_
  refine va_get (ci := 9) (v := .ref h3) (C := RX9) (T := TX9) (N := 5) hx hb ht0 iX9 hown hK hP 0 rfl rfl 4 (by decide) (ht0 _ wd_328) (fun _ h9 => h9) rfl dX9_countReading_1 ?_
  refine lv_aload_n hx hb dX9_countReading_4 rfl (lv_at hl 2 rfl) ?_
  refine va_get (ci := 2) (v := .int x4_0) (C := RX2) (T := TX2) (N := 3) hx hb ht0 iX2 hown hK hP 4 rfl rfl 0 (by decide) (ht0 _ wd_372) (fun _ h9 => h9) rfl dX9_countReading_5 ?_
  refine lv_dup2_11 hx hb dX9_countReading_8 rfl rfl ?_
  obtain ⟨g1, hf⟩ := of_grd hf
  refine va_iald hx hb hK hP 3 0 rfl rfl g1 dX9_countReading_9 ?_
  refine lv_iconst (v := (1 : Int32)) hx hb dX9_countReading_10 (by decide) ?_
  refine lv_iadd hx hb dX9_countReading_11 ?_
  obtain ⟨g2, hf⟩ := of_grd hf
  refine va_iast hx hb hK hP hD hS 3 0 rfl rfl g2 dX9_countReading_12 (fun H locs hP hD hS => ?_)
  have hP : va_P G.1 vwCl (wW_X9_countReading G h0 h1 h2 h3 h4 y0_2 y0_3 a1 a2 (upd a3 x4_0.toNatClampNeg ((a3 x4_0.toNatClampNeg) + (1 : Int32))) x4_0 x4_1 x4_2) H := hP
  have hD : va_D A (wW_X9_countReading G h0 h1 h2 h3 h4 y0_2 y0_3 a1 a2 (upd a3 x4_0.toNatClampNeg ((a3 x4_0.toNatClampNeg) + (1 : Int32))) x4_0 x4_1 x4_2) := hD
  refine lv_aload_n hx hb dX9_countReading_13 rfl (lv_at hl 2 rfl) ?_
  refine lv_aload_n hx hb dX9_countReading_14 rfl (lv_at hl 0 rfl) ?_
  refine va_get (ci := 9) (v := .ref h1) (C := RX9) (T := TX9) (N := 5) hx hb ht0 iX9 hown hK hP 0 rfl rfl 0 (by decide) (ht0 _ wd_320) (fun _ h9 => h9) rfl dX9_countReading_15 ?_
  refine lv_iload_n hx hb dX9_countReading_18 rfl (lv_at hl 1 rfl) ?_
  obtain ⟨g3, hf⟩ := of_grd hf
  refine va_iald hx hb hK hP 1 0 rfl rfl g3 dX9_countReading_19 ?_
  refine lv_aload_n hx hb dX9_countReading_20 rfl (lv_at hl 0 rfl) ?_
  refine va_get (ci := 9) (v := .ref h2) (C := RX9) (T := TX9) (N := 5) hx hb ht0 iX9 hown hK hP 0 rfl rfl 1 (by decide) (ht0 _ wd_322) (fun _ h9 => h9) rfl dX9_countReading_21 ?_
  refine lv_iload_n hx hb dX9_countReading_24 rfl (lv_at hl 1 rfl) ?_
  obtain ⟨g4, hf⟩ := of_grd hf
  refine va_iald hx hb hK hP 2 0 rfl rfl g4 dX9_countReading_25 ?_
  refine lv_ixor hx hb dX9_countReading_26 ?_
  obtain ⟨r_27_4, hc_r_27_4, hf⟩ := of_bnd hf
  refine cl_Vi (w2 := (wW_X9_countReading G h0 h1 h2 h3 h4 y0_2 y0_3 a1 a2 (upd a3 x4_0.toNatClampNeg ((a3 x4_0.toNatClampNeg) + (1 : Int32))) x4_0 x4_1 x4_2)) (As := [.int ((a1 b1.toNatClampNeg) ^^^ (a2 b1.toNatClampNeg))]) (rest := []) ⟨hx, hb, hml, hown, ht0⟩ (c_X2_judge l G h4 _ x4_0 x4_1 x4_2 F ((a1 b1.toNatClampNeg) ^^^ (a2 b1.toNatClampNeg)) _ hc_r_27_4) yk_X2_judge wd_862 ⟨rfl, rfl, by decide, by decide⟩ ⟨Nat.le_refl _, Nat.le_refl _⟩ hX hK hP hD hS hA [4] [0, 1, 2, 3] [0, 1, 2, 3, 4] (va_recv hK hP (ci := 2) (q0 := 4) rfl rfl) rfl rfl (by decide) rfl rfl rfl rfl rfl hl.1 rfl (Nat.le_of_ble_eq_true rfl) dX9_countReading_27 (fun H locs hP hD hS => ?_)
  refine lv_iconst (v := (2 : Int32)) hx hb dX9_countReading_30 (by decide) ?_
  refine lv_icmp_ne (tgt := 45) hx hb dX9_countReading_31 (by decide) (fun c6 => ?_) (fun c6 => ?_)
  · have hf := of_neg hf c6
    cases hf
    exact ret_v hx hb hr hlk hK hP hD hS dX9_countReading_45
  · have hf := of_pos hf c6
    refine lv_aload_n hx hb dX9_countReading_34 rfl (lv_at hl 0 rfl) ?_
    refine va_get (ci := 9) (v := .ref h3) (C := RX9) (T := TX9) (N := 5) hx hb ht0 iX9 hown hK hP 0 rfl rfl 4 (by decide) (ht0 _ wd_328) (fun _ h9 => h9) rfl dX9_countReading_35 ?_
    refine lv_bipush (v := (6 : Int32)) hx hb dX9_countReading_38 (by decide) ?_
    refine lv_dup2_11 hx hb dX9_countReading_40 rfl rfl ?_
    refine va_iald hx hb hK hP 3 0 rfl rfl (show ¬ ixBad (6 : Int32) 8 by decide) dX9_countReading_41 ?_
    refine lv_iconst (v := (1 : Int32)) hx hb dX9_countReading_42 (by decide) ?_
    refine lv_iadd hx hb dX9_countReading_43 ?_
    refine va_iast hx hb hK hP hD hS 3 0 rfl rfl (show ¬ ixBad (6 : Int32) 8 by decide) dX9_countReading_44 (fun H locs hP hD hS => ?_)
    have hP : va_P G.1 vwCl (wW_X9_countReading G h0 h1 h2 h3 h4 y0_2 y0_3 a1 a2 (upd (upd a3 x4_0.toNatClampNeg ((a3 x4_0.toNatClampNeg) + (1 : Int32))) (6 : Int32).toNatClampNeg (((upd a3 x4_0.toNatClampNeg ((a3 x4_0.toNatClampNeg) + (1 : Int32))) (6 : Int32).toNatClampNeg) + (1 : Int32))) x4_0 x4_1 x4_2) H := hP
    have hD : va_D A (wW_X9_countReading G h0 h1 h2 h3 h4 y0_2 y0_3 a1 a2 (upd (upd a3 x4_0.toNatClampNeg ((a3 x4_0.toNatClampNeg) + (1 : Int32))) (6 : Int32).toNatClampNeg (((upd a3 x4_0.toNatClampNeg ((a3 x4_0.toNatClampNeg) + (1 : Int32))) (6 : Int32).toNatClampNeg) + (1 : Int32))) x4_0 x4_1 x4_2) := hD
    cases hf
    exact ret_v hx hb hr hlk hK hP hD hS dX9_countReading_45
theorem yk_X9_countReading : ykV yX9_countReading RX9 cX9_countReading 3 none 2 := ⟨wd_860, wd_28, wd_134, wd_861, rfl, by decide +kernel, by decide +kernel, by decide +kernel⟩
theorem dX9_writePart_0 : decode cX9_writePart 0 = .ok (.aload_n 0, 1) := by decide +kernel
theorem dX9_writePart_1 : decode cX9_writePart 1 = .ok (.iload_n 2, 1) := by decide +kernel
theorem dX9_writePart_2 : decode cX9_writePart 2 = .ok (.aload 5, 2) := by decide +kernel
theorem dX9_writePart_4 : decode cX9_writePart 4 = .ok (.invokevirtual 52, 3) := by decide +kernel
theorem dX9_writePart_7 : decode cX9_writePart 7 = .ok (.aload_n 0, 1) := by decide +kernel
theorem dX9_writePart_8 : decode cX9_writePart 8 = .ok (.getfield 9, 3) := by decide +kernel
theorem dX9_writePart_11 : decode cX9_writePart 11 = .ok (.iload_n 2, 1) := by decide +kernel
theorem dX9_writePart_12 : decode cX9_writePart 12 = .ok (.iaload, 1) := by decide +kernel
theorem dX9_writePart_13 : decode cX9_writePart 13 = .ok (.aload 5, 2) := by decide +kernel
theorem dX9_writePart_15 : decode cX9_writePart 15 = .ok (.getfield 56, 3) := by decide +kernel
theorem dX9_writePart_18 : decode cX9_writePart 18 = .ok (.ixor, 1) := by decide +kernel
theorem dX9_writePart_19 : decode cX9_writePart 19 = .ok (.istore 6, 2) := by decide +kernel
theorem dX9_writePart_21 : decode cX9_writePart 21 = .ok (.aload_n 0, 1) := by decide +kernel
theorem dX9_writePart_22 : decode cX9_writePart 22 = .ok (.getfield 15, 3) := by decide +kernel
theorem dX9_writePart_25 : decode cX9_writePart 25 = .ok (.iload_n 2, 1) := by decide +kernel
theorem dX9_writePart_26 : decode cX9_writePart 26 = .ok (.aload_n 1, 1) := by decide +kernel
theorem dX9_writePart_27 : decode cX9_writePart 27 = .ok (.aload_n 0, 1) := by decide +kernel
theorem dX9_writePart_28 : decode cX9_writePart 28 = .ok (.getfield 15, 3) := by decide +kernel
theorem dX9_writePart_31 : decode cX9_writePart 31 = .ok (.iload_n 2, 1) := by decide +kernel
theorem dX9_writePart_32 : decode cX9_writePart 32 = .ok (.iaload, 1) := by decide +kernel
theorem dX9_writePart_33 : decode cX9_writePart 33 = .ok (.iload_n 3, 1) := by decide +kernel
theorem dX9_writePart_34 : decode cX9_writePart 34 = .ok (.iconst (-1), 1) := by decide +kernel
theorem dX9_writePart_35 : decode cX9_writePart 35 = .ok (.ixor, 1) := by decide +kernel
theorem dX9_writePart_36 : decode cX9_writePart 36 = .ok (.iand, 1) := by decide +kernel
theorem dX9_writePart_37 : decode cX9_writePart 37 = .ok (.iload 4, 2) := by decide +kernel
theorem dX9_writePart_39 : decode cX9_writePart 39 = .ok (.iload_n 3, 1) := by decide +kernel
theorem dX9_writePart_40 : decode cX9_writePart 40 = .ok (.iand, 1) := by decide +kernel
theorem dX9_writePart_41 : decode cX9_writePart 41 = .ok (.ior, 1) := by decide +kernel
theorem dX9_writePart_42 : decode cX9_writePart 42 = .ok (.invokevirtual 43, 3) := by decide +kernel
theorem dX9_writePart_45 : decode cX9_writePart 45 = .ok (.iastore, 1) := by decide +kernel
theorem dX9_writePart_46 : decode cX9_writePart 46 = .ok (.aload_n 0, 1) := by decide +kernel
theorem dX9_writePart_47 : decode cX9_writePart 47 = .ok (.aload_n 1, 1) := by decide +kernel
theorem dX9_writePart_48 : decode cX9_writePart 48 = .ok (.iload_n 2, 1) := by decide +kernel
theorem dX9_writePart_49 : decode cX9_writePart 49 = .ok (.aload_n 1, 1) := by decide +kernel
theorem dX9_writePart_50 : decode cX9_writePart 50 = .ok (.iload 6, 2) := by decide +kernel
theorem dX9_writePart_52 : decode cX9_writePart 52 = .ok (.iload_n 3, 1) := by decide +kernel
theorem dX9_writePart_53 : decode cX9_writePart 53 = .ok (.iconst (-1), 1) := by decide +kernel
theorem dX9_writePart_54 : decode cX9_writePart 54 = .ok (.ixor, 1) := by decide +kernel
theorem dX9_writePart_55 : decode cX9_writePart 55 = .ok (.iand, 1) := by decide +kernel
theorem dX9_writePart_56 : decode cX9_writePart 56 = .ok (.iload 4, 2) := by decide +kernel
theorem dX9_writePart_58 : decode cX9_writePart 58 = .ok (.iload_n 3, 1) := by decide +kernel
theorem dX9_writePart_59 : decode cX9_writePart 59 = .ok (.iand, 1) := by decide +kernel
theorem dX9_writePart_60 : decode cX9_writePart 60 = .ok (.ior, 1) := by decide +kernel
theorem dX9_writePart_61 : decode cX9_writePart 61 = .ok (.invokevirtual 43, 3) := by decide +kernel
theorem dX9_writePart_64 : decode cX9_writePart 64 = .ok (.invokevirtual 49, 3) := by decide +kernel
theorem dX9_writePart_67 : decode cX9_writePart 67 = .ok (.return_, 1) := by decide +kernel
def wW_X9_writePart (G : GG) (h0 h1 h2 h3 h4 h5 h6 h7 h8 y6_4 y6_5 : Nat) (a1 : Nat → Int32) (a2 : Nat → Int32) (a3 : Nat → Int32) (a4 : Nat → Int32) (a5 : Nat → Int32) (x6_0 : Int32) (x6_1 : Int32) (x6_2 : Int32) (a7 : Nat → Int32) (x8_0 : Int32) (x8_1 : Int32) (x8_2 : Int32) : va_W := [(h0, .inr (9, [.ref h1, .ref h2, .ref h3, .ref h4, .ref h5])), (h1, .inl (G.2.1, 16, .inl a1)), (h2, .inl (G.2.1, 16, .inl a2)), (h3, .inl (G.2.1, 16, .inl a3)), (h4, .inl (G.2.1, 16, .inl a4)), (h5, .inl (G.2.1, 8, .inl a5)), (h6, .inr (1, [.int x6_0, .int x6_1, .int x6_2, .ref h7, .ref y6_4, .ref y6_5])), (h7, .inl (G.2.1, 32, .inl a7)), (h8, .inr (2, [.int x8_0, .int x8_1, .int x8_2]))]
set_option maxHeartbeats 4000000 in
set_option maxRecDepth 100000 in
theorem c_X9_writePart (l : Launch) (G : GG) (h0 h1 h2 h3 h4 h5 h6 h7 h8 y6_4 y6_5 : Nat) (sz : Nat) (a1 : Nat → Int32) (a2 : Nat → Int32) (a3 : Nat → Int32) (a4 : Nat → Int32) (a5 : Nat → Int32) (x6_0 : Int32) (x6_1 : Int32) (x6_2 : Int32) (a7 : Nat → Int32) (x8_0 : Int32) (x8_1 : Int32) (x8_2 : Int32) (F : Nat) (b2 : Int32) (b3 : Int32) (b4 : Int32)  (e_a1 : Nat → Int32) (e_a2 : Nat → Int32) (e_a4 : Nat → Int32) (e_a5 : Nat → Int32) (hf : p_X9_writePart F a1 a2 a3 a4 a5 x6_0 x6_1 a7 x8_0 x8_2 b2 b3 b4 = some (e_a1, e_a2, e_a4, e_a5)) : Met l yX9_writePart (.code yX9_writePart cX9_writePart 7 none :: gtbl) ({ frames := 3, cells := 0, slots := 0, locals := 68 } : Room) (PcS G [.ref h0, .ref h6, .int b2, .int b3, .int b4, .ref h8] (wW_X9_writePart G h0 h1 h2 h3 h4 h5 h6 h7 h8 y6_4 y6_5 a1 a2 a3 a4 a5 x6_0 x6_1 x6_2 a7 x8_0 x8_1 x8_2) sz) (QvS G (va_A (wW_X9_writePart G h0 h1 h2 h3 h4 h5 h6 h7 h8 y6_4 y6_5 a1 a2 a3 a4 a5 x6_0 x6_1 x6_2 a7 x8_0 x8_1 x8_2) sz) (wW_X9_writePart G h0 h1 h2 h3 h4 h5 h6 h7 h8 y6_4 y6_5 e_a1 e_a2 a3 e_a4 e_a5 x6_0 x6_1 x6_2 a7 x8_0 x8_1 x8_2)) 0 0 (va_A (wW_X9_writePart G h0 h1 h2 h3 h4 h5 h6 h7 h8 y6_4 y6_5 a1 a2 a3 a4 a5 x6_0 x6_1 x6_2 a7 x8_0 x8_1 x8_2) sz) := by
  refine met_start (by decide) (Nat.le_of_ble_eq_true rfl) ?_
  intro p e s m below meth c hC hr hlk hnm hK hP hD hA hS hX ls hl
  obtain ⟨hx, hb, hml, hown, ht0⟩ := hC
  have hown : s.vm.findClass RX9 = some m.cls := hown
  generalize va_A (wW_X9_writePart G h0 h1 h2 h3 h4 h5 h6 h7 h8 y6_4 y6_5 a1 a2 a3 a4 a5 x6_0 x6_1 x6_2 a7 x8_0 x8_1 x8_2) sz = A at hD hA hS hX ⊢
  have hl : lv_has ls 7 [(0, .ref h0), (1, .ref h6), (2, .int b2), (3, .int b3), (4, .int b4), (5, .ref h8)] := hl
  have hf : p_X9_writePart F a1 a2 a3 a4 a5 x6_0 x6_1 a7 x8_0 x8_2 b2 b3 b4 = some (e_a1, e_a2, e_a4, e_a5) := hf
  refine lv_aload_n hx hb dX9_writePart_0 rfl (lv_at hl 0 rfl) ?_
  refine lv_iload_n hx hb dX9_writePart_1 rfl (lv_at hl 2 rfl) ?_
  refine lv_aload hx hb dX9_writePart_2 (lv_at hl 5 rfl) ?_
  obtain ⟨r_4_0_a3, hc_r_4_0, hf⟩ := of_bnd hf
  refine cl_Vv (w2 := (wW_X9_writePart G h0 h1 h2 h3 h4 h5 h6 h7 h8 y6_4 y6_5 a1 a2 a3 a4 r_4_0_a3 x6_0 x6_1 x6_2 a7 x8_0 x8_1 x8_2)) (As := [.int b2, .ref h8]) (rest := []) ⟨hx, hb, hml, hown, ht0⟩ (c_X9_countReading l G h0 h1 h2 h5 h8 h3 h4 _ a1 a2 a5 x8_0 x8_1 x8_2 F b2 _ hc_r_4_0) yk_X9_countReading wd_858 ⟨rfl, rfl, by decide, by decide⟩ ⟨Nat.le_refl _, Nat.le_refl _⟩ hX hK hP hD hS hA [0, 1, 2, 5, 8] [3, 4, 6, 7] [4, 5, 6, 0, 1, 7, 2, 3, 8] (va_recv hK hP (ci := 9) (q0 := 0) rfl rfl) rfl rfl (by decide) rfl rfl rfl rfl rfl hl.1 rfl (Nat.le_of_ble_eq_true rfl) dX9_writePart_4 (fun H locs hP hD hS => ?_)
  refine lv_aload_n hx hb dX9_writePart_7 rfl (lv_at hl 0 rfl) ?_
  refine va_get (ci := 9) (v := .ref h1) (C := RX9) (T := TX9) (N := 5) hx hb ht0 iX9 hown hK hP 0 rfl rfl 0 (by decide) (ht0 _ wd_320) (fun _ h9 => h9) rfl dX9_writePart_8 ?_
  refine lv_iload_n hx hb dX9_writePart_11 rfl (lv_at hl 2 rfl) ?_
  obtain ⟨g2, hf⟩ := of_grd hf
  refine va_iald hx hb hK hP 1 0 rfl rfl g2 dX9_writePart_12 ?_
  refine lv_aload hx hb dX9_writePart_13 (lv_at hl 5 rfl) ?_
  refine va_get (ci := 2) (v := .int x8_2) (C := RX2) (T := TX2) (N := 3) hx hb ht0 iX2 hown hK hP 8 rfl rfl 2 (by decide) (ht0 _ wd_376) (fun _ h9 => h9) rfl dX9_writePart_15 ?_
  refine lv_ixor hx hb dX9_writePart_18 ?_
  refine lv_istore (lv' := [(6, .int ((a1 b2.toNatClampNeg) ^^^ x8_2)), (0, .ref h0), (1, .ref h6), (2, .int b2), (3, .int b3), (4, .int b4), (5, .ref h8)]) hx hb dX9_writePart_19 hl (by decide) rfl (fun ls hl => ?_)
  refine lv_aload_n hx hb dX9_writePart_21 rfl (lv_at hl 1 rfl) ?_
  refine va_get (ci := 9) (v := .ref h2) (C := RX9) (T := TX9) (N := 5) hx hb ht0 iX9 hown hK hP 0 rfl rfl 1 (by decide) (ht0 _ wd_322) (fun _ h9 => h9) rfl dX9_writePart_22 ?_
  refine lv_iload_n hx hb dX9_writePart_25 rfl (lv_at hl 3 rfl) ?_
  refine lv_aload_n hx hb dX9_writePart_26 rfl (lv_at hl 2 rfl) ?_
  refine lv_aload_n hx hb dX9_writePart_27 rfl (lv_at hl 1 rfl) ?_
  refine va_get (ci := 9) (v := .ref h2) (C := RX9) (T := TX9) (N := 5) hx hb ht0 iX9 hown hK hP 0 rfl rfl 1 (by decide) (ht0 _ wd_322) (fun _ h9 => h9) rfl dX9_writePart_28 ?_
  refine lv_iload_n hx hb dX9_writePart_31 rfl (lv_at hl 3 rfl) ?_
  obtain ⟨g3, hf⟩ := of_grd hf
  refine va_iald hx hb hK hP 2 0 rfl rfl g3 dX9_writePart_32 ?_
  refine lv_iload_n hx hb dX9_writePart_33 rfl (lv_at hl 4 rfl) ?_
  refine lv_iconst (v := (-1 : Int32)) hx hb dX9_writePart_34 (by decide) ?_
  refine lv_ixor hx hb dX9_writePart_35 ?_
  refine lv_iand hx hb dX9_writePart_36 ?_
  refine lv_iload hx hb dX9_writePart_37 (lv_at hl 5 rfl) ?_
  refine lv_iload_n hx hb dX9_writePart_39 rfl (lv_at hl 4 rfl) ?_
  refine lv_iand hx hb dX9_writePart_40 ?_
  refine lv_ior hx hb dX9_writePart_41 ?_
  obtain ⟨r_42_3, hc_r_42_3, hf⟩ := of_bnd hf
  refine cl_Vi (w2 := (wW_X9_writePart G h0 h1 h2 h3 h4 h5 h6 h7 h8 y6_4 y6_5 a1 a2 a3 a4 r_4_0_a3 x6_0 x6_1 x6_2 a7 x8_0 x8_1 x8_2)) (As := [.int (((a2 b2.toNatClampNeg) &&& (b3 ^^^ (-1 : Int32))) ||| (b4 &&& b3))]) (rest := [.int b2, .ref h2]) ⟨hx, hb, hml, hown, ht0⟩ (c_X1_wholeOf l G h6 h7 y6_4 y6_5 _ x6_0 x6_1 x6_2 a7 F (((a2 b2.toNatClampNeg) &&& (b3 ^^^ (-1 : Int32))) ||| (b4 &&& b3)) _ hc_r_42_3) yk_X1_wholeOf wd_767 ⟨rfl, rfl, by decide, by decide⟩ ⟨Nat.le_refl _, Nat.le_refl _⟩ hX hK hP hD hS hA [6, 7] [0, 1, 2, 3, 4, 5, 8] [0, 1, 2, 3, 4, 5, 7, 8, 6] (va_recv hK hP (ci := 1) (q0 := 6) rfl rfl) rfl rfl (by decide) rfl rfl rfl rfl rfl hl.1 rfl (Nat.le_of_ble_eq_true rfl) dX9_writePart_42 (fun H locs hP hD hS => ?_)
  obtain ⟨g5, hf⟩ := of_grd hf
  refine va_iast hx hb hK hP hD hS 2 0 rfl rfl g5 dX9_writePart_45 (fun H locs hP hD hS => ?_)
  have hP : va_P G.1 vwCl (wW_X9_writePart G h0 h1 h2 h3 h4 h5 h6 h7 h8 y6_4 y6_5 a1 (upd a2 b2.toNatClampNeg r_42_3) a3 a4 r_4_0_a3 x6_0 x6_1 x6_2 a7 x8_0 x8_1 x8_2) H := hP
  have hD : va_D A (wW_X9_writePart G h0 h1 h2 h3 h4 h5 h6 h7 h8 y6_4 y6_5 a1 (upd a2 b2.toNatClampNeg r_42_3) a3 a4 r_4_0_a3 x6_0 x6_1 x6_2 a7 x8_0 x8_1 x8_2) := hD
  refine lv_aload_n hx hb dX9_writePart_46 rfl (lv_at hl 1 rfl) ?_
  refine lv_aload_n hx hb dX9_writePart_47 rfl (lv_at hl 2 rfl) ?_
  refine lv_iload_n hx hb dX9_writePart_48 rfl (lv_at hl 3 rfl) ?_
  refine lv_aload_n hx hb dX9_writePart_49 rfl (lv_at hl 2 rfl) ?_
  refine lv_iload hx hb dX9_writePart_50 (lv_at hl 0 rfl) ?_
  refine lv_iload_n hx hb dX9_writePart_52 rfl (lv_at hl 4 rfl) ?_
  refine lv_iconst (v := (-1 : Int32)) hx hb dX9_writePart_53 (by decide) ?_
  refine lv_ixor hx hb dX9_writePart_54 ?_
  refine lv_iand hx hb dX9_writePart_55 ?_
  refine lv_iload hx hb dX9_writePart_56 (lv_at hl 5 rfl) ?_
  refine lv_iload_n hx hb dX9_writePart_58 rfl (lv_at hl 4 rfl) ?_
  refine lv_iand hx hb dX9_writePart_59 ?_
  refine lv_ior hx hb dX9_writePart_60 ?_
  obtain ⟨r_61_5, hc_r_61_5, hf⟩ := of_bnd hf
  refine cl_Vi (w2 := (wW_X9_writePart G h0 h1 h2 h3 h4 h5 h6 h7 h8 y6_4 y6_5 a1 (upd a2 b2.toNatClampNeg r_42_3) a3 a4 r_4_0_a3 x6_0 x6_1 x6_2 a7 x8_0 x8_1 x8_2)) (As := [.int ((((a1 b2.toNatClampNeg) ^^^ x8_2) &&& (b3 ^^^ (-1 : Int32))) ||| (b4 &&& b3))]) (rest := [.int b2, .ref h6, .ref h0]) ⟨hx, hb, hml, hown, ht0⟩ (c_X1_wholeOf l G h6 h7 y6_4 y6_5 _ x6_0 x6_1 x6_2 a7 F ((((a1 b2.toNatClampNeg) ^^^ x8_2) &&& (b3 ^^^ (-1 : Int32))) ||| (b4 &&& b3)) _ hc_r_61_5) yk_X1_wholeOf wd_767 ⟨rfl, rfl, by decide, by decide⟩ ⟨Nat.le_refl _, Nat.le_refl _⟩ hX hK hP hD hS hA [6, 7] [0, 1, 2, 3, 4, 5, 8] [0, 1, 2, 3, 4, 5, 7, 8, 6] (va_recv hK hP (ci := 1) (q0 := 6) rfl rfl) rfl rfl (by decide) rfl rfl rfl rfl rfl hl.1 rfl (Nat.le_of_ble_eq_true rfl) dX9_writePart_61 (fun H locs hP hD hS => ?_)
  obtain ⟨⟨r_64_6_a1, r_64_6_a3⟩, hc_r_64_6, hf⟩ := of_bnd hf
  refine cl_Vv (w2 := (wW_X9_writePart G h0 h1 h2 h3 h4 h5 h6 h7 h8 y6_4 y6_5 r_64_6_a1 (upd a2 b2.toNatClampNeg r_42_3) a3 r_64_6_a3 r_4_0_a3 x6_0 x6_1 x6_2 a7 x8_0 x8_1 x8_2)) (As := [.ref h6, .int b2, .int r_61_5]) (rest := []) ⟨hx, hb, hml, hown, ht0⟩ (c_X9_putBits l G h0 h1 h3 h4 h6 h7 h2 h5 y6_4 y6_5 _ a1 a3 a4 x6_0 x6_1 x6_2 a7 F b2 r_61_5 _ _ hc_r_64_6) yk_X9_putBits wd_776 ⟨rfl, rfl, by decide, by decide⟩ ⟨Nat.le_refl _, Nat.le_refl _⟩ hX hK hP hD hS hA [0, 1, 3, 4, 6, 7] [2, 5, 8] [3, 4, 0, 5, 6, 1, 7, 8, 2] (va_recv hK hP (ci := 9) (q0 := 0) rfl rfl) rfl rfl (by decide) rfl rfl rfl rfl rfl hl.1 rfl (Nat.le_of_ble_eq_true rfl) dX9_writePart_64 (fun H locs hP hD hS => ?_)
  cases hf
  exact ret_v hx hb hr hlk hK hP hD hS dX9_writePart_67
theorem yk_X9_writePart : ykV yX9_writePart RX9 cX9_writePart 7 none 5 := ⟨wd_855, wd_856, wd_134, wd_857, rfl, by decide +kernel, by decide +kernel, by decide +kernel⟩
theorem dX9_turnPlaces_0 : decode cX9_turnPlaces 0 = .ok (.iload_n 3, 1) := by decide +kernel
theorem dX9_turnPlaces_1 : decode cX9_turnPlaces 1 = .ok (.aload_n 0, 1) := by decide +kernel
theorem dX9_turnPlaces_2 : decode cX9_turnPlaces 2 = .ok (.getfield 18, 3) := by decide +kernel
theorem dX9_turnPlaces_5 : decode cX9_turnPlaces 5 = .ok (.iload_n 2, 1) := by decide +kernel
theorem dX9_turnPlaces_6 : decode cX9_turnPlaces 6 = .ok (.iaload, 1) := by decide +kernel
theorem dX9_turnPlaces_7 : decode cX9_turnPlaces 7 = .ok (.iconst (-1), 1) := by decide +kernel
theorem dX9_turnPlaces_8 : decode cX9_turnPlaces 8 = .ok (.ixor, 1) := by decide +kernel
theorem dX9_turnPlaces_9 : decode cX9_turnPlaces 9 = .ok (.iand, 1) := by decide +kernel
theorem dX9_turnPlaces_10 : decode cX9_turnPlaces 10 = .ok (.istore 4, 2) := by decide +kernel
theorem dX9_turnPlaces_12 : decode cX9_turnPlaces 12 = .ok (.iload 4, 2) := by decide +kernel
theorem dX9_turnPlaces_14 : decode cX9_turnPlaces 14 = .ok (.ifCond .eq 29, 3) := by decide +kernel
theorem dX9_turnPlaces_17 : decode cX9_turnPlaces 17 = .ok (.aload_n 0, 1) := by decide +kernel
theorem dX9_turnPlaces_18 : decode cX9_turnPlaces 18 = .ok (.getfield 9, 3) := by decide +kernel
theorem dX9_turnPlaces_21 : decode cX9_turnPlaces 21 = .ok (.iload_n 2, 1) := by decide +kernel
theorem dX9_turnPlaces_22 : decode cX9_turnPlaces 22 = .ok (.dup2, 1) := by decide +kernel
theorem dX9_turnPlaces_23 : decode cX9_turnPlaces 23 = .ok (.iaload, 1) := by decide +kernel
theorem dX9_turnPlaces_24 : decode cX9_turnPlaces 24 = .ok (.iload 4, 2) := by decide +kernel
theorem dX9_turnPlaces_26 : decode cX9_turnPlaces 26 = .ok (.ixor, 1) := by decide +kernel
theorem dX9_turnPlaces_27 : decode cX9_turnPlaces 27 = .ok (.iastore, 1) := by decide +kernel
theorem dX9_turnPlaces_28 : decode cX9_turnPlaces 28 = .ok (.aload_n 0, 1) := by decide +kernel
theorem dX9_turnPlaces_29 : decode cX9_turnPlaces 29 = .ok (.getfield 21, 3) := by decide +kernel
theorem dX9_turnPlaces_32 : decode cX9_turnPlaces 32 = .ok (.iload_n 2, 1) := by decide +kernel
theorem dX9_turnPlaces_33 : decode cX9_turnPlaces 33 = .ok (.dup2, 1) := by decide +kernel
theorem dX9_turnPlaces_34 : decode cX9_turnPlaces 34 = .ok (.iaload, 1) := by decide +kernel
theorem dX9_turnPlaces_35 : decode cX9_turnPlaces 35 = .ok (.aload_n 1, 1) := by decide +kernel
theorem dX9_turnPlaces_36 : decode cX9_turnPlaces 36 = .ok (.iload 4, 2) := by decide +kernel
theorem dX9_turnPlaces_38 : decode cX9_turnPlaces 38 = .ok (.invokevirtual 62, 3) := by decide +kernel
theorem dX9_turnPlaces_41 : decode cX9_turnPlaces 41 = .ok (.ixor, 1) := by decide +kernel
theorem dX9_turnPlaces_42 : decode cX9_turnPlaces 42 = .ok (.iastore, 1) := by decide +kernel
theorem dX9_turnPlaces_43 : decode cX9_turnPlaces 43 = .ok (.iload 4, 2) := by decide +kernel
theorem dX9_turnPlaces_45 : decode cX9_turnPlaces 45 = .ok (.invokestatic 65, 3) := by decide +kernel
theorem dX9_turnPlaces_48 : decode cX9_turnPlaces 48 = .ok (.ireturn, 1) := by decide +kernel
def wW_X9_turnPlaces (G : GG) (h0 h1 h2 h3 h4 h5 y0_1 y0_4 y4_4 y4_5 : Nat) (a1 : Nat → Int32) (a2 : Nat → Int32) (a3 : Nat → Int32) (x4_0 : Int32) (x4_1 : Int32) (x4_2 : Int32) (a5 : Nat → Int32) : va_W := [(h0, .inr (9, [.ref h1, .ref y0_1, .ref h2, .ref h3, .ref y0_4])), (h1, .inl (G.2.1, 16, .inl a1)), (h2, .inl (G.2.1, 16, .inl a2)), (h3, .inl (G.2.1, 16, .inl a3)), (h4, .inr (1, [.int x4_0, .int x4_1, .int x4_2, .ref h5, .ref y4_4, .ref y4_5])), (h5, .inl (G.2.1, 32, .inl a5))]
set_option maxHeartbeats 4000000 in
set_option maxRecDepth 100000 in
theorem c_X9_turnPlaces (l : Launch) (G : GG) (h0 h1 h2 h3 h4 h5 y0_1 y0_4 y4_4 y4_5 : Nat) (sz : Nat) (a1 : Nat → Int32) (a2 : Nat → Int32) (a3 : Nat → Int32) (x4_0 : Int32) (x4_1 : Int32) (x4_2 : Int32) (a5 : Nat → Int32) (F : Nat) (b2 : Int32) (b3 : Int32)  (r0 : Int32) (e_a1 : Nat → Int32) (e_a3 : Nat → Int32) (hf : p_X9_turnPlaces F a1 a2 a3 x4_0 x4_1 a5 b2 b3 = some (r0, e_a1, e_a3)) : Met l yX9_turnPlaces (.code yX9_turnPlaces cX9_turnPlaces 5 (some .int) :: gtbl) ({ frames := 2, cells := 0, slots := 0, locals := 44 } : Room) (PcS G [.ref h0, .ref h4, .int b2, .int b3] (wW_X9_turnPlaces G h0 h1 h2 h3 h4 h5 y0_1 y0_4 y4_4 y4_5 a1 a2 a3 x4_0 x4_1 x4_2 a5) sz) (QiS G r0 (va_A (wW_X9_turnPlaces G h0 h1 h2 h3 h4 h5 y0_1 y0_4 y4_4 y4_5 a1 a2 a3 x4_0 x4_1 x4_2 a5) sz) (wW_X9_turnPlaces G h0 h1 h2 h3 h4 h5 y0_1 y0_4 y4_4 y4_5 e_a1 a2 e_a3 x4_0 x4_1 x4_2 a5)) 0 0 (va_A (wW_X9_turnPlaces G h0 h1 h2 h3 h4 h5 y0_1 y0_4 y4_4 y4_5 a1 a2 a3 x4_0 x4_1 x4_2 a5) sz) := by
  refine met_start (by decide) (Nat.le_of_ble_eq_true rfl) ?_
  intro p e s m below meth c hC hr hlk hnm hK hP hD hA hS hX ls hl
  obtain ⟨hx, hb, hml, hown, ht0⟩ := hC
  have hown : s.vm.findClass RX9 = some m.cls := hown
  generalize va_A (wW_X9_turnPlaces G h0 h1 h2 h3 h4 h5 y0_1 y0_4 y4_4 y4_5 a1 a2 a3 x4_0 x4_1 x4_2 a5) sz = A at hD hA hS hX ⊢
  have hl : lv_has ls 5 [(0, .ref h0), (1, .ref h4), (2, .int b2), (3, .int b3)] := hl
  have hf : p_X9_turnPlaces F a1 a2 a3 x4_0 x4_1 a5 b2 b3 = some (r0, e_a1, e_a3) := hf
  have kJ43 : ∀ (u43_4 : Int32) (a1_43 : Nat → Int32) (a3_43 : Nat → Int32), p_X9_turnPlaces_J43 F a2 x4_0 x4_1 a5 u43_4 a1_43 a3_43 = some (r0, e_a1, e_a3) → ∀ (H : Heap) (locs : List Loc), va_P G.1 vwCl (wW_X9_turnPlaces G h0 h1 h2 h3 h4 h5 y0_1 y0_4 y4_4 y4_5 a1_43 a2 a3_43 x4_0 x4_1 x4_2 a5) H → va_D A (wW_X9_turnPlaces G h0 h1 h2 h3 h4 h5 y0_1 y0_4 y4_4 y4_5 a1_43 a2 a3_43 x4_0 x4_1 x4_2 a5) → va_S A s.heap H locs → ∀ ls : Array Slot, lv_has ls 5 [(4, .int u43_4)] → W p l e ({ frames := 2, cells := 0, slots := 0, locals := 44 } : Room) s m (List.toArray [.ref h0, .ref h4, .int b2, .int b3]) below meth c H locs 0 0 (MQ below (QiS G r0 A (wW_X9_turnPlaces G h0 h1 h2 h3 h4 h5 y0_1 y0_4 y4_4 y4_5 e_a1 a2 e_a3 x4_0 x4_1 x4_2 a5)) (List.toArray [.ref h0, .ref h4, .int b2, .int b3]) s 0 0 A) (F0 m 43 ls []) := by
    intro u43_4 a1_43 a3_43 hf H locs hP hD hS ls hl
    refine lv_iload hx hb dX9_turnPlaces_43 (lv_at hl 0 rfl) ?_
    obtain ⟨r_45_0, hc_r_45_0, hf⟩ := of_bnd hf
    refine cl_Si (w2 := (wW_X9_turnPlaces G h0 h1 h2 h3 h4 h5 y0_1 y0_4 y4_4 y4_5 a1_43 a2 a3_43 x4_0 x4_1 x4_2 a5)) (As := [.int u43_4]) (rest := []) ⟨hx, hb, hml, hown, ht0⟩ (c_J6_bitCount_0f7a4 l G _ F u43_4 _ hc_r_45_0) yk_J6_bitCount_0f7a4 wd_879 ⟨rfl, rfl, by decide, by decide⟩ ⟨Nat.le_refl _, Nat.le_refl _⟩ hX hK hP hD hS hA [] [0, 1, 2, 3, 4, 5] [0, 1, 2, 3, 4, 5] rfl rfl (by decide) rfl rfl rfl rfl rfl hl.1 rfl (Nat.le_of_ble_eq_true rfl) dX9_turnPlaces_45 (fun H locs hP hD hS => ?_)
    cases hf
    exact ret_i hx hb hr hlk hK hP hD hS dX9_turnPlaces_48
  refine lv_iload_n hx hb dX9_turnPlaces_0 rfl (lv_at hl 3 rfl) ?_
  refine lv_aload_n hx hb dX9_turnPlaces_1 rfl (lv_at hl 0 rfl) ?_
  refine va_get (ci := 9) (v := .ref h2) (C := RX9) (T := TX9) (N := 5) hx hb ht0 iX9 hown hK hP 0 rfl rfl 2 (by decide) (ht0 _ wd_324) (fun _ h9 => h9) rfl dX9_turnPlaces_2 ?_
  refine lv_iload_n hx hb dX9_turnPlaces_5 rfl (lv_at hl 2 rfl) ?_
  obtain ⟨g2, hf⟩ := of_grd hf
  refine va_iald hx hb hK hP 2 0 rfl rfl g2 dX9_turnPlaces_6 ?_
  refine lv_iconst (v := (-1 : Int32)) hx hb dX9_turnPlaces_7 (by decide) ?_
  refine lv_ixor hx hb dX9_turnPlaces_8 ?_
  refine lv_iand hx hb dX9_turnPlaces_9 ?_
  refine lv_topi (fun z3 ez3 => ?_)
  have hf := of_jlet hf ez3
  refine lv_istore (lv' := [(4, .int z3), (0, .ref h0), (1, .ref h4), (2, .int b2), (3, .int b3)]) hx hb dX9_turnPlaces_10 hl (by decide) rfl (fun ls hl => ?_)
  refine lv_iload hx hb dX9_turnPlaces_12 (lv_at hl 0 rfl) ?_
  refine lv_if_eq (tgt := 43) hx hb dX9_turnPlaces_14 (by decide) (fun c4 => ?_) (fun c4 => ?_)
  · have hf := of_pos hf c4
    exact kJ43 _ _ _ hf _ _ hP hD hS _ (lv_sub hl [0] rfl)
  · have hf := of_neg hf c4
    refine lv_aload_n hx hb dX9_turnPlaces_17 rfl (lv_at hl 1 rfl) ?_
    refine va_get (ci := 9) (v := .ref h1) (C := RX9) (T := TX9) (N := 5) hx hb ht0 iX9 hown hK hP 0 rfl rfl 0 (by decide) (ht0 _ wd_320) (fun _ h9 => h9) rfl dX9_turnPlaces_18 ?_
    refine lv_iload_n hx hb dX9_turnPlaces_21 rfl (lv_at hl 3 rfl) ?_
    refine lv_dup2_11 hx hb dX9_turnPlaces_22 rfl rfl ?_
    obtain ⟨g5, hf⟩ := of_grd hf
    refine va_iald hx hb hK hP 1 0 rfl rfl g5 dX9_turnPlaces_23 ?_
    refine lv_iload hx hb dX9_turnPlaces_24 (lv_at hl 0 rfl) ?_
    refine lv_ixor hx hb dX9_turnPlaces_26 ?_
    obtain ⟨g6, hf⟩ := of_grd hf
    refine va_iast hx hb hK hP hD hS 1 0 rfl rfl g6 dX9_turnPlaces_27 (fun H locs hP hD hS => ?_)
    have hP : va_P G.1 vwCl (wW_X9_turnPlaces G h0 h1 h2 h3 h4 h5 y0_1 y0_4 y4_4 y4_5 (upd a1 b2.toNatClampNeg ((a1 b2.toNatClampNeg) ^^^ z3)) a2 a3 x4_0 x4_1 x4_2 a5) H := hP
    have hD : va_D A (wW_X9_turnPlaces G h0 h1 h2 h3 h4 h5 y0_1 y0_4 y4_4 y4_5 (upd a1 b2.toNatClampNeg ((a1 b2.toNatClampNeg) ^^^ z3)) a2 a3 x4_0 x4_1 x4_2 a5) := hD
    refine lv_aload_n hx hb dX9_turnPlaces_28 rfl (lv_at hl 1 rfl) ?_
    refine va_get (ci := 9) (v := .ref h3) (C := RX9) (T := TX9) (N := 5) hx hb ht0 iX9 hown hK hP 0 rfl rfl 3 (by decide) (ht0 _ wd_326) (fun _ h9 => h9) rfl dX9_turnPlaces_29 ?_
    refine lv_iload_n hx hb dX9_turnPlaces_32 rfl (lv_at hl 3 rfl) ?_
    refine lv_dup2_11 hx hb dX9_turnPlaces_33 rfl rfl ?_
    obtain ⟨g7, hf⟩ := of_grd hf
    refine va_iald hx hb hK hP 3 0 rfl rfl g7 dX9_turnPlaces_34 ?_
    refine lv_aload_n hx hb dX9_turnPlaces_35 rfl (lv_at hl 2 rfl) ?_
    refine lv_iload hx hb dX9_turnPlaces_36 (lv_at hl 0 rfl) ?_
    obtain ⟨r_38_7, hc_r_38_7, hf⟩ := of_bnd hf
    refine cl_Vi (w2 := (wW_X9_turnPlaces G h0 h1 h2 h3 h4 h5 y0_1 y0_4 y4_4 y4_5 (upd a1 b2.toNatClampNeg ((a1 b2.toNatClampNeg) ^^^ z3)) a2 a3 x4_0 x4_1 x4_2 a5)) (As := [.int z3]) (rest := [.int (a3 b2.toNatClampNeg), .int b2, .ref h3]) ⟨hx, hb, hml, hown, ht0⟩ (c_X1_syndromeOf l G h4 h5 y4_4 y4_5 _ x4_0 x4_1 x4_2 a5 F z3 _ hc_r_38_7) yk_X1_syndromeOf wd_780 ⟨rfl, rfl, by decide, by decide⟩ ⟨Nat.le_refl _, Nat.le_refl _⟩ hX hK hP hD hS hA [4, 5] [0, 1, 2, 3] [0, 1, 2, 3, 4, 5] (va_recv hK hP (ci := 1) (q0 := 4) rfl rfl) rfl rfl (by decide) rfl rfl rfl rfl rfl hl.1 rfl (Nat.le_of_ble_eq_true rfl) dX9_turnPlaces_38 (fun H locs hP hD hS => ?_)
    refine lv_ixor hx hb dX9_turnPlaces_41 ?_
    obtain ⟨g9, hf⟩ := of_grd hf
    refine va_iast hx hb hK hP hD hS 3 0 rfl rfl g9 dX9_turnPlaces_42 (fun H locs hP hD hS => ?_)
    have hP : va_P G.1 vwCl (wW_X9_turnPlaces G h0 h1 h2 h3 h4 h5 y0_1 y0_4 y4_4 y4_5 (upd a1 b2.toNatClampNeg ((a1 b2.toNatClampNeg) ^^^ z3)) a2 (upd a3 b2.toNatClampNeg ((a3 b2.toNatClampNeg) ^^^ r_38_7)) x4_0 x4_1 x4_2 a5) H := hP
    have hD : va_D A (wW_X9_turnPlaces G h0 h1 h2 h3 h4 h5 y0_1 y0_4 y4_4 y4_5 (upd a1 b2.toNatClampNeg ((a1 b2.toNatClampNeg) ^^^ z3)) a2 (upd a3 b2.toNatClampNeg ((a3 b2.toNatClampNeg) ^^^ r_38_7)) x4_0 x4_1 x4_2 a5) := hD
    exact kJ43 _ _ _ hf _ _ hP hD hS _ (lv_sub hl [0] rfl)
theorem yk_X9_turnPlaces : ykV yX9_turnPlaces RX9 cX9_turnPlaces 5 (some .int) 3 := ⟨wd_877, wd_29, wd_134, wd_878, rfl, by decide +kernel, by decide +kernel, by decide +kernel⟩
theorem dX9_slipPlaces_0 : decode cX9_slipPlaces 0 = .ok (.aload_n 0, 1) := by decide +kernel
theorem dX9_slipPlaces_1 : decode cX9_slipPlaces 1 = .ok (.getfield 24, 3) := by decide +kernel
theorem dX9_slipPlaces_4 : decode cX9_slipPlaces 4 = .ok (.bipush 7, 2) := by decide +kernel
theorem dX9_slipPlaces_6 : decode cX9_slipPlaces 6 = .ok (.dup2, 1) := by decide +kernel
theorem dX9_slipPlaces_7 : decode cX9_slipPlaces 7 = .ok (.iaload, 1) := by decide +kernel
theorem dX9_slipPlaces_8 : decode cX9_slipPlaces 8 = .ok (.aload_n 0, 1) := by decide +kernel
theorem dX9_slipPlaces_9 : decode cX9_slipPlaces 9 = .ok (.aload_n 1, 1) := by decide +kernel
theorem dX9_slipPlaces_10 : decode cX9_slipPlaces 10 = .ok (.iload_n 2, 1) := by decide +kernel
theorem dX9_slipPlaces_11 : decode cX9_slipPlaces 11 = .ok (.iload_n 3, 1) := by decide +kernel
theorem dX9_slipPlaces_12 : decode cX9_slipPlaces 12 = .ok (.invokevirtual 70, 3) := by decide +kernel
theorem dX9_slipPlaces_15 : decode cX9_slipPlaces 15 = .ok (.iadd, 1) := by decide +kernel
theorem dX9_slipPlaces_16 : decode cX9_slipPlaces 16 = .ok (.iastore, 1) := by decide +kernel
theorem dX9_slipPlaces_17 : decode cX9_slipPlaces 17 = .ok (.return_, 1) := by decide +kernel
def wW_X9_slipPlaces (G : GG) (h0 h1 h2 h3 h4 h5 h6 y0_1 y5_4 y5_5 : Nat) (a1 : Nat → Int32) (a2 : Nat → Int32) (a3 : Nat → Int32) (a4 : Nat → Int32) (x5_0 : Int32) (x5_1 : Int32) (x5_2 : Int32) (a6 : Nat → Int32) : va_W := [(h0, .inr (9, [.ref h1, .ref y0_1, .ref h2, .ref h3, .ref h4])), (h1, .inl (G.2.1, 16, .inl a1)), (h2, .inl (G.2.1, 16, .inl a2)), (h3, .inl (G.2.1, 16, .inl a3)), (h4, .inl (G.2.1, 8, .inl a4)), (h5, .inr (1, [.int x5_0, .int x5_1, .int x5_2, .ref h6, .ref y5_4, .ref y5_5])), (h6, .inl (G.2.1, 32, .inl a6))]
set_option maxHeartbeats 4000000 in
set_option maxRecDepth 100000 in
theorem c_X9_slipPlaces (l : Launch) (G : GG) (h0 h1 h2 h3 h4 h5 h6 y0_1 y5_4 y5_5 : Nat) (sz : Nat) (a1 : Nat → Int32) (a2 : Nat → Int32) (a3 : Nat → Int32) (a4 : Nat → Int32) (x5_0 : Int32) (x5_1 : Int32) (x5_2 : Int32) (a6 : Nat → Int32) (F : Nat) (b2 : Int32) (b3 : Int32)  (e_a1 : Nat → Int32) (e_a3 : Nat → Int32) (e_a4 : Nat → Int32) (hf : p_X9_slipPlaces F a1 a2 a3 a4 x5_0 x5_1 a6 b2 b3 = some (e_a1, e_a3, e_a4)) : Met l yX9_slipPlaces (.code yX9_slipPlaces cX9_slipPlaces 4 none :: gtbl) ({ frames := 3, cells := 0, slots := 0, locals := 68 } : Room) (PcS G [.ref h0, .ref h5, .int b2, .int b3] (wW_X9_slipPlaces G h0 h1 h2 h3 h4 h5 h6 y0_1 y5_4 y5_5 a1 a2 a3 a4 x5_0 x5_1 x5_2 a6) sz) (QvS G (va_A (wW_X9_slipPlaces G h0 h1 h2 h3 h4 h5 h6 y0_1 y5_4 y5_5 a1 a2 a3 a4 x5_0 x5_1 x5_2 a6) sz) (wW_X9_slipPlaces G h0 h1 h2 h3 h4 h5 h6 y0_1 y5_4 y5_5 e_a1 a2 e_a3 e_a4 x5_0 x5_1 x5_2 a6)) 0 0 (va_A (wW_X9_slipPlaces G h0 h1 h2 h3 h4 h5 h6 y0_1 y5_4 y5_5 a1 a2 a3 a4 x5_0 x5_1 x5_2 a6) sz) := by
  refine met_start (by decide) (Nat.le_of_ble_eq_true rfl) ?_
  intro p e s m below meth c hC hr hlk hnm hK hP hD hA hS hX ls hl
  obtain ⟨hx, hb, hml, hown, ht0⟩ := hC
  have hown : s.vm.findClass RX9 = some m.cls := hown
  generalize va_A (wW_X9_slipPlaces G h0 h1 h2 h3 h4 h5 h6 y0_1 y5_4 y5_5 a1 a2 a3 a4 x5_0 x5_1 x5_2 a6) sz = A at hD hA hS hX ⊢
  have hl : lv_has ls 4 [(0, .ref h0), (1, .ref h5), (2, .int b2), (3, .int b3)] := hl
  have hf : p_X9_slipPlaces F a1 a2 a3 a4 x5_0 x5_1 a6 b2 b3 = some (e_a1, e_a3, e_a4) := hf
  refine lv_aload_n hx hb dX9_slipPlaces_0 rfl (lv_at hl 0 rfl) ?_
  refine va_get (ci := 9) (v := .ref h4) (C := RX9) (T := TX9) (N := 5) hx hb ht0 iX9 hown hK hP 0 rfl rfl 4 (by decide) (ht0 _ wd_328) (fun _ h9 => h9) rfl dX9_slipPlaces_1 ?_
  refine lv_bipush (v := (7 : Int32)) hx hb dX9_slipPlaces_4 (by decide) ?_
  refine lv_dup2_11 hx hb dX9_slipPlaces_6 rfl rfl ?_
  refine va_iald hx hb hK hP 4 0 rfl rfl (show ¬ ixBad (7 : Int32) 8 by decide) dX9_slipPlaces_7 ?_
  refine lv_aload_n hx hb dX9_slipPlaces_8 rfl (lv_at hl 0 rfl) ?_
  refine lv_aload_n hx hb dX9_slipPlaces_9 rfl (lv_at hl 1 rfl) ?_
  refine lv_iload_n hx hb dX9_slipPlaces_10 rfl (lv_at hl 2 rfl) ?_
  refine lv_iload_n hx hb dX9_slipPlaces_11 rfl (lv_at hl 3 rfl) ?_
  obtain ⟨⟨r_12_0, r_12_0_a1, r_12_0_a3⟩, hc_r_12_0, hf⟩ := of_bnd hf
  refine cl_Vi (w2 := (wW_X9_slipPlaces G h0 h1 h2 h3 h4 h5 h6 y0_1 y5_4 y5_5 r_12_0_a1 a2 r_12_0_a3 a4 x5_0 x5_1 x5_2 a6)) (As := [.ref h5, .int b2, .int b3]) (rest := [.int (a4 (7 : Int32).toNatClampNeg), .int (7 : Int32), .ref h4]) ⟨hx, hb, hml, hown, ht0⟩ (c_X9_turnPlaces l G h0 h1 h2 h3 h5 h6 y0_1 h4 y5_4 y5_5 _ a1 a2 a3 x5_0 x5_1 x5_2 a6 F b2 b3 _ _ _ hc_r_12_0) yk_X9_turnPlaces wd_875 ⟨rfl, rfl, by decide, by decide⟩ ⟨Nat.le_refl _, Nat.le_refl _⟩ hX hK hP hD hS hA [0, 1, 2, 3, 5, 6] [4] [1, 2, 3, 4, 0, 5, 6] (va_recv hK hP (ci := 9) (q0 := 0) rfl rfl) rfl rfl (by decide) rfl rfl rfl rfl rfl hl.1 rfl (Nat.le_of_ble_eq_true rfl) dX9_slipPlaces_12 (fun H locs hP hD hS => ?_)
  refine lv_iadd hx hb dX9_slipPlaces_15 ?_
  refine va_iast hx hb hK hP hD hS 4 0 rfl rfl (show ¬ ixBad (7 : Int32) 8 by decide) dX9_slipPlaces_16 (fun H locs hP hD hS => ?_)
  have hP : va_P G.1 vwCl (wW_X9_slipPlaces G h0 h1 h2 h3 h4 h5 h6 y0_1 y5_4 y5_5 r_12_0_a1 a2 r_12_0_a3 (upd a4 (7 : Int32).toNatClampNeg ((a4 (7 : Int32).toNatClampNeg) + r_12_0)) x5_0 x5_1 x5_2 a6) H := hP
  have hD : va_D A (wW_X9_slipPlaces G h0 h1 h2 h3 h4 h5 h6 y0_1 y5_4 y5_5 r_12_0_a1 a2 r_12_0_a3 (upd a4 (7 : Int32).toNatClampNeg ((a4 (7 : Int32).toNatClampNeg) + r_12_0)) x5_0 x5_1 x5_2 a6) := hD
  cases hf
  exact ret_v hx hb hr hlk hK hP hD hS dX9_slipPlaces_17
theorem yk_X9_slipPlaces : ykV yX9_slipPlaces RX9 cX9_slipPlaces 4 none 3 := ⟨wd_903, wd_904, wd_134, wd_905, rfl, by decide +kernel, by decide +kernel, by decide +kernel⟩
theorem dX9_stickPlace_0 : decode cX9_stickPlace 0 = .ok (.aload_n 0, 1) := by decide +kernel
theorem dX9_stickPlace_1 : decode cX9_stickPlace 1 = .ok (.getfield 9, 3) := by decide +kernel
theorem dX9_stickPlace_4 : decode cX9_stickPlace 4 = .ok (.iload_n 2, 1) := by decide +kernel
theorem dX9_stickPlace_5 : decode cX9_stickPlace 5 = .ok (.iaload, 1) := by decide +kernel
theorem dX9_stickPlace_6 : decode cX9_stickPlace 6 = .ok (.iload_n 3, 1) := by decide +kernel
theorem dX9_stickPlace_7 : decode cX9_stickPlace 7 = .ok (.iushr, 1) := by decide +kernel
theorem dX9_stickPlace_8 : decode cX9_stickPlace 8 = .ok (.iconst 1, 1) := by decide +kernel
theorem dX9_stickPlace_9 : decode cX9_stickPlace 9 = .ok (.iand, 1) := by decide +kernel
theorem dX9_stickPlace_10 : decode cX9_stickPlace 10 = .ok (.iload 4, 2) := by decide +kernel
theorem dX9_stickPlace_12 : decode cX9_stickPlace 12 = .ok (.if_icmp .eq 13, 3) := by decide +kernel
theorem dX9_stickPlace_15 : decode cX9_stickPlace 15 = .ok (.aload_n 0, 1) := by decide +kernel
theorem dX9_stickPlace_16 : decode cX9_stickPlace 16 = .ok (.aload_n 1, 1) := by decide +kernel
theorem dX9_stickPlace_17 : decode cX9_stickPlace 17 = .ok (.iload_n 2, 1) := by decide +kernel
theorem dX9_stickPlace_18 : decode cX9_stickPlace 18 = .ok (.iconst 1, 1) := by decide +kernel
theorem dX9_stickPlace_19 : decode cX9_stickPlace 19 = .ok (.iload_n 3, 1) := by decide +kernel
theorem dX9_stickPlace_20 : decode cX9_stickPlace 20 = .ok (.ishl, 1) := by decide +kernel
theorem dX9_stickPlace_21 : decode cX9_stickPlace 21 = .ok (.invokevirtual 70, 3) := by decide +kernel
theorem dX9_stickPlace_24 : decode cX9_stickPlace 24 = .ok (.pop, 1) := by decide +kernel
theorem dX9_stickPlace_25 : decode cX9_stickPlace 25 = .ok (.aload_n 0, 1) := by decide +kernel
theorem dX9_stickPlace_26 : decode cX9_stickPlace 26 = .ok (.getfield 18, 3) := by decide +kernel
theorem dX9_stickPlace_29 : decode cX9_stickPlace 29 = .ok (.iload_n 2, 1) := by decide +kernel
theorem dX9_stickPlace_30 : decode cX9_stickPlace 30 = .ok (.dup2, 1) := by decide +kernel
theorem dX9_stickPlace_31 : decode cX9_stickPlace 31 = .ok (.iaload, 1) := by decide +kernel
theorem dX9_stickPlace_32 : decode cX9_stickPlace 32 = .ok (.iconst 1, 1) := by decide +kernel
theorem dX9_stickPlace_33 : decode cX9_stickPlace 33 = .ok (.iload_n 3, 1) := by decide +kernel
theorem dX9_stickPlace_34 : decode cX9_stickPlace 34 = .ok (.ishl, 1) := by decide +kernel
theorem dX9_stickPlace_35 : decode cX9_stickPlace 35 = .ok (.ior, 1) := by decide +kernel
theorem dX9_stickPlace_36 : decode cX9_stickPlace 36 = .ok (.iastore, 1) := by decide +kernel
theorem dX9_stickPlace_37 : decode cX9_stickPlace 37 = .ok (.return_, 1) := by decide +kernel
def wW_X9_stickPlace (G : GG) (h0 h1 h2 h3 h4 h5 y0_1 y0_4 y4_4 y4_5 : Nat) (a1 : Nat → Int32) (a2 : Nat → Int32) (a3 : Nat → Int32) (x4_0 : Int32) (x4_1 : Int32) (x4_2 : Int32) (a5 : Nat → Int32) : va_W := [(h0, .inr (9, [.ref h1, .ref y0_1, .ref h2, .ref h3, .ref y0_4])), (h1, .inl (G.2.1, 16, .inl a1)), (h2, .inl (G.2.1, 16, .inl a2)), (h3, .inl (G.2.1, 16, .inl a3)), (h4, .inr (1, [.int x4_0, .int x4_1, .int x4_2, .ref h5, .ref y4_4, .ref y4_5])), (h5, .inl (G.2.1, 32, .inl a5))]
set_option maxHeartbeats 4000000 in
set_option maxRecDepth 100000 in
theorem c_X9_stickPlace (l : Launch) (G : GG) (h0 h1 h2 h3 h4 h5 y0_1 y0_4 y4_4 y4_5 : Nat) (sz : Nat) (a1 : Nat → Int32) (a2 : Nat → Int32) (a3 : Nat → Int32) (x4_0 : Int32) (x4_1 : Int32) (x4_2 : Int32) (a5 : Nat → Int32) (F : Nat) (b2 : Int32) (b3 : Int32) (b4 : Int32)  (e_a1 : Nat → Int32) (e_a2 : Nat → Int32) (e_a3 : Nat → Int32) (hf : p_X9_stickPlace F a1 a2 a3 x4_0 x4_1 a5 b2 b3 b4 = some (e_a1, e_a2, e_a3)) : Met l yX9_stickPlace (.code yX9_stickPlace cX9_stickPlace 5 none :: gtbl) ({ frames := 3, cells := 0, slots := 0, locals := 68 } : Room) (PcS G [.ref h0, .ref h4, .int b2, .int b3, .int b4] (wW_X9_stickPlace G h0 h1 h2 h3 h4 h5 y0_1 y0_4 y4_4 y4_5 a1 a2 a3 x4_0 x4_1 x4_2 a5) sz) (QvS G (va_A (wW_X9_stickPlace G h0 h1 h2 h3 h4 h5 y0_1 y0_4 y4_4 y4_5 a1 a2 a3 x4_0 x4_1 x4_2 a5) sz) (wW_X9_stickPlace G h0 h1 h2 h3 h4 h5 y0_1 y0_4 y4_4 y4_5 e_a1 e_a2 e_a3 x4_0 x4_1 x4_2 a5)) 0 0 (va_A (wW_X9_stickPlace G h0 h1 h2 h3 h4 h5 y0_1 y0_4 y4_4 y4_5 a1 a2 a3 x4_0 x4_1 x4_2 a5) sz) := by
  refine met_start (by decide) (Nat.le_of_ble_eq_true rfl) ?_
  intro p e s m below meth c hC hr hlk hnm hK hP hD hA hS hX ls hl
  obtain ⟨hx, hb, hml, hown, ht0⟩ := hC
  have hown : s.vm.findClass RX9 = some m.cls := hown
  generalize va_A (wW_X9_stickPlace G h0 h1 h2 h3 h4 h5 y0_1 y0_4 y4_4 y4_5 a1 a2 a3 x4_0 x4_1 x4_2 a5) sz = A at hD hA hS hX ⊢
  have hl : lv_has ls 5 [(0, .ref h0), (1, .ref h4), (2, .int b2), (3, .int b3), (4, .int b4)] := hl
  have hf : p_X9_stickPlace F a1 a2 a3 x4_0 x4_1 a5 b2 b3 b4 = some (e_a1, e_a2, e_a3) := hf
  have kJ25 : ∀ (u25_2 : Int32) (u25_3 : Int32) (a1_25 : Nat → Int32) (a2_25 : Nat → Int32) (a3_25 : Nat → Int32), p_X9_stickPlace_J25 F x4_0 x4_1 a5 u25_2 u25_3 a1_25 a2_25 a3_25 = some (e_a1, e_a2, e_a3) → ∀ (H : Heap) (locs : List Loc), va_P G.1 vwCl (wW_X9_stickPlace G h0 h1 h2 h3 h4 h5 y0_1 y0_4 y4_4 y4_5 a1_25 a2_25 a3_25 x4_0 x4_1 x4_2 a5) H → va_D A (wW_X9_stickPlace G h0 h1 h2 h3 h4 h5 y0_1 y0_4 y4_4 y4_5 a1_25 a2_25 a3_25 x4_0 x4_1 x4_2 a5) → va_S A s.heap H locs → ∀ ls : Array Slot, lv_has ls 5 [(0, .ref h0), (2, .int u25_2), (3, .int u25_3)] → W p l e ({ frames := 3, cells := 0, slots := 0, locals := 68 } : Room) s m (List.toArray [.ref h0, .ref h4, .int b2, .int b3, .int b4]) below meth c H locs 0 0 (MQ below (QvS G A (wW_X9_stickPlace G h0 h1 h2 h3 h4 h5 y0_1 y0_4 y4_4 y4_5 e_a1 e_a2 e_a3 x4_0 x4_1 x4_2 a5)) (List.toArray [.ref h0, .ref h4, .int b2, .int b3, .int b4]) s 0 0 A) (F0 m 25 ls []) := by
    intro u25_2 u25_3 a1_25 a2_25 a3_25 hf H locs hP hD hS ls hl
    refine lv_aload_n hx hb dX9_stickPlace_25 rfl (lv_at hl 0 rfl) ?_
    refine va_get (ci := 9) (v := .ref h2) (C := RX9) (T := TX9) (N := 5) hx hb ht0 iX9 hown hK hP 0 rfl rfl 2 (by decide) (ht0 _ wd_324) (fun _ h9 => h9) rfl dX9_stickPlace_26 ?_
    refine lv_iload_n hx hb dX9_stickPlace_29 rfl (lv_at hl 1 rfl) ?_
    refine lv_dup2_11 hx hb dX9_stickPlace_30 rfl rfl ?_
    obtain ⟨g1, hf⟩ := of_grd hf
    refine va_iald hx hb hK hP 2 0 rfl rfl g1 dX9_stickPlace_31 ?_
    refine lv_iconst (v := (1 : Int32)) hx hb dX9_stickPlace_32 (by decide) ?_
    refine lv_iload_n hx hb dX9_stickPlace_33 rfl (lv_at hl 2 rfl) ?_
    refine lv_ishl hx hb dX9_stickPlace_34 ?_
    refine lv_ior hx hb dX9_stickPlace_35 ?_
    obtain ⟨g2, hf⟩ := of_grd hf
    refine va_iast hx hb hK hP hD hS 2 0 rfl rfl g2 dX9_stickPlace_36 (fun H locs hP hD hS => ?_)
    have hP : va_P G.1 vwCl (wW_X9_stickPlace G h0 h1 h2 h3 h4 h5 y0_1 y0_4 y4_4 y4_5 a1_25 (upd a2_25 u25_2.toNatClampNeg ((a2_25 u25_2.toNatClampNeg) ||| ((1 : Int32) <<< (u25_3 &&& 31)))) a3_25 x4_0 x4_1 x4_2 a5) H := hP
    have hD : va_D A (wW_X9_stickPlace G h0 h1 h2 h3 h4 h5 y0_1 y0_4 y4_4 y4_5 a1_25 (upd a2_25 u25_2.toNatClampNeg ((a2_25 u25_2.toNatClampNeg) ||| ((1 : Int32) <<< (u25_3 &&& 31)))) a3_25 x4_0 x4_1 x4_2 a5) := hD
    cases hf
    exact ret_v hx hb hr hlk hK hP hD hS dX9_stickPlace_37
  refine lv_aload_n hx hb dX9_stickPlace_0 rfl (lv_at hl 0 rfl) ?_
  refine va_get (ci := 9) (v := .ref h1) (C := RX9) (T := TX9) (N := 5) hx hb ht0 iX9 hown hK hP 0 rfl rfl 0 (by decide) (ht0 _ wd_320) (fun _ h9 => h9) rfl dX9_stickPlace_1 ?_
  refine lv_iload_n hx hb dX9_stickPlace_4 rfl (lv_at hl 2 rfl) ?_
  obtain ⟨g3, hf⟩ := of_grd hf
  refine va_iald hx hb hK hP 1 0 rfl rfl g3 dX9_stickPlace_5 ?_
  refine lv_iload_n hx hb dX9_stickPlace_6 rfl (lv_at hl 3 rfl) ?_
  refine lv_iushr (v := jushr (a1 b2.toNatClampNeg) b3) hx hb dX9_stickPlace_7 rfl ?_
  refine lv_iconst (v := (1 : Int32)) hx hb dX9_stickPlace_8 (by decide) ?_
  refine lv_iand hx hb dX9_stickPlace_9 ?_
  refine lv_iload hx hb dX9_stickPlace_10 (lv_at hl 4 rfl) ?_
  refine lv_icmp_eq (tgt := 25) hx hb dX9_stickPlace_12 (by decide) (fun c4 => ?_) (fun c4 => ?_)
  · have hf := of_pos hf c4
    exact kJ25 _ _ _ _ _ hf _ _ hP hD hS _ (lv_sub hl [0, 2, 3] rfl)
  · have hf := of_neg hf c4
    refine lv_aload_n hx hb dX9_stickPlace_15 rfl (lv_at hl 0 rfl) ?_
    refine lv_aload_n hx hb dX9_stickPlace_16 rfl (lv_at hl 1 rfl) ?_
    refine lv_iload_n hx hb dX9_stickPlace_17 rfl (lv_at hl 2 rfl) ?_
    refine lv_iconst (v := (1 : Int32)) hx hb dX9_stickPlace_18 (by decide) ?_
    refine lv_iload_n hx hb dX9_stickPlace_19 rfl (lv_at hl 3 rfl) ?_
    refine lv_ishl hx hb dX9_stickPlace_20 ?_
    obtain ⟨⟨r_21_4, r_21_4_a1, r_21_4_a3⟩, hc_r_21_4, hf⟩ := of_bnd hf
    refine cl_Vi (w2 := (wW_X9_stickPlace G h0 h1 h2 h3 h4 h5 y0_1 y0_4 y4_4 y4_5 r_21_4_a1 a2 r_21_4_a3 x4_0 x4_1 x4_2 a5)) (As := [.ref h4, .int b2, .int ((1 : Int32) <<< (b3 &&& 31))]) (rest := []) ⟨hx, hb, hml, hown, ht0⟩ (c_X9_turnPlaces l G h0 h1 h2 h3 h4 h5 y0_1 y0_4 y4_4 y4_5 _ a1 a2 a3 x4_0 x4_1 x4_2 a5 F b2 ((1 : Int32) <<< (b3 &&& 31)) _ _ _ hc_r_21_4) yk_X9_turnPlaces wd_875 ⟨rfl, rfl, by decide, by decide⟩ ⟨Nat.le_refl _, Nat.le_refl _⟩ hX hK hP hD hS hA [0, 1, 2, 3, 4, 5] [] [0, 1, 2, 3, 4, 5] (va_recv hK hP (ci := 9) (q0 := 0) rfl rfl) rfl rfl (by decide) rfl rfl rfl rfl rfl hl.1 rfl (Nat.le_of_ble_eq_true rfl) dX9_stickPlace_21 (fun H locs hP hD hS => ?_)
    refine lv_pop hx hb dX9_stickPlace_24 rfl ?_
    exact kJ25 _ _ _ _ _ hf _ _ hP hD hS _ (lv_sub hl [0, 2, 3] rfl)
theorem yk_X9_stickPlace : ykV yX9_stickPlace RX9 cX9_stickPlace 5 none 4 := ⟨wd_941, wd_942, wd_134, wd_943, rfl, by decide +kernel, by decide +kernel, by decide +kernel⟩
theorem dX9_readWord_0 : decode cX9_readWord 0 = .ok (.aload_n 3, 1) := by decide +kernel
theorem dX9_readWord_1 : decode cX9_readWord 1 = .ok (.aload_n 1, 1) := by decide +kernel
theorem dX9_readWord_2 : decode cX9_readWord 2 = .ok (.aload_n 0, 1) := by decide +kernel
theorem dX9_readWord_3 : decode cX9_readWord 3 = .ok (.getfield 21, 3) := by decide +kernel
theorem dX9_readWord_6 : decode cX9_readWord 6 = .ok (.iload_n 2, 1) := by decide +kernel
theorem dX9_readWord_7 : decode cX9_readWord 7 = .ok (.iaload, 1) := by decide +kernel
theorem dX9_readWord_8 : decode cX9_readWord 8 = .ok (.aload_n 0, 1) := by decide +kernel
theorem dX9_readWord_9 : decode cX9_readWord 9 = .ok (.getfield 18, 3) := by decide +kernel
theorem dX9_readWord_12 : decode cX9_readWord 12 = .ok (.iload_n 2, 1) := by decide +kernel
theorem dX9_readWord_13 : decode cX9_readWord 13 = .ok (.iaload, 1) := by decide +kernel
theorem dX9_readWord_14 : decode cX9_readWord 14 = .ok (.invokevirtual 74, 3) := by decide +kernel
theorem dX9_readWord_17 : decode cX9_readWord 17 = .ok (.return_, 1) := by decide +kernel
def wW_X9_readWord (G : GG) (h0 h1 h2 h3 h4 h5 h6 h7 y0_0 y0_1 y0_4 : Nat) (a1 : Nat → Int32) (a2 : Nat → Int32) (x3_0 : Int32) (x3_1 : Int32) (x3_2 : Int32) (a4 : Nat → Int32) (a5 : Nat → Int32) (a6 : Nat → Int32) (x7_0 : Int32) (x7_1 : Int32) (x7_2 : Int32) : va_W := [(h0, .inr (9, [.ref y0_0, .ref y0_1, .ref h1, .ref h2, .ref y0_4])), (h1, .inl (G.2.1, 16, .inl a1)), (h2, .inl (G.2.1, 16, .inl a2)), (h3, .inr (1, [.int x3_0, .int x3_1, .int x3_2, .ref h4, .ref h5, .ref h6])), (h4, .inl (G.2.1, 32, .inl a4)), (h5, .inl (G.2.1, 256, .inl a5)), (h6, .inl (G.2.1, 256, .inl a6)), (h7, .inr (2, [.int x7_0, .int x7_1, .int x7_2]))]
set_option maxHeartbeats 4000000 in
set_option maxRecDepth 100000 in
theorem c_X9_readWord (l : Launch) (G : GG) (h0 h1 h2 h3 h4 h5 h6 h7 y0_0 y0_1 y0_4 : Nat) (sz : Nat) (a1 : Nat → Int32) (a2 : Nat → Int32) (x3_0 : Int32) (x3_1 : Int32) (x3_2 : Int32) (a4 : Nat → Int32) (a5 : Nat → Int32) (a6 : Nat → Int32) (x7_0 : Int32) (x7_1 : Int32) (x7_2 : Int32) (F : Nat) (b2 : Int32)  (e_x7_0 : Int32) (e_x7_1 : Int32) (e_x7_2 : Int32) (hf : p_X9_readWord F a1 a2 x3_2 a4 a5 a6 x7_0 x7_1 x7_2 b2 = some (e_x7_0, e_x7_1, e_x7_2)) : Met l yX9_readWord (.code yX9_readWord cX9_readWord 4 none :: gtbl) ({ frames := 3, cells := 0, slots := 0, locals := 76 } : Room) (PcS G [.ref h0, .ref h3, .int b2, .ref h7] (wW_X9_readWord G h0 h1 h2 h3 h4 h5 h6 h7 y0_0 y0_1 y0_4 a1 a2 x3_0 x3_1 x3_2 a4 a5 a6 x7_0 x7_1 x7_2) sz) (QvS G (va_A (wW_X9_readWord G h0 h1 h2 h3 h4 h5 h6 h7 y0_0 y0_1 y0_4 a1 a2 x3_0 x3_1 x3_2 a4 a5 a6 x7_0 x7_1 x7_2) sz) (wW_X9_readWord G h0 h1 h2 h3 h4 h5 h6 h7 y0_0 y0_1 y0_4 a1 a2 x3_0 x3_1 x3_2 a4 a5 a6 e_x7_0 e_x7_1 e_x7_2)) 0 0 (va_A (wW_X9_readWord G h0 h1 h2 h3 h4 h5 h6 h7 y0_0 y0_1 y0_4 a1 a2 x3_0 x3_1 x3_2 a4 a5 a6 x7_0 x7_1 x7_2) sz) := by
  refine met_start (by decide) (Nat.le_of_ble_eq_true rfl) ?_
  intro p e s m below meth c hC hr hlk hnm hK hP hD hA hS hX ls hl
  obtain ⟨hx, hb, hml, hown, ht0⟩ := hC
  have hown : s.vm.findClass RX9 = some m.cls := hown
  generalize va_A (wW_X9_readWord G h0 h1 h2 h3 h4 h5 h6 h7 y0_0 y0_1 y0_4 a1 a2 x3_0 x3_1 x3_2 a4 a5 a6 x7_0 x7_1 x7_2) sz = A at hD hA hS hX ⊢
  have hl : lv_has ls 4 [(0, .ref h0), (1, .ref h3), (2, .int b2), (3, .ref h7)] := hl
  have hf : p_X9_readWord F a1 a2 x3_2 a4 a5 a6 x7_0 x7_1 x7_2 b2 = some (e_x7_0, e_x7_1, e_x7_2) := hf
  refine lv_aload_n hx hb dX9_readWord_0 rfl (lv_at hl 3 rfl) ?_
  refine lv_aload_n hx hb dX9_readWord_1 rfl (lv_at hl 1 rfl) ?_
  refine lv_aload_n hx hb dX9_readWord_2 rfl (lv_at hl 0 rfl) ?_
  refine va_get (ci := 9) (v := .ref h2) (C := RX9) (T := TX9) (N := 5) hx hb ht0 iX9 hown hK hP 0 rfl rfl 3 (by decide) (ht0 _ wd_326) (fun _ h9 => h9) rfl dX9_readWord_3 ?_
  refine lv_iload_n hx hb dX9_readWord_6 rfl (lv_at hl 2 rfl) ?_
  obtain ⟨g1, hf⟩ := of_grd hf
  refine va_iald hx hb hK hP 2 0 rfl rfl g1 dX9_readWord_7 ?_
  refine lv_aload_n hx hb dX9_readWord_8 rfl (lv_at hl 0 rfl) ?_
  refine va_get (ci := 9) (v := .ref h1) (C := RX9) (T := TX9) (N := 5) hx hb ht0 iX9 hown hK hP 0 rfl rfl 2 (by decide) (ht0 _ wd_324) (fun _ h9 => h9) rfl dX9_readWord_9 ?_
  refine lv_iload_n hx hb dX9_readWord_12 rfl (lv_at hl 2 rfl) ?_
  obtain ⟨g2, hf⟩ := of_grd hf
  refine va_iald hx hb hK hP 1 0 rfl rfl g2 dX9_readWord_13 ?_
  obtain ⟨⟨r_14_2_x0_0, r_14_2_x0_1, r_14_2_x0_2⟩, hc_r_14_2, hf⟩ := of_bnd hf
  refine cl_Vv (w2 := (wW_X9_readWord G h0 h1 h2 h3 h4 h5 h6 h7 y0_0 y0_1 y0_4 a1 a2 x3_0 x3_1 x3_2 a4 a5 a6 r_14_2_x0_0 r_14_2_x0_1 r_14_2_x0_2)) (As := [.ref h3, .int (a2 b2.toNatClampNeg), .int (a1 b2.toNatClampNeg)]) (rest := []) ⟨hx, hb, hml, hown, ht0⟩ (c_X2_read l G h7 h3 h4 h5 h6 _ x7_0 x7_1 x7_2 x3_0 x3_1 x3_2 a4 a5 a6 F (a2 b2.toNatClampNeg) (a1 b2.toNatClampNeg) _ _ _ hc_r_14_2) yk_X2_read wd_825 ⟨rfl, rfl, by decide, by decide⟩ ⟨Nat.le_refl _, Nat.le_refl _⟩ hX hK hP hD hS hA [7, 3, 4, 5, 6] [0, 1, 2] [0, 1, 2, 4, 5, 6, 7, 3] (va_recv hK hP (ci := 2) (q0 := 7) rfl rfl) rfl rfl (by decide) rfl rfl rfl rfl rfl hl.1 rfl (Nat.le_of_ble_eq_true rfl) dX9_readWord_14 (fun H locs hP hD hS => ?_)
  cases hf
  exact ret_v hx hb hr hlk hK hP hD hS dX9_readWord_17
theorem yk_X9_readWord : ykV yX9_readWord RX9 cX9_readWord 4 none 3 := ⟨wd_822, wd_823, wd_134, wd_824, rfl, by decide +kernel, by decide +kernel, by decide +kernel⟩
theorem dX9_mendWord_0 : decode cX9_mendWord 0 = .ok (.aload_n 3, 1) := by decide +kernel
theorem dX9_mendWord_1 : decode cX9_mendWord 1 = .ok (.aload_n 1, 1) := by decide +kernel
theorem dX9_mendWord_2 : decode cX9_mendWord 2 = .ok (.aload_n 0, 1) := by decide +kernel
theorem dX9_mendWord_3 : decode cX9_mendWord 3 = .ok (.getfield 21, 3) := by decide +kernel
theorem dX9_mendWord_6 : decode cX9_mendWord 6 = .ok (.iload_n 2, 1) := by decide +kernel
theorem dX9_mendWord_7 : decode cX9_mendWord 7 = .ok (.iaload, 1) := by decide +kernel
theorem dX9_mendWord_8 : decode cX9_mendWord 8 = .ok (.aload_n 0, 1) := by decide +kernel
theorem dX9_mendWord_9 : decode cX9_mendWord 9 = .ok (.getfield 18, 3) := by decide +kernel
theorem dX9_mendWord_12 : decode cX9_mendWord 12 = .ok (.iload_n 2, 1) := by decide +kernel
theorem dX9_mendWord_13 : decode cX9_mendWord 13 = .ok (.iaload, 1) := by decide +kernel
theorem dX9_mendWord_14 : decode cX9_mendWord 14 = .ok (.invokevirtual 74, 3) := by decide +kernel
theorem dX9_mendWord_17 : decode cX9_mendWord 17 = .ok (.aload_n 0, 1) := by decide +kernel
theorem dX9_mendWord_18 : decode cX9_mendWord 18 = .ok (.iload_n 2, 1) := by decide +kernel
theorem dX9_mendWord_19 : decode cX9_mendWord 19 = .ok (.aload_n 3, 1) := by decide +kernel
theorem dX9_mendWord_20 : decode cX9_mendWord 20 = .ok (.invokevirtual 52, 3) := by decide +kernel
theorem dX9_mendWord_23 : decode cX9_mendWord 23 = .ok (.aload_n 0, 1) := by decide +kernel
theorem dX9_mendWord_24 : decode cX9_mendWord 24 = .ok (.aload_n 1, 1) := by decide +kernel
theorem dX9_mendWord_25 : decode cX9_mendWord 25 = .ok (.iload_n 2, 1) := by decide +kernel
theorem dX9_mendWord_26 : decode cX9_mendWord 26 = .ok (.aload_n 3, 1) := by decide +kernel
theorem dX9_mendWord_27 : decode cX9_mendWord 27 = .ok (.getfield 56, 3) := by decide +kernel
theorem dX9_mendWord_30 : decode cX9_mendWord 30 = .ok (.invokevirtual 70, 3) := by decide +kernel
theorem dX9_mendWord_33 : decode cX9_mendWord 33 = .ok (.pop, 1) := by decide +kernel
theorem dX9_mendWord_34 : decode cX9_mendWord 34 = .ok (.aload_n 3, 1) := by decide +kernel
theorem dX9_mendWord_35 : decode cX9_mendWord 35 = .ok (.getfield 77, 3) := by decide +kernel
theorem dX9_mendWord_38 : decode cX9_mendWord 38 = .ok (.ireturn, 1) := by decide +kernel
def wW_X9_mendWord (G : GG) (h0 h1 h2 h3 h4 h5 h6 h7 h8 h9 h10 : Nat) (a1 : Nat → Int32) (a2 : Nat → Int32) (a3 : Nat → Int32) (a4 : Nat → Int32) (a5 : Nat → Int32) (x6_0 : Int32) (x6_1 : Int32) (x6_2 : Int32) (a7 : Nat → Int32) (a8 : Nat → Int32) (a9 : Nat → Int32) (x10_0 : Int32) (x10_1 : Int32) (x10_2 : Int32) : va_W := [(h0, .inr (9, [.ref h1, .ref h2, .ref h3, .ref h4, .ref h5])), (h1, .inl (G.2.1, 16, .inl a1)), (h2, .inl (G.2.1, 16, .inl a2)), (h3, .inl (G.2.1, 16, .inl a3)), (h4, .inl (G.2.1, 16, .inl a4)), (h5, .inl (G.2.1, 8, .inl a5)), (h6, .inr (1, [.int x6_0, .int x6_1, .int x6_2, .ref h7, .ref h8, .ref h9])), (h7, .inl (G.2.1, 32, .inl a7)), (h8, .inl (G.2.1, 256, .inl a8)), (h9, .inl (G.2.1, 256, .inl a9)), (h10, .inr (2, [.int x10_0, .int x10_1, .int x10_2]))]
set_option maxHeartbeats 4000000 in
set_option maxRecDepth 100000 in
theorem c_X9_mendWord (l : Launch) (G : GG) (h0 h1 h2 h3 h4 h5 h6 h7 h8 h9 h10 : Nat) (sz : Nat) (a1 : Nat → Int32) (a2 : Nat → Int32) (a3 : Nat → Int32) (a4 : Nat → Int32) (a5 : Nat → Int32) (x6_0 : Int32) (x6_1 : Int32) (x6_2 : Int32) (a7 : Nat → Int32) (a8 : Nat → Int32) (a9 : Nat → Int32) (x10_0 : Int32) (x10_1 : Int32) (x10_2 : Int32) (F : Nat) (b2 : Int32)  (r0 : Int32) (e_a1 : Nat → Int32) (e_a4 : Nat → Int32) (e_a5 : Nat → Int32) (e_x10_0 : Int32) (e_x10_1 : Int32) (e_x10_2 : Int32) (hf : p_X9_mendWord F a1 a2 a3 a4 a5 x6_0 x6_1 x6_2 a7 a8 a9 x10_0 x10_1 x10_2 b2 = some (r0, e_a1, e_a4, e_a5, e_x10_0, e_x10_1, e_x10_2)) : Met l yX9_mendWord (.code yX9_mendWord cX9_mendWord 4 (some .int) :: gtbl) ({ frames := 3, cells := 0, slots := 0, locals := 76 } : Room) (PcS G [.ref h0, .ref h6, .int b2, .ref h10] (wW_X9_mendWord G h0 h1 h2 h3 h4 h5 h6 h7 h8 h9 h10 a1 a2 a3 a4 a5 x6_0 x6_1 x6_2 a7 a8 a9 x10_0 x10_1 x10_2) sz) (QiS G r0 (va_A (wW_X9_mendWord G h0 h1 h2 h3 h4 h5 h6 h7 h8 h9 h10 a1 a2 a3 a4 a5 x6_0 x6_1 x6_2 a7 a8 a9 x10_0 x10_1 x10_2) sz) (wW_X9_mendWord G h0 h1 h2 h3 h4 h5 h6 h7 h8 h9 h10 e_a1 a2 a3 e_a4 e_a5 x6_0 x6_1 x6_2 a7 a8 a9 e_x10_0 e_x10_1 e_x10_2)) 0 0 (va_A (wW_X9_mendWord G h0 h1 h2 h3 h4 h5 h6 h7 h8 h9 h10 a1 a2 a3 a4 a5 x6_0 x6_1 x6_2 a7 a8 a9 x10_0 x10_1 x10_2) sz) := by
  refine met_start (by decide) (Nat.le_of_ble_eq_true rfl) ?_
  intro p e s m below meth c hC hr hlk hnm hK hP hD hA hS hX ls hl
  obtain ⟨hx, hb, hml, hown, ht0⟩ := hC
  have hown : s.vm.findClass RX9 = some m.cls := hown
  generalize va_A (wW_X9_mendWord G h0 h1 h2 h3 h4 h5 h6 h7 h8 h9 h10 a1 a2 a3 a4 a5 x6_0 x6_1 x6_2 a7 a8 a9 x10_0 x10_1 x10_2) sz = A at hD hA hS hX ⊢
  have hl : lv_has ls 4 [(0, .ref h0), (1, .ref h6), (2, .int b2), (3, .ref h10)] := hl
  have hf : p_X9_mendWord F a1 a2 a3 a4 a5 x6_0 x6_1 x6_2 a7 a8 a9 x10_0 x10_1 x10_2 b2 = some (r0, e_a1, e_a4, e_a5, e_x10_0, e_x10_1, e_x10_2) := hf
  refine lv_aload_n hx hb dX9_mendWord_0 rfl (lv_at hl 3 rfl) ?_
  refine lv_aload_n hx hb dX9_mendWord_1 rfl (lv_at hl 1 rfl) ?_
  refine lv_aload_n hx hb dX9_mendWord_2 rfl (lv_at hl 0 rfl) ?_
  refine va_get (ci := 9) (v := .ref h4) (C := RX9) (T := TX9) (N := 5) hx hb ht0 iX9 hown hK hP 0 rfl rfl 3 (by decide) (ht0 _ wd_326) (fun _ h9 => h9) rfl dX9_mendWord_3 ?_
  refine lv_iload_n hx hb dX9_mendWord_6 rfl (lv_at hl 2 rfl) ?_
  obtain ⟨g1, hf⟩ := of_grd hf
  refine va_iald hx hb hK hP 4 0 rfl rfl g1 dX9_mendWord_7 ?_
  refine lv_aload_n hx hb dX9_mendWord_8 rfl (lv_at hl 0 rfl) ?_
  refine va_get (ci := 9) (v := .ref h3) (C := RX9) (T := TX9) (N := 5) hx hb ht0 iX9 hown hK hP 0 rfl rfl 2 (by decide) (ht0 _ wd_324) (fun _ h9 => h9) rfl dX9_mendWord_9 ?_
  refine lv_iload_n hx hb dX9_mendWord_12 rfl (lv_at hl 2 rfl) ?_
  obtain ⟨g2, hf⟩ := of_grd hf
  refine va_iald hx hb hK hP 3 0 rfl rfl g2 dX9_mendWord_13 ?_
  obtain ⟨⟨r_14_2_x0_0, r_14_2_x0_1, r_14_2_x0_2⟩, hc_r_14_2, hf⟩ := of_bnd hf
  refine cl_Vv (w2 := (wW_X9_mendWord G h0 h1 h2 h3 h4 h5 h6 h7 h8 h9 h10 a1 a2 a3 a4 a5 x6_0 x6_1 x6_2 a7 a8 a9 r_14_2_x0_0 r_14_2_x0_1 r_14_2_x0_2)) (As := [.ref h6, .int (a4 b2.toNatClampNeg), .int (a3 b2.toNatClampNeg)]) (rest := []) ⟨hx, hb, hml, hown, ht0⟩ (c_X2_read l G h10 h6 h7 h8 h9 _ x10_0 x10_1 x10_2 x6_0 x6_1 x6_2 a7 a8 a9 F (a4 b2.toNatClampNeg) (a3 b2.toNatClampNeg) _ _ _ hc_r_14_2) yk_X2_read wd_825 ⟨rfl, rfl, by decide, by decide⟩ ⟨Nat.le_refl _, Nat.le_refl _⟩ hX hK hP hD hS hA [10, 6, 7, 8, 9] [0, 1, 2, 3, 4, 5] [0, 1, 2, 3, 4, 5, 7, 8, 9, 10, 6] (va_recv hK hP (ci := 2) (q0 := 10) rfl rfl) rfl rfl (by decide) rfl rfl rfl rfl rfl hl.1 rfl (Nat.le_of_ble_eq_true rfl) dX9_mendWord_14 (fun H locs hP hD hS => ?_)
  refine lv_aload_n hx hb dX9_mendWord_17 rfl (lv_at hl 0 rfl) ?_
  refine lv_iload_n hx hb dX9_mendWord_18 rfl (lv_at hl 2 rfl) ?_
  refine lv_aload_n hx hb dX9_mendWord_19 rfl (lv_at hl 3 rfl) ?_
  obtain ⟨r_20_3_a3, hc_r_20_3, hf⟩ := of_bnd hf
  refine cl_Vv (w2 := (wW_X9_mendWord G h0 h1 h2 h3 h4 h5 h6 h7 h8 h9 h10 a1 a2 a3 a4 r_20_3_a3 x6_0 x6_1 x6_2 a7 a8 a9 r_14_2_x0_0 r_14_2_x0_1 r_14_2_x0_2)) (As := [.int b2, .ref h10]) (rest := []) ⟨hx, hb, hml, hown, ht0⟩ (c_X9_countReading l G h0 h1 h2 h5 h10 h3 h4 _ a1 a2 a5 r_14_2_x0_0 r_14_2_x0_1 r_14_2_x0_2 F b2 _ hc_r_20_3) yk_X9_countReading wd_858 ⟨rfl, rfl, by decide, by decide⟩ ⟨Nat.le_refl _, Nat.le_refl _⟩ hX hK hP hD hS hA [0, 1, 2, 5, 10] [3, 4, 6, 7, 8, 9] [6, 7, 8, 0, 1, 9, 2, 3, 4, 5, 10] (va_recv hK hP (ci := 9) (q0 := 0) rfl rfl) rfl rfl (by decide) rfl rfl rfl rfl rfl hl.1 rfl (Nat.le_of_ble_eq_true rfl) dX9_mendWord_20 (fun H locs hP hD hS => ?_)
  refine lv_aload_n hx hb dX9_mendWord_23 rfl (lv_at hl 0 rfl) ?_
  refine lv_aload_n hx hb dX9_mendWord_24 rfl (lv_at hl 1 rfl) ?_
  refine lv_iload_n hx hb dX9_mendWord_25 rfl (lv_at hl 2 rfl) ?_
  refine lv_aload_n hx hb dX9_mendWord_26 rfl (lv_at hl 3 rfl) ?_
  refine va_get (ci := 2) (v := .int r_14_2_x0_2) (C := RX2) (T := TX2) (N := 3) hx hb ht0 iX2 hown hK hP 10 rfl rfl 2 (by decide) (ht0 _ wd_376) (fun _ h9 => h9) rfl dX9_mendWord_27 ?_
  obtain ⟨⟨r_30_4, r_30_4_a1, r_30_4_a3⟩, hc_r_30_4, hf⟩ := of_bnd hf
  refine cl_Vi (w2 := (wW_X9_mendWord G h0 h1 h2 h3 h4 h5 h6 h7 h8 h9 h10 r_30_4_a1 a2 a3 r_30_4_a3 r_20_3_a3 x6_0 x6_1 x6_2 a7 a8 a9 r_14_2_x0_0 r_14_2_x0_1 r_14_2_x0_2)) (As := [.ref h6, .int b2, .int r_14_2_x0_2]) (rest := []) ⟨hx, hb, hml, hown, ht0⟩ (c_X9_turnPlaces l G h0 h1 h3 h4 h6 h7 h2 h5 h8 h9 _ a1 a3 a4 x6_0 x6_1 x6_2 a7 F b2 r_14_2_x0_2 _ _ _ hc_r_30_4) yk_X9_turnPlaces wd_875 ⟨rfl, rfl, by decide, by decide⟩ ⟨Nat.le_refl _, Nat.le_refl _⟩ hX hK hP hD hS hA [0, 1, 3, 4, 6, 7] [2, 5, 8, 9, 10] [5, 6, 0, 7, 8, 1, 9, 10, 2, 3, 4] (va_recv hK hP (ci := 9) (q0 := 0) rfl rfl) rfl rfl (by decide) rfl rfl rfl rfl rfl hl.1 rfl (Nat.le_of_ble_eq_true rfl) dX9_mendWord_30 (fun H locs hP hD hS => ?_)
  refine lv_pop hx hb dX9_mendWord_33 rfl ?_
  refine lv_aload_n hx hb dX9_mendWord_34 rfl (lv_at hl 3 rfl) ?_
  refine va_get (ci := 2) (v := .int r_14_2_x0_0) (C := RX2) (T := TX2) (N := 3) hx hb ht0 iX2 hown hK hP 10 rfl rfl 0 (by decide) (ht0 _ wd_372) (fun _ h9 => h9) rfl dX9_mendWord_35 ?_
  cases hf
  exact ret_i hx hb hr hlk hK hP hD hS dX9_mendWord_38
theorem yk_X9_mendWord : ykV yX9_mendWord RX9 cX9_mendWord 4 (some .int) 3 := ⟨wd_872, wd_873, wd_134, wd_874, rfl, by decide +kernel, by decide +kernel, by decide +kernel⟩
theorem dX9_countClean_0 : decode cX9_countClean 0 = .ok (.aload_n 0, 1) := by decide +kernel
theorem dX9_countClean_1 : decode cX9_countClean 1 = .ok (.getfield 24, 3) := by decide +kernel
theorem dX9_countClean_4 : decode cX9_countClean 4 = .ok (.iconst 0, 1) := by decide +kernel
theorem dX9_countClean_5 : decode cX9_countClean 5 = .ok (.dup2, 1) := by decide +kernel
theorem dX9_countClean_6 : decode cX9_countClean 6 = .ok (.iaload, 1) := by decide +kernel
theorem dX9_countClean_7 : decode cX9_countClean 7 = .ok (.iconst 1, 1) := by decide +kernel
theorem dX9_countClean_8 : decode cX9_countClean 8 = .ok (.iadd, 1) := by decide +kernel
theorem dX9_countClean_9 : decode cX9_countClean 9 = .ok (.iastore, 1) := by decide +kernel
theorem dX9_countClean_10 : decode cX9_countClean 10 = .ok (.aload_n 0, 1) := by decide +kernel
theorem dX9_countClean_11 : decode cX9_countClean 11 = .ok (.getfield 9, 3) := by decide +kernel
theorem dX9_countClean_14 : decode cX9_countClean 14 = .ok (.iload_n 1, 1) := by decide +kernel
theorem dX9_countClean_15 : decode cX9_countClean 15 = .ok (.iaload, 1) := by decide +kernel
theorem dX9_countClean_16 : decode cX9_countClean 16 = .ok (.aload_n 0, 1) := by decide +kernel
theorem dX9_countClean_17 : decode cX9_countClean 17 = .ok (.getfield 15, 3) := by decide +kernel
theorem dX9_countClean_20 : decode cX9_countClean 20 = .ok (.iload_n 1, 1) := by decide +kernel
theorem dX9_countClean_21 : decode cX9_countClean 21 = .ok (.iaload, 1) := by decide +kernel
theorem dX9_countClean_22 : decode cX9_countClean 22 = .ok (.if_icmp .eq 14, 3) := by decide +kernel
theorem dX9_countClean_25 : decode cX9_countClean 25 = .ok (.aload_n 0, 1) := by decide +kernel
theorem dX9_countClean_26 : decode cX9_countClean 26 = .ok (.getfield 24, 3) := by decide +kernel
theorem dX9_countClean_29 : decode cX9_countClean 29 = .ok (.bipush 6, 2) := by decide +kernel
theorem dX9_countClean_31 : decode cX9_countClean 31 = .ok (.dup2, 1) := by decide +kernel
theorem dX9_countClean_32 : decode cX9_countClean 32 = .ok (.iaload, 1) := by decide +kernel
theorem dX9_countClean_33 : decode cX9_countClean 33 = .ok (.iconst 1, 1) := by decide +kernel
theorem dX9_countClean_34 : decode cX9_countClean 34 = .ok (.iadd, 1) := by decide +kernel
theorem dX9_countClean_35 : decode cX9_countClean 35 = .ok (.iastore, 1) := by decide +kernel
theorem dX9_countClean_36 : decode cX9_countClean 36 = .ok (.return_, 1) := by decide +kernel
def wW_X9_countClean (G : GG) (h0 h1 h2 h3 y0_2 y0_3 : Nat) (a1 : Nat → Int32) (a2 : Nat → Int32) (a3 : Nat → Int32) : va_W := [(h0, .inr (9, [.ref h1, .ref h2, .ref y0_2, .ref y0_3, .ref h3])), (h1, .inl (G.2.1, 16, .inl a1)), (h2, .inl (G.2.1, 16, .inl a2)), (h3, .inl (G.2.1, 8, .inl a3))]
set_option maxHeartbeats 4000000 in
set_option maxRecDepth 100000 in
theorem c_X9_countClean (l : Launch) (G : GG) (h0 h1 h2 h3 y0_2 y0_3 : Nat) (sz : Nat) (a1 : Nat → Int32) (a2 : Nat → Int32) (a3 : Nat → Int32) (F : Nat) (b1 : Int32)  (e_a3 : Nat → Int32) (hf : p_X9_countClean F a1 a2 a3 b1 = some e_a3) : Met l yX9_countClean (.code yX9_countClean cX9_countClean 2 none :: gtbl) ({ frames := 0, cells := 0, slots := 0, locals := 0 } : Room) (PcS G [.ref h0, .int b1] (wW_X9_countClean G h0 h1 h2 h3 y0_2 y0_3 a1 a2 a3) sz) (QvS G (va_A (wW_X9_countClean G h0 h1 h2 h3 y0_2 y0_3 a1 a2 a3) sz) (wW_X9_countClean G h0 h1 h2 h3 y0_2 y0_3 a1 a2 e_a3)) 0 0 (va_A (wW_X9_countClean G h0 h1 h2 h3 y0_2 y0_3 a1 a2 a3) sz) := by
  refine met_start (by decide) (Nat.le_of_ble_eq_true rfl) ?_
  intro p e s m below meth c hC hr hlk hnm hK hP hD hA hS hX ls hl
  obtain ⟨hx, hb, hml, hown, ht0⟩ := hC
  have hown : s.vm.findClass RX9 = some m.cls := hown
  generalize va_A (wW_X9_countClean G h0 h1 h2 h3 y0_2 y0_3 a1 a2 a3) sz = A at hD hA hS hX ⊢
  have hl : lv_has ls 2 [(0, .ref h0), (1, .int b1)] := hl
  have hf : p_X9_countClean F a1 a2 a3 b1 = some e_a3 := hf
  refine lv_aload_n hx hb dX9_countClean_0 rfl (lv_at hl 0 rfl) ?_
  refine va_get (ci := 9) (v := .ref h3) (C := RX9) (T := TX9) (N := 5) hx hb ht0 iX9 hown hK hP 0 rfl rfl 4 (by decide) (ht0 _ wd_328) (fun _ h9 => h9) rfl dX9_countClean_1 ?_
  refine lv_iconst (v := (0 : Int32)) hx hb dX9_countClean_4 (by decide) ?_
  refine lv_dup2_11 hx hb dX9_countClean_5 rfl rfl ?_
  refine va_iald hx hb hK hP 3 0 rfl rfl (show ¬ ixBad (0 : Int32) 8 by decide) dX9_countClean_6 ?_
  refine lv_iconst (v := (1 : Int32)) hx hb dX9_countClean_7 (by decide) ?_
  refine lv_iadd hx hb dX9_countClean_8 ?_
  refine va_iast hx hb hK hP hD hS 3 0 rfl rfl (show ¬ ixBad (0 : Int32) 8 by decide) dX9_countClean_9 (fun H locs hP hD hS => ?_)
  have hP : va_P G.1 vwCl (wW_X9_countClean G h0 h1 h2 h3 y0_2 y0_3 a1 a2 (upd a3 (0 : Int32).toNatClampNeg ((a3 (0 : Int32).toNatClampNeg) + (1 : Int32)))) H := hP
  have hD : va_D A (wW_X9_countClean G h0 h1 h2 h3 y0_2 y0_3 a1 a2 (upd a3 (0 : Int32).toNatClampNeg ((a3 (0 : Int32).toNatClampNeg) + (1 : Int32)))) := hD
  refine lv_aload_n hx hb dX9_countClean_10 rfl (lv_at hl 0 rfl) ?_
  refine va_get (ci := 9) (v := .ref h1) (C := RX9) (T := TX9) (N := 5) hx hb ht0 iX9 hown hK hP 0 rfl rfl 0 (by decide) (ht0 _ wd_320) (fun _ h9 => h9) rfl dX9_countClean_11 ?_
  refine lv_iload_n hx hb dX9_countClean_14 rfl (lv_at hl 1 rfl) ?_
  obtain ⟨g1, hf⟩ := of_grd hf
  refine va_iald hx hb hK hP 1 0 rfl rfl g1 dX9_countClean_15 ?_
  refine lv_aload_n hx hb dX9_countClean_16 rfl (lv_at hl 0 rfl) ?_
  refine va_get (ci := 9) (v := .ref h2) (C := RX9) (T := TX9) (N := 5) hx hb ht0 iX9 hown hK hP 0 rfl rfl 1 (by decide) (ht0 _ wd_322) (fun _ h9 => h9) rfl dX9_countClean_17 ?_
  refine lv_iload_n hx hb dX9_countClean_20 rfl (lv_at hl 1 rfl) ?_
  obtain ⟨g2, hf⟩ := of_grd hf
  refine va_iald hx hb hK hP 2 0 rfl rfl g2 dX9_countClean_21 ?_
  refine lv_icmp_eq (tgt := 36) hx hb dX9_countClean_22 (by decide) (fun c3 => ?_) (fun c3 => ?_)
  · have hf := of_pos hf c3
    cases hf
    exact ret_v hx hb hr hlk hK hP hD hS dX9_countClean_36
  · have hf := of_neg hf c3
    refine lv_aload_n hx hb dX9_countClean_25 rfl (lv_at hl 0 rfl) ?_
    refine va_get (ci := 9) (v := .ref h3) (C := RX9) (T := TX9) (N := 5) hx hb ht0 iX9 hown hK hP 0 rfl rfl 4 (by decide) (ht0 _ wd_328) (fun _ h9 => h9) rfl dX9_countClean_26 ?_
    refine lv_bipush (v := (6 : Int32)) hx hb dX9_countClean_29 (by decide) ?_
    refine lv_dup2_11 hx hb dX9_countClean_31 rfl rfl ?_
    refine va_iald hx hb hK hP 3 0 rfl rfl (show ¬ ixBad (6 : Int32) 8 by decide) dX9_countClean_32 ?_
    refine lv_iconst (v := (1 : Int32)) hx hb dX9_countClean_33 (by decide) ?_
    refine lv_iadd hx hb dX9_countClean_34 ?_
    refine va_iast hx hb hK hP hD hS 3 0 rfl rfl (show ¬ ixBad (6 : Int32) 8 by decide) dX9_countClean_35 (fun H locs hP hD hS => ?_)
    have hP : va_P G.1 vwCl (wW_X9_countClean G h0 h1 h2 h3 y0_2 y0_3 a1 a2 (upd (upd a3 (0 : Int32).toNatClampNeg ((a3 (0 : Int32).toNatClampNeg) + (1 : Int32))) (6 : Int32).toNatClampNeg (((upd a3 (0 : Int32).toNatClampNeg ((a3 (0 : Int32).toNatClampNeg) + (1 : Int32))) (6 : Int32).toNatClampNeg) + (1 : Int32)))) H := hP
    have hD : va_D A (wW_X9_countClean G h0 h1 h2 h3 y0_2 y0_3 a1 a2 (upd (upd a3 (0 : Int32).toNatClampNeg ((a3 (0 : Int32).toNatClampNeg) + (1 : Int32))) (6 : Int32).toNatClampNeg (((upd a3 (0 : Int32).toNatClampNeg ((a3 (0 : Int32).toNatClampNeg) + (1 : Int32))) (6 : Int32).toNatClampNeg) + (1 : Int32)))) := hD
    cases hf
    exact ret_v hx hb hr hlk hK hP hD hS dX9_countClean_36
theorem yk_X9_countClean : ykV yX9_countClean RX9 cX9_countClean 2 none 1 := ⟨wd_890, wd_30, wd_134, wd_891, rfl, by decide +kernel, by decide +kernel, by decide +kernel⟩
theorem dX9_mendAll_0 : decode cX9_mendAll 0 = .ok (.iconst 0, 1) := by decide +kernel
theorem dX9_mendAll_1 : decode cX9_mendAll 1 = .ok (.istore_n 3, 1) := by decide +kernel
theorem dX9_mendAll_2 : decode cX9_mendAll 2 = .ok (.iconst 0, 1) := by decide +kernel
theorem dX9_mendAll_3 : decode cX9_mendAll 3 = .ok (.istore 4, 2) := by decide +kernel
theorem dX9_mendAll_5 : decode cX9_mendAll 5 = .ok (.iload 4, 2) := by decide +kernel
theorem dX9_mendAll_7 : decode cX9_mendAll 7 = .ok (.bipush 16, 2) := by decide +kernel
theorem dX9_mendAll_9 : decode cX9_mendAll 9 = .ok (.if_icmp .ge 52, 3) := by decide +kernel
theorem dX9_mendAll_12 : decode cX9_mendAll 12 = .ok (.aload_n 0, 1) := by decide +kernel
theorem dX9_mendAll_13 : decode cX9_mendAll 13 = .ok (.getfield 21, 3) := by decide +kernel
theorem dX9_mendAll_16 : decode cX9_mendAll 16 = .ok (.iload 4, 2) := by decide +kernel
theorem dX9_mendAll_18 : decode cX9_mendAll 18 = .ok (.iaload, 1) := by decide +kernel
theorem dX9_mendAll_19 : decode cX9_mendAll 19 = .ok (.ifCond .ne 12, 3) := by decide +kernel
theorem dX9_mendAll_22 : decode cX9_mendAll 22 = .ok (.aload_n 0, 1) := by decide +kernel
theorem dX9_mendAll_23 : decode cX9_mendAll 23 = .ok (.iload 4, 2) := by decide +kernel
theorem dX9_mendAll_25 : decode cX9_mendAll 25 = .ok (.invokevirtual 83, 3) := by decide +kernel
theorem dX9_mendAll_28 : decode cX9_mendAll 28 = .ok (.goto 27, 3) := by decide +kernel
theorem dX9_mendAll_31 : decode cX9_mendAll 31 = .ok (.aload_n 0, 1) := by decide +kernel
theorem dX9_mendAll_32 : decode cX9_mendAll 32 = .ok (.aload_n 1, 1) := by decide +kernel
theorem dX9_mendAll_33 : decode cX9_mendAll 33 = .ok (.iload 4, 2) := by decide +kernel
theorem dX9_mendAll_35 : decode cX9_mendAll 35 = .ok (.aload_n 2, 1) := by decide +kernel
theorem dX9_mendAll_36 : decode cX9_mendAll 36 = .ok (.invokevirtual 87, 3) := by decide +kernel
theorem dX9_mendAll_39 : decode cX9_mendAll 39 = .ok (.pop, 1) := by decide +kernel
theorem dX9_mendAll_40 : decode cX9_mendAll 40 = .ok (.iload_n 3, 1) := by decide +kernel
theorem dX9_mendAll_41 : decode cX9_mendAll 41 = .ok (.aload_n 2, 1) := by decide +kernel
theorem dX9_mendAll_42 : decode cX9_mendAll 42 = .ok (.invokevirtual 91, 3) := by decide +kernel
theorem dX9_mendAll_45 : decode cX9_mendAll 45 = .ok (.ifCond .eq 7, 3) := by decide +kernel
theorem dX9_mendAll_48 : decode cX9_mendAll 48 = .ok (.iconst 0, 1) := by decide +kernel
theorem dX9_mendAll_49 : decode cX9_mendAll 49 = .ok (.goto 4, 3) := by decide +kernel
theorem dX9_mendAll_52 : decode cX9_mendAll 52 = .ok (.iconst 1, 1) := by decide +kernel
theorem dX9_mendAll_53 : decode cX9_mendAll 53 = .ok (.iadd, 1) := by decide +kernel
theorem dX9_mendAll_54 : decode cX9_mendAll 54 = .ok (.istore_n 3, 1) := by decide +kernel
theorem dX9_mendAll_55 : decode cX9_mendAll 55 = .ok (.iinc 4 1, 3) := by decide +kernel
theorem dX9_mendAll_58 : decode cX9_mendAll 58 = .ok (.goto (-53), 3) := by decide +kernel
theorem dX9_mendAll_61 : decode cX9_mendAll 61 = .ok (.iload_n 3, 1) := by decide +kernel
theorem dX9_mendAll_62 : decode cX9_mendAll 62 = .ok (.ireturn, 1) := by decide +kernel
def wW_X9_mendAll (G : GG) (h0 h1 h2 h3 h4 h5 h6 h7 h8 h9 h10 : Nat) (a1 : Nat → Int32) (a2 : Nat → Int32) (a3 : Nat → Int32) (a4 : Nat → Int32) (a5 : Nat → Int32) (x6_0 : Int32) (x6_1 : Int32) (x6_2 : Int32) (a7 : Nat → Int32) (a8 : Nat → Int32) (a9 : Nat → Int32) (x10_0 : Int32) (x10_1 : Int32) (x10_2 : Int32) : va_W := [(h0, .inr (9, [.ref h1, .ref h2, .ref h3, .ref h4, .ref h5])), (h1, .inl (G.2.1, 16, .inl a1)), (h2, .inl (G.2.1, 16, .inl a2)), (h3, .inl (G.2.1, 16, .inl a3)), (h4, .inl (G.2.1, 16, .inl a4)), (h5, .inl (G.2.1, 8, .inl a5)), (h6, .inr (1, [.int x6_0, .int x6_1, .int x6_2, .ref h7, .ref h8, .ref h9])), (h7, .inl (G.2.1, 32, .inl a7)), (h8, .inl (G.2.1, 256, .inl a8)), (h9, .inl (G.2.1, 256, .inl a9)), (h10, .inr (2, [.int x10_0, .int x10_1, .int x10_2]))]
set_option maxHeartbeats 4000000 in
set_option maxRecDepth 100000 in
theorem c_X9_mendAll (l : Launch) (G : GG) (h0 h1 h2 h3 h4 h5 h6 h7 h8 h9 h10 : Nat) (sz : Nat) (a1 : Nat → Int32) (a2 : Nat → Int32) (a3 : Nat → Int32) (a4 : Nat → Int32) (a5 : Nat → Int32) (x6_0 : Int32) (x6_1 : Int32) (x6_2 : Int32) (a7 : Nat → Int32) (a8 : Nat → Int32) (a9 : Nat → Int32) (x10_0 : Int32) (x10_1 : Int32) (x10_2 : Int32) (F : Nat)   (r0 : Int32) (e_a1 : Nat → Int32) (e_a4 : Nat → Int32) (e_a5 : Nat → Int32) (e_x10_0 : Int32) (e_x10_1 : Int32) (e_x10_2 : Int32) (hf : p_X9_mendAll F a1 a2 a3 a4 a5 x6_0 x6_1 x6_2 a7 a8 a9 x10_0 x10_1 x10_2  = some (r0, e_a1, e_a4, e_a5, e_x10_0, e_x10_1, e_x10_2)) : Met l yX9_mendAll (.code yX9_mendAll cX9_mendAll 5 (some .int) :: gtbl) ({ frames := 4, cells := 0, slots := 0, locals := 99 } : Room) (PcS G [.ref h0, .ref h6, .ref h10] (wW_X9_mendAll G h0 h1 h2 h3 h4 h5 h6 h7 h8 h9 h10 a1 a2 a3 a4 a5 x6_0 x6_1 x6_2 a7 a8 a9 x10_0 x10_1 x10_2) sz) (QiS G r0 (va_A (wW_X9_mendAll G h0 h1 h2 h3 h4 h5 h6 h7 h8 h9 h10 a1 a2 a3 a4 a5 x6_0 x6_1 x6_2 a7 a8 a9 x10_0 x10_1 x10_2) sz) (wW_X9_mendAll G h0 h1 h2 h3 h4 h5 h6 h7 h8 h9 h10 e_a1 a2 a3 e_a4 e_a5 x6_0 x6_1 x6_2 a7 a8 a9 e_x10_0 e_x10_1 e_x10_2)) 0 0 (va_A (wW_X9_mendAll G h0 h1 h2 h3 h4 h5 h6 h7 h8 h9 h10 a1 a2 a3 a4 a5 x6_0 x6_1 x6_2 a7 a8 a9 x10_0 x10_1 x10_2) sz) := by
  refine met_start (by decide) (Nat.le_of_ble_eq_true rfl) ?_
  intro p e s m below meth c hC hr hlk hnm hK hP hD hA hS hX ls hl
  obtain ⟨hx, hb, hml, hown, ht0⟩ := hC
  have hown : s.vm.findClass RX9 = some m.cls := hown
  generalize va_A (wW_X9_mendAll G h0 h1 h2 h3 h4 h5 h6 h7 h8 h9 h10 a1 a2 a3 a4 a5 x6_0 x6_1 x6_2 a7 a8 a9 x10_0 x10_1 x10_2) sz = A at hD hA hS hX ⊢
  have hl : lv_has ls 5 [(0, .ref h0), (1, .ref h6), (2, .ref h10)] := hl
  have hf : p_X9_mendAll F a1 a2 a3 a4 a5 x6_0 x6_1 x6_2 a7 a8 a9 x10_0 x10_1 x10_2  = some (r0, e_a1, e_a4, e_a5, e_x10_0, e_x10_1, e_x10_2) := hf
  have kL5 : ∀ (n5 : Nat) (u5_3 : Int32) (u5_4 : Int32) (a1_5 : Nat → Int32) (a4_5 : Nat → Int32) (a5_5 : Nat → Int32) (x10_0_5 : Int32) (x10_1_5 : Int32) (x10_2_5 : Int32), p_X9_mendAll_L5 F a2 a3 x6_0 x6_1 x6_2 a7 a8 a9 n5 u5_3 u5_4 a1_5 a4_5 a5_5 x10_0_5 x10_1_5 x10_2_5 = some (r0, e_a1, e_a4, e_a5, e_x10_0, e_x10_1, e_x10_2) → ∀ (H : Heap) (locs : List Loc), va_P G.1 vwCl (wW_X9_mendAll G h0 h1 h2 h3 h4 h5 h6 h7 h8 h9 h10 a1_5 a2 a3 a4_5 a5_5 x6_0 x6_1 x6_2 a7 a8 a9 x10_0_5 x10_1_5 x10_2_5) H → va_D A (wW_X9_mendAll G h0 h1 h2 h3 h4 h5 h6 h7 h8 h9 h10 a1_5 a2 a3 a4_5 a5_5 x6_0 x6_1 x6_2 a7 a8 a9 x10_0_5 x10_1_5 x10_2_5) → va_S A s.heap H locs → ∀ ls : Array Slot, lv_has ls 5 [(0, .ref h0), (1, .ref h6), (2, .ref h10), (3, .int u5_3), (4, .int u5_4)] → W p l e ({ frames := 4, cells := 0, slots := 0, locals := 99 } : Room) s m (List.toArray [.ref h0, .ref h6, .ref h10]) below meth c H locs 0 0 (MQ below (QiS G r0 A (wW_X9_mendAll G h0 h1 h2 h3 h4 h5 h6 h7 h8 h9 h10 e_a1 a2 a3 e_a4 e_a5 x6_0 x6_1 x6_2 a7 a8 a9 e_x10_0 e_x10_1 e_x10_2)) (List.toArray [.ref h0, .ref h6, .ref h10]) s 0 0 A) (F0 m 5 ls []) := by
    intro n5
    induction n5 with
    | zero =>
      intro u5_3 u5_4 a1_5 a4_5 a5_5 x10_0_5 x10_1_5 x10_2_5 hf
      cases hf
    | succ n5 ih5 =>
      have kJ55 : ∀ (u55_3 : Int32) (u55_4 : Int32) (a1_55 : Nat → Int32) (a4_55 : Nat → Int32) (a5_55 : Nat → Int32) (x10_0_55 : Int32) (x10_1_55 : Int32) (x10_2_55 : Int32), p_X9_mendAll_J55 F a2 a3 x6_0 x6_1 x6_2 a7 a8 a9 (p_X9_mendAll_L5 F a2 a3 x6_0 x6_1 x6_2 a7 a8 a9 n5) u55_3 u55_4 a1_55 a4_55 a5_55 x10_0_55 x10_1_55 x10_2_55 = some (r0, e_a1, e_a4, e_a5, e_x10_0, e_x10_1, e_x10_2) → ∀ (H : Heap) (locs : List Loc), va_P G.1 vwCl (wW_X9_mendAll G h0 h1 h2 h3 h4 h5 h6 h7 h8 h9 h10 a1_55 a2 a3 a4_55 a5_55 x6_0 x6_1 x6_2 a7 a8 a9 x10_0_55 x10_1_55 x10_2_55) H → va_D A (wW_X9_mendAll G h0 h1 h2 h3 h4 h5 h6 h7 h8 h9 h10 a1_55 a2 a3 a4_55 a5_55 x6_0 x6_1 x6_2 a7 a8 a9 x10_0_55 x10_1_55 x10_2_55) → va_S A s.heap H locs → ∀ ls : Array Slot, lv_has ls 5 [(0, .ref h0), (1, .ref h6), (2, .ref h10), (3, .int u55_3), (4, .int u55_4)] → W p l e ({ frames := 4, cells := 0, slots := 0, locals := 99 } : Room) s m (List.toArray [.ref h0, .ref h6, .ref h10]) below meth c H locs 0 0 (MQ below (QiS G r0 A (wW_X9_mendAll G h0 h1 h2 h3 h4 h5 h6 h7 h8 h9 h10 e_a1 a2 a3 e_a4 e_a5 x6_0 x6_1 x6_2 a7 a8 a9 e_x10_0 e_x10_1 e_x10_2)) (List.toArray [.ref h0, .ref h6, .ref h10]) s 0 0 A) (F0 m 55 ls []) := by
        intro u55_3 u55_4 a1_55 a4_55 a5_55 x10_0_55 x10_1_55 x10_2_55 hf H locs hP hD hS ls hl
        refine lv_iinc (v := u55_4 + (1 : Int32)) (lv' := [(4, .int (u55_4 + (1 : Int32))), (0, .ref h0), (1, .ref h6), (2, .ref h10), (3, .int u55_3)]) hx hb dX9_mendAll_55 hl (k := 4) rfl (by rfl) (by decide) rfl (fun ls hl => ?_)
        refine lv_goto (tgt := 5) hx hb dX9_mendAll_58 (by decide) ?_
        exact ih5 _ _ _ _ _ _ _ _ hf _ _ hP hD hS _ (lv_sub hl [1, 2, 3, 4, 0] rfl)
      have kJ53 : ∀ (u53_4 : Int32) (s53_0 : Int32) (s53_1 : Int32) (a1_53 : Nat → Int32) (a4_53 : Nat → Int32) (a5_53 : Nat → Int32) (x10_0_53 : Int32) (x10_1_53 : Int32) (x10_2_53 : Int32), p_X9_mendAll_J53 F a2 a3 x6_0 x6_1 x6_2 a7 a8 a9 (p_X9_mendAll_L5 F a2 a3 x6_0 x6_1 x6_2 a7 a8 a9 n5) u53_4 s53_0 s53_1 a1_53 a4_53 a5_53 x10_0_53 x10_1_53 x10_2_53 = some (r0, e_a1, e_a4, e_a5, e_x10_0, e_x10_1, e_x10_2) → ∀ (H : Heap) (locs : List Loc), va_P G.1 vwCl (wW_X9_mendAll G h0 h1 h2 h3 h4 h5 h6 h7 h8 h9 h10 a1_53 a2 a3 a4_53 a5_53 x6_0 x6_1 x6_2 a7 a8 a9 x10_0_53 x10_1_53 x10_2_53) H → va_D A (wW_X9_mendAll G h0 h1 h2 h3 h4 h5 h6 h7 h8 h9 h10 a1_53 a2 a3 a4_53 a5_53 x6_0 x6_1 x6_2 a7 a8 a9 x10_0_53 x10_1_53 x10_2_53) → va_S A s.heap H locs → ∀ ls : Array Slot, lv_has ls 5 [(0, .ref h0), (1, .ref h6), (2, .ref h10), (4, .int u53_4)] → W p l e ({ frames := 4, cells := 0, slots := 0, locals := 99 } : Room) s m (List.toArray [.ref h0, .ref h6, .ref h10]) below meth c H locs 0 0 (MQ below (QiS G r0 A (wW_X9_mendAll G h0 h1 h2 h3 h4 h5 h6 h7 h8 h9 h10 e_a1 a2 a3 e_a4 e_a5 x6_0 x6_1 x6_2 a7 a8 a9 e_x10_0 e_x10_1 e_x10_2)) (List.toArray [.ref h0, .ref h6, .ref h10]) s 0 0 A) (F0 m 53 ls [.int s53_1, .int s53_0]) := by
        intro u53_4 s53_0 s53_1 a1_53 a4_53 a5_53 x10_0_53 x10_1_53 x10_2_53 hf H locs hP hD hS ls hl
        refine lv_iadd hx hb dX9_mendAll_53 ?_
        refine lv_istore_n (lv' := [(3, .int (s53_0 + s53_1)), (0, .ref h0), (1, .ref h6), (2, .ref h10), (4, .int u53_4)]) hx hb dX9_mendAll_54 rfl hl (by decide) rfl (fun ls hl => ?_)
        exact kJ55 _ _ _ _ _ _ _ _ hf _ _ hP hD hS _ (lv_sub hl [1, 2, 3, 0, 4] rfl)
      intro u5_3 u5_4 a1_5 a4_5 a5_5 x10_0_5 x10_1_5 x10_2_5 hf H locs hP hD hS ls hl
      have hf : p_X9_mendAll_L5b F a2 a3 x6_0 x6_1 x6_2 a7 a8 a9 (p_X9_mendAll_L5 F a2 a3 x6_0 x6_1 x6_2 a7 a8 a9 n5) u5_3 u5_4 a1_5 a4_5 a5_5 x10_0_5 x10_1_5 x10_2_5 = some (r0, e_a1, e_a4, e_a5, e_x10_0, e_x10_1, e_x10_2) := hf
      refine lv_iload hx hb dX9_mendAll_5 (lv_at hl 4 rfl) ?_
      refine lv_bipush (v := (16 : Int32)) hx hb dX9_mendAll_7 (by decide) ?_
      refine lv_icmp_ge (tgt := 61) hx hb dX9_mendAll_9 (by decide) (fun c1 => ?_) (fun c1 => ?_)
      · have hf := of_pos hf c1
        refine lv_iload_n hx hb dX9_mendAll_61 rfl (lv_at hl 3 rfl) ?_
        cases hf
        exact ret_i hx hb hr hlk hK hP hD hS dX9_mendAll_62
      · have hf := of_neg hf c1
        refine lv_aload_n hx hb dX9_mendAll_12 rfl (lv_at hl 0 rfl) ?_
        refine va_get (ci := 9) (v := .ref h4) (C := RX9) (T := TX9) (N := 5) hx hb ht0 iX9 hown hK hP 0 rfl rfl 3 (by decide) (ht0 _ wd_326) (fun _ h9 => h9) rfl dX9_mendAll_13 ?_
        refine lv_iload hx hb dX9_mendAll_16 (lv_at hl 4 rfl) ?_
        obtain ⟨g2, hf⟩ := of_grd hf
        refine va_iald hx hb hK hP 4 0 rfl rfl g2 dX9_mendAll_18 ?_
        refine lv_if_ne (tgt := 31) hx hb dX9_mendAll_19 (by decide) (fun c3 => ?_) (fun c3 => ?_)
        · have hf := of_neg hf c3
          refine lv_aload_n hx hb dX9_mendAll_31 rfl (lv_at hl 0 rfl) ?_
          refine lv_aload_n hx hb dX9_mendAll_32 rfl (lv_at hl 1 rfl) ?_
          refine lv_iload hx hb dX9_mendAll_33 (lv_at hl 4 rfl) ?_
          refine lv_aload_n hx hb dX9_mendAll_35 rfl (lv_at hl 2 rfl) ?_
          obtain ⟨⟨r_36_3, r_36_3_a1, r_36_3_a4, r_36_3_a5, r_36_3_x10_0, r_36_3_x10_1, r_36_3_x10_2⟩, hc_r_36_3, hf⟩ := of_bnd hf
          refine cl_Vi (w2 := (wW_X9_mendAll G h0 h1 h2 h3 h4 h5 h6 h7 h8 h9 h10 r_36_3_a1 a2 a3 r_36_3_a4 r_36_3_a5 x6_0 x6_1 x6_2 a7 a8 a9 r_36_3_x10_0 r_36_3_x10_1 r_36_3_x10_2)) (As := [.ref h6, .int u5_4, .ref h10]) (rest := []) ⟨hx, hb, hml, hown, ht0⟩ (c_X9_mendWord l G h0 h1 h2 h3 h4 h5 h6 h7 h8 h9 h10 _ a1_5 a2 a3 a4_5 a5_5 x6_0 x6_1 x6_2 a7 a8 a9 x10_0_5 x10_1_5 x10_2_5 F u5_4 _ _ _ _ _ _ _ hc_r_36_3) yk_X9_mendWord wd_892 ⟨rfl, rfl, by decide, by decide⟩ ⟨Nat.le_refl _, Nat.le_refl _⟩ hX hK hP hD hS hA [0, 1, 2, 3, 4, 5, 6, 7, 8, 9, 10] [] [0, 1, 2, 3, 4, 5, 6, 7, 8, 9, 10] (va_recv hK hP (ci := 9) (q0 := 0) rfl rfl) rfl rfl (by decide) rfl rfl rfl rfl rfl hl.1 rfl (Nat.le_of_ble_eq_true rfl) dX9_mendAll_36 (fun H locs hP hD hS => ?_)
          refine lv_pop hx hb dX9_mendAll_39 rfl ?_
          refine lv_iload_n hx hb dX9_mendAll_40 rfl (lv_at hl 3 rfl) ?_
          refine lv_aload_n hx hb dX9_mendAll_41 rfl (lv_at hl 2 rfl) ?_
          obtain ⟨r_42_4, hc_r_42_4, hf⟩ := of_bnd hf
          refine cl_Vi (w2 := (wW_X9_mendAll G h0 h1 h2 h3 h4 h5 h6 h7 h8 h9 h10 r_36_3_a1 a2 a3 r_36_3_a4 r_36_3_a5 x6_0 x6_1 x6_2 a7 a8 a9 r_36_3_x10_0 r_36_3_x10_1 r_36_3_x10_2)) (As := []) (rest := [.int u5_3]) ⟨hx, hb, hml, hown, ht0⟩ (c_X2_isTold l G h10 _ r_36_3_x10_0 r_36_3_x10_1 r_36_3_x10_2 F _ hc_r_42_4) yk_X2_isTold wd_893 ⟨rfl, rfl, by decide, by decide⟩ ⟨Nat.le_refl _, Nat.le_refl _⟩ hX hK hP hD hS hA [10] [0, 1, 2, 3, 4, 5, 6, 7, 8, 9] [0, 1, 2, 3, 4, 5, 6, 7, 8, 9, 10] (va_recv hK hP (ci := 2) (q0 := 10) rfl rfl) rfl rfl (by decide) rfl rfl rfl rfl rfl hl.1 rfl (Nat.le_of_ble_eq_true rfl) dX9_mendAll_42 (fun H locs hP hD hS => ?_)
          refine lv_if_eq (tgt := 52) hx hb dX9_mendAll_45 (by decide) (fun c6 => ?_) (fun c6 => ?_)
          · have hf := of_pos hf c6
            refine lv_iconst (v := (1 : Int32)) hx hb dX9_mendAll_52 (by decide) ?_
            exact kJ53 _ _ _ _ _ _ _ _ _ hf _ _ hP hD hS _ (lv_sub hl [0, 1, 2, 4] rfl)
          · have hf := of_neg hf c6
            refine lv_iconst (v := (0 : Int32)) hx hb dX9_mendAll_48 (by decide) ?_
            refine lv_goto (tgt := 53) hx hb dX9_mendAll_49 (by decide) ?_
            exact kJ53 _ _ _ _ _ _ _ _ _ hf _ _ hP hD hS _ (lv_sub hl [0, 1, 2, 4] rfl)
        · have hf := of_pos hf c3
          refine lv_aload_n hx hb dX9_mendAll_22 rfl (lv_at hl 0 rfl) ?_
          refine lv_iload hx hb dX9_mendAll_23 (lv_at hl 4 rfl) ?_
          obtain ⟨r_25_6_a3, hc_r_25_6, hf⟩ := of_bnd hf
          refine cl_Vv (w2 := (wW_X9_mendAll G h0 h1 h2 h3 h4 h5 h6 h7 h8 h9 h10 a1_5 a2 a3 a4_5 r_25_6_a3 x6_0 x6_1 x6_2 a7 a8 a9 x10_0_5 x10_1_5 x10_2_5)) (As := [.int u5_4]) (rest := []) ⟨hx, hb, hml, hown, ht0⟩ (c_X9_countClean l G h0 h1 h2 h5 h3 h4 _ a1_5 a2 a5_5 F u5_4 _ hc_r_25_6) yk_X9_countClean wd_888 ⟨rfl, rfl, by decide, by decide⟩ ⟨Nat.le_refl _, Nat.le_refl _⟩ hX hK hP hD hS hA [0, 1, 2, 5] [3, 4, 6, 7, 8, 9, 10] [7, 8, 9, 0, 1, 10, 2, 3, 4, 5, 6] (va_recv hK hP (ci := 9) (q0 := 0) rfl rfl) rfl rfl (by decide) rfl rfl rfl rfl rfl hl.1 rfl (Nat.le_of_ble_eq_true rfl) dX9_mendAll_25 (fun H locs hP hD hS => ?_)
          refine lv_goto (tgt := 55) hx hb dX9_mendAll_28 (by decide) ?_
          exact kJ55 _ _ _ _ _ _ _ _ hf _ _ hP hD hS _ (lv_sub hl [0, 1, 2, 3, 4] rfl)
  refine lv_iconst (v := (0 : Int32)) hx hb dX9_mendAll_0 (by decide) ?_
  refine lv_istore_n (lv' := [(3, .int (0 : Int32)), (0, .ref h0), (1, .ref h6), (2, .ref h10)]) hx hb dX9_mendAll_1 rfl hl (by decide) rfl (fun ls hl => ?_)
  refine lv_iconst (v := (0 : Int32)) hx hb dX9_mendAll_2 (by decide) ?_
  refine lv_istore (lv' := [(4, .int (0 : Int32)), (3, .int (0 : Int32)), (0, .ref h0), (1, .ref h6), (2, .ref h10)]) hx hb dX9_mendAll_3 hl (by decide) rfl (fun ls hl => ?_)
  exact kL5 _ _ _ _ _ _ _ _ _ hf _ _ hP hD hS _ (lv_sub hl [2, 3, 4, 1, 0] rfl)
theorem yk_X9_mendAll : ykV yX9_mendAll RX9 cX9_mendAll 5 (some .int) 2 := ⟨wd_885, wd_886, wd_134, wd_887, rfl, by decide +kernel, by decide +kernel, by decide +kernel⟩
theorem dX9_nextDraw_0 : decode cX9_nextDraw 0 = .ok (.iload_n 0, 1) := by decide +kernel
theorem dX9_nextDraw_1 : decode cX9_nextDraw 1 = .ok (.sipush 137, 3) := by decide +kernel
theorem dX9_nextDraw_4 : decode cX9_nextDraw 4 = .ok (.imul, 1) := by decide +kernel
theorem dX9_nextDraw_5 : decode cX9_nextDraw 5 = .ok (.bipush 71, 2) := by decide +kernel
theorem dX9_nextDraw_7 : decode cX9_nextDraw 7 = .ok (.iadd, 1) := by decide +kernel
theorem dX9_nextDraw_8 : decode cX9_nextDraw 8 = .ok (.sipush 10007, 3) := by decide +kernel
theorem dX9_nextDraw_11 : decode cX9_nextDraw 11 = .ok (.irem, 1) := by decide +kernel
theorem dX9_nextDraw_12 : decode cX9_nextDraw 12 = .ok (.ireturn, 1) := by decide +kernel
set_option maxHeartbeats 4000000 in
set_option maxRecDepth 100000 in
theorem c_X9_nextDraw (l : Launch) (G : GG) (sz : Nat)  (F : Nat) (b0 : Int32)  (r0 : Int32) (hf : p_X9_nextDraw F b0 = some r0) : Met l yX9_nextDraw (.code yX9_nextDraw cX9_nextDraw 1 (some .int) :: gtbl) ({ frames := 0, cells := 0, slots := 0, locals := 0 } : Room) (PcS G [.int b0] [] sz) (QiS G r0 (va_A [] sz) []) 0 0 (va_A [] sz) := by
  refine met_start (by decide) (Nat.le_of_ble_eq_true rfl) ?_
  intro p e s m below meth c hC hr hlk hnm hK hP hD hA hS hX ls hl
  obtain ⟨hx, hb, hml, hown, ht0⟩ := hC
  have hown : s.vm.findClass RX9 = some m.cls := hown
  generalize va_A [] sz = A at hD hA hS hX ⊢
  have hl : lv_has ls 1 [(0, .int b0)] := hl
  have hf : p_X9_nextDraw F b0 = some r0 := hf
  refine lv_iload_n hx hb dX9_nextDraw_0 rfl (lv_at hl 0 rfl) ?_
  refine lv_sipush (v := (137 : Int32)) hx hb dX9_nextDraw_1 (by decide) ?_
  refine lv_imul hx hb dX9_nextDraw_4 ?_
  refine lv_bipush (v := (71 : Int32)) hx hb dX9_nextDraw_5 (by decide) ?_
  refine lv_iadd hx hb dX9_nextDraw_7 ?_
  refine lv_sipush (v := (10007 : Int32)) hx hb dX9_nextDraw_8 (by decide) ?_
  refine lv_irem hx hb dX9_nextDraw_11 (by decide) ?_
  cases hf
  exact ret_i hx hb hr hlk hK hP hD hS dX9_nextDraw_12
theorem yk_X9_nextDraw : ykS yX9_nextDraw cX9_nextDraw 1 (some .int) 1 := ⟨wd_923, wd_134, wd_924, by decide +kernel, by decide +kernel, by decide +kernel⟩
theorem dX9_runStorm_0 : decode cX9_runStorm 0 = .ok (.aload_n 1, 1) := by decide +kernel
theorem dX9_runStorm_1 : decode cX9_runStorm 1 = .ok (.invokevirtual 95, 3) := by decide +kernel
theorem dX9_runStorm_4 : decode cX9_runStorm 4 = .ok (.istore 6, 2) := by decide +kernel
theorem dX9_runStorm_6 : decode cX9_runStorm 6 = .ok (.iload_n 2, 1) := by decide +kernel
theorem dX9_runStorm_7 : decode cX9_runStorm 7 = .ok (.istore 7, 2) := by decide +kernel
theorem dX9_runStorm_9 : decode cX9_runStorm 9 = .ok (.iconst 1, 1) := by decide +kernel
theorem dX9_runStorm_10 : decode cX9_runStorm 10 = .ok (.istore 8, 2) := by decide +kernel
theorem dX9_runStorm_12 : decode cX9_runStorm 12 = .ok (.iload 8, 2) := by decide +kernel
theorem dX9_runStorm_14 : decode cX9_runStorm 14 = .ok (.iload_n 3, 1) := by decide +kernel
theorem dX9_runStorm_15 : decode cX9_runStorm 15 = .ok (.if_icmp .gt 70, 3) := by decide +kernel
theorem dX9_runStorm_18 : decode cX9_runStorm 18 = .ok (.iload 6, 2) := by decide +kernel
theorem dX9_runStorm_20 : decode cX9_runStorm 20 = .ok (.ifCond .le 65, 3) := by decide +kernel
theorem dX9_runStorm_23 : decode cX9_runStorm 23 = .ok (.iload 7, 2) := by decide +kernel
theorem dX9_runStorm_25 : decode cX9_runStorm 25 = .ok (.invokestatic 99, 3) := by decide +kernel
theorem dX9_runStorm_28 : decode cX9_runStorm 28 = .ok (.istore 7, 2) := by decide +kernel
theorem dX9_runStorm_30 : decode cX9_runStorm 30 = .ok (.iload 7, 2) := by decide +kernel
theorem dX9_runStorm_32 : decode cX9_runStorm 32 = .ok (.bipush 16, 2) := by decide +kernel
theorem dX9_runStorm_34 : decode cX9_runStorm 34 = .ok (.irem, 1) := by decide +kernel
theorem dX9_runStorm_35 : decode cX9_runStorm 35 = .ok (.istore 9, 2) := by decide +kernel
theorem dX9_runStorm_37 : decode cX9_runStorm 37 = .ok (.iload 7, 2) := by decide +kernel
theorem dX9_runStorm_39 : decode cX9_runStorm 39 = .ok (.invokestatic 99, 3) := by decide +kernel
theorem dX9_runStorm_42 : decode cX9_runStorm 42 = .ok (.istore 7, 2) := by decide +kernel
theorem dX9_runStorm_44 : decode cX9_runStorm 44 = .ok (.aload_n 0, 1) := by decide +kernel
theorem dX9_runStorm_45 : decode cX9_runStorm 45 = .ok (.aload_n 1, 1) := by decide +kernel
theorem dX9_runStorm_46 : decode cX9_runStorm 46 = .ok (.iload 9, 2) := by decide +kernel
theorem dX9_runStorm_48 : decode cX9_runStorm 48 = .ok (.iconst 1, 1) := by decide +kernel
theorem dX9_runStorm_49 : decode cX9_runStorm 49 = .ok (.iload 7, 2) := by decide +kernel
theorem dX9_runStorm_51 : decode cX9_runStorm 51 = .ok (.iload 6, 2) := by decide +kernel
theorem dX9_runStorm_53 : decode cX9_runStorm 53 = .ok (.irem, 1) := by decide +kernel
theorem dX9_runStorm_54 : decode cX9_runStorm 54 = .ok (.ishl, 1) := by decide +kernel
theorem dX9_runStorm_55 : decode cX9_runStorm 55 = .ok (.invokevirtual 102, 3) := by decide +kernel
theorem dX9_runStorm_58 : decode cX9_runStorm 58 = .ok (.iload 4, 2) := by decide +kernel
theorem dX9_runStorm_60 : decode cX9_runStorm 60 = .ok (.ifCond .le 19, 3) := by decide +kernel
theorem dX9_runStorm_63 : decode cX9_runStorm 63 = .ok (.iload 8, 2) := by decide +kernel
theorem dX9_runStorm_65 : decode cX9_runStorm 65 = .ok (.iload 4, 2) := by decide +kernel
theorem dX9_runStorm_67 : decode cX9_runStorm 67 = .ok (.irem, 1) := by decide +kernel
theorem dX9_runStorm_68 : decode cX9_runStorm 68 = .ok (.ifCond .ne 11, 3) := by decide +kernel
theorem dX9_runStorm_71 : decode cX9_runStorm 71 = .ok (.aload_n 0, 1) := by decide +kernel
theorem dX9_runStorm_72 : decode cX9_runStorm 72 = .ok (.aload_n 1, 1) := by decide +kernel
theorem dX9_runStorm_73 : decode cX9_runStorm 73 = .ok (.aload 5, 2) := by decide +kernel
theorem dX9_runStorm_75 : decode cX9_runStorm 75 = .ok (.invokevirtual 105, 3) := by decide +kernel
theorem dX9_runStorm_78 : decode cX9_runStorm 78 = .ok (.pop, 1) := by decide +kernel
theorem dX9_runStorm_79 : decode cX9_runStorm 79 = .ok (.iinc 8 1, 3) := by decide +kernel
theorem dX9_runStorm_82 : decode cX9_runStorm 82 = .ok (.goto (-70), 3) := by decide +kernel
theorem dX9_runStorm_85 : decode cX9_runStorm 85 = .ok (.return_, 1) := by decide +kernel
def wW_X9_runStorm (G : GG) (h0 h1 h2 h3 h4 h5 h6 h7 h8 h9 h10 : Nat) (a1 : Nat → Int32) (a2 : Nat → Int32) (a3 : Nat → Int32) (a4 : Nat → Int32) (a5 : Nat → Int32) (x6_0 : Int32) (x6_1 : Int32) (x6_2 : Int32) (a7 : Nat → Int32) (a8 : Nat → Int32) (a9 : Nat → Int32) (x10_0 : Int32) (x10_1 : Int32) (x10_2 : Int32) : va_W := [(h0, .inr (9, [.ref h1, .ref h2, .ref h3, .ref h4, .ref h5])), (h1, .inl (G.2.1, 16, .inl a1)), (h2, .inl (G.2.1, 16, .inl a2)), (h3, .inl (G.2.1, 16, .inl a3)), (h4, .inl (G.2.1, 16, .inl a4)), (h5, .inl (G.2.1, 8, .inl a5)), (h6, .inr (1, [.int x6_0, .int x6_1, .int x6_2, .ref h7, .ref h8, .ref h9])), (h7, .inl (G.2.1, 32, .inl a7)), (h8, .inl (G.2.1, 256, .inl a8)), (h9, .inl (G.2.1, 256, .inl a9)), (h10, .inr (2, [.int x10_0, .int x10_1, .int x10_2]))]
set_option maxHeartbeats 4000000 in
set_option maxRecDepth 100000 in
theorem c_X9_runStorm (l : Launch) (G : GG) (h0 h1 h2 h3 h4 h5 h6 h7 h8 h9 h10 : Nat) (sz : Nat) (a1 : Nat → Int32) (a2 : Nat → Int32) (a3 : Nat → Int32) (a4 : Nat → Int32) (a5 : Nat → Int32) (x6_0 : Int32) (x6_1 : Int32) (x6_2 : Int32) (a7 : Nat → Int32) (a8 : Nat → Int32) (a9 : Nat → Int32) (x10_0 : Int32) (x10_1 : Int32) (x10_2 : Int32) (F : Nat) (b2 : Int32) (b3 : Int32) (b4 : Int32)  (e_a1 : Nat → Int32) (e_a4 : Nat → Int32) (e_a5 : Nat → Int32) (e_x10_0 : Int32) (e_x10_1 : Int32) (e_x10_2 : Int32) (hf : p_X9_runStorm F a1 a2 a3 a4 a5 x6_0 x6_1 x6_2 a7 a8 a9 x10_0 x10_1 x10_2 b2 b3 b4 = some (e_a1, e_a4, e_a5, e_x10_0, e_x10_1, e_x10_2)) : Met l yX9_runStorm (.code yX9_runStorm cX9_runStorm 10 none :: gtbl) ({ frames := 5, cells := 0, slots := 0, locals := 123 } : Room) (PcS G [.ref h0, .ref h6, .int b2, .int b3, .int b4, .ref h10] (wW_X9_runStorm G h0 h1 h2 h3 h4 h5 h6 h7 h8 h9 h10 a1 a2 a3 a4 a5 x6_0 x6_1 x6_2 a7 a8 a9 x10_0 x10_1 x10_2) sz) (QvS G (va_A (wW_X9_runStorm G h0 h1 h2 h3 h4 h5 h6 h7 h8 h9 h10 a1 a2 a3 a4 a5 x6_0 x6_1 x6_2 a7 a8 a9 x10_0 x10_1 x10_2) sz) (wW_X9_runStorm G h0 h1 h2 h3 h4 h5 h6 h7 h8 h9 h10 e_a1 a2 a3 e_a4 e_a5 x6_0 x6_1 x6_2 a7 a8 a9 e_x10_0 e_x10_1 e_x10_2)) 0 0 (va_A (wW_X9_runStorm G h0 h1 h2 h3 h4 h5 h6 h7 h8 h9 h10 a1 a2 a3 a4 a5 x6_0 x6_1 x6_2 a7 a8 a9 x10_0 x10_1 x10_2) sz) := by
  refine met_start (by decide) (Nat.le_of_ble_eq_true rfl) ?_
  intro p e s m below meth c hC hr hlk hnm hK hP hD hA hS hX ls hl
  obtain ⟨hx, hb, hml, hown, ht0⟩ := hC
  have hown : s.vm.findClass RX9 = some m.cls := hown
  generalize va_A (wW_X9_runStorm G h0 h1 h2 h3 h4 h5 h6 h7 h8 h9 h10 a1 a2 a3 a4 a5 x6_0 x6_1 x6_2 a7 a8 a9 x10_0 x10_1 x10_2) sz = A at hD hA hS hX ⊢
  have hl : lv_has ls 10 [(0, .ref h0), (1, .ref h6), (2, .int b2), (3, .int b3), (4, .int b4), (5, .ref h10)] := hl
  have hf : p_X9_runStorm F a1 a2 a3 a4 a5 x6_0 x6_1 x6_2 a7 a8 a9 x10_0 x10_1 x10_2 b2 b3 b4 = some (e_a1, e_a4, e_a5, e_x10_0, e_x10_1, e_x10_2) := hf
  have kL12 : ∀ (c12_3 : Int32) (c12_4 : Int32) (c12_6 : Int32) (n12 : Nat) (u12_7 : Int32) (u12_8 : Int32) (a1_12 : Nat → Int32) (a4_12 : Nat → Int32) (a5_12 : Nat → Int32) (x10_0_12 : Int32) (x10_1_12 : Int32) (x10_2_12 : Int32), p_X9_runStorm_L12 F a2 a3 x6_0 x6_1 x6_2 a7 a8 a9 c12_3 c12_4 c12_6 n12 u12_7 u12_8 a1_12 a4_12 a5_12 x10_0_12 x10_1_12 x10_2_12 = some (e_a1, e_a4, e_a5, e_x10_0, e_x10_1, e_x10_2) → ∀ (H : Heap) (locs : List Loc), va_P G.1 vwCl (wW_X9_runStorm G h0 h1 h2 h3 h4 h5 h6 h7 h8 h9 h10 a1_12 a2 a3 a4_12 a5_12 x6_0 x6_1 x6_2 a7 a8 a9 x10_0_12 x10_1_12 x10_2_12) H → va_D A (wW_X9_runStorm G h0 h1 h2 h3 h4 h5 h6 h7 h8 h9 h10 a1_12 a2 a3 a4_12 a5_12 x6_0 x6_1 x6_2 a7 a8 a9 x10_0_12 x10_1_12 x10_2_12) → va_S A s.heap H locs → ∀ ls : Array Slot, lv_has ls 10 [(0, .ref h0), (1, .ref h6), (3, .int c12_3), (4, .int c12_4), (5, .ref h10), (6, .int c12_6), (7, .int u12_7), (8, .int u12_8)] → W p l e ({ frames := 5, cells := 0, slots := 0, locals := 123 } : Room) s m (List.toArray [.ref h0, .ref h6, .int b2, .int b3, .int b4, .ref h10]) below meth c H locs 0 0 (MQ below (QvS G A (wW_X9_runStorm G h0 h1 h2 h3 h4 h5 h6 h7 h8 h9 h10 e_a1 a2 a3 e_a4 e_a5 x6_0 x6_1 x6_2 a7 a8 a9 e_x10_0 e_x10_1 e_x10_2)) (List.toArray [.ref h0, .ref h6, .int b2, .int b3, .int b4, .ref h10]) s 0 0 A) (F0 m 12 ls []) := by
    intro c12_3 c12_4 c12_6 n12
    induction n12 with
    | zero =>
      intro u12_7 u12_8 a1_12 a4_12 a5_12 x10_0_12 x10_1_12 x10_2_12 hf
      cases hf
    | succ n12 ih12 =>
      have kJ79 : ∀ (u79_7 : Int32) (u79_8 : Int32) (a1_79 : Nat → Int32) (a4_79 : Nat → Int32) (a5_79 : Nat → Int32) (x10_0_79 : Int32) (x10_1_79 : Int32) (x10_2_79 : Int32), p_X9_runStorm_J79 F a2 a3 x6_0 x6_1 x6_2 a7 a8 a9 c12_3 c12_4 c12_6 (p_X9_runStorm_L12 F a2 a3 x6_0 x6_1 x6_2 a7 a8 a9 c12_3 c12_4 c12_6 n12) u79_7 u79_8 a1_79 a4_79 a5_79 x10_0_79 x10_1_79 x10_2_79 = some (e_a1, e_a4, e_a5, e_x10_0, e_x10_1, e_x10_2) → ∀ (H : Heap) (locs : List Loc), va_P G.1 vwCl (wW_X9_runStorm G h0 h1 h2 h3 h4 h5 h6 h7 h8 h9 h10 a1_79 a2 a3 a4_79 a5_79 x6_0 x6_1 x6_2 a7 a8 a9 x10_0_79 x10_1_79 x10_2_79) H → va_D A (wW_X9_runStorm G h0 h1 h2 h3 h4 h5 h6 h7 h8 h9 h10 a1_79 a2 a3 a4_79 a5_79 x6_0 x6_1 x6_2 a7 a8 a9 x10_0_79 x10_1_79 x10_2_79) → va_S A s.heap H locs → ∀ ls : Array Slot, lv_has ls 10 [(0, .ref h0), (1, .ref h6), (3, .int c12_3), (4, .int c12_4), (5, .ref h10), (6, .int c12_6), (7, .int u79_7), (8, .int u79_8)] → W p l e ({ frames := 5, cells := 0, slots := 0, locals := 123 } : Room) s m (List.toArray [.ref h0, .ref h6, .int b2, .int b3, .int b4, .ref h10]) below meth c H locs 0 0 (MQ below (QvS G A (wW_X9_runStorm G h0 h1 h2 h3 h4 h5 h6 h7 h8 h9 h10 e_a1 a2 a3 e_a4 e_a5 x6_0 x6_1 x6_2 a7 a8 a9 e_x10_0 e_x10_1 e_x10_2)) (List.toArray [.ref h0, .ref h6, .int b2, .int b3, .int b4, .ref h10]) s 0 0 A) (F0 m 79 ls []) := by
        intro u79_7 u79_8 a1_79 a4_79 a5_79 x10_0_79 x10_1_79 x10_2_79 hf H locs hP hD hS ls hl
        refine lv_iinc (v := u79_8 + (1 : Int32)) (lv' := [(8, .int (u79_8 + (1 : Int32))), (0, .ref h0), (1, .ref h6), (3, .int c12_3), (4, .int c12_4), (5, .ref h10), (6, .int c12_6), (7, .int u79_7)]) hx hb dX9_runStorm_79 hl (k := 7) rfl (by rfl) (by decide) rfl (fun ls hl => ?_)
        refine lv_goto (tgt := 12) hx hb dX9_runStorm_82 (by decide) ?_
        exact ih12 _ _ _ _ _ _ _ _ hf _ _ hP hD hS _ (lv_sub hl [1, 2, 3, 4, 5, 6, 7, 0] rfl)
      intro u12_7 u12_8 a1_12 a4_12 a5_12 x10_0_12 x10_1_12 x10_2_12 hf H locs hP hD hS ls hl
      have hf : p_X9_runStorm_L12b F a2 a3 x6_0 x6_1 x6_2 a7 a8 a9 c12_3 c12_4 c12_6 (p_X9_runStorm_L12 F a2 a3 x6_0 x6_1 x6_2 a7 a8 a9 c12_3 c12_4 c12_6 n12) u12_7 u12_8 a1_12 a4_12 a5_12 x10_0_12 x10_1_12 x10_2_12 = some (e_a1, e_a4, e_a5, e_x10_0, e_x10_1, e_x10_2) := hf
      refine lv_iload hx hb dX9_runStorm_12 (lv_at hl 7 rfl) ?_
      refine lv_iload_n hx hb dX9_runStorm_14 rfl (lv_at hl 2 rfl) ?_
      refine lv_icmp_gt (tgt := 85) hx hb dX9_runStorm_15 (by decide) (fun c1 => ?_) (fun c1 => ?_)
      · have hf := of_pos hf c1
        cases hf
        exact ret_v hx hb hr hlk hK hP hD hS dX9_runStorm_85
      · have hf := of_neg hf c1
        refine lv_iload hx hb dX9_runStorm_18 (lv_at hl 5 rfl) ?_
        refine lv_if_le (tgt := 85) hx hb dX9_runStorm_20 (by decide) (fun c2 => ?_) (fun c2 => ?_)
        · have hf := of_pos hf c2
          cases hf
          exact ret_v hx hb hr hlk hK hP hD hS dX9_runStorm_85
        · have hf := of_neg hf c2
          refine lv_iload hx hb dX9_runStorm_23 (lv_at hl 6 rfl) ?_
          obtain ⟨r_25_2, hc_r_25_2, hf⟩ := of_bnd hf
          refine cl_Si (w2 := (wW_X9_runStorm G h0 h1 h2 h3 h4 h5 h6 h7 h8 h9 h10 a1_12 a2 a3 a4_12 a5_12 x6_0 x6_1 x6_2 a7 a8 a9 x10_0_12 x10_1_12 x10_2_12)) (As := [.int u12_7]) (rest := []) ⟨hx, hb, hml, hown, ht0⟩ (c_X9_nextDraw l G _ F u12_7 _ hc_r_25_2) yk_X9_nextDraw wd_922 ⟨rfl, rfl, by decide, by decide⟩ ⟨Nat.le_refl _, Nat.le_refl _⟩ hX hK hP hD hS hA [] [0, 1, 2, 3, 4, 5, 6, 7, 8, 9, 10] [0, 1, 2, 3, 4, 5, 6, 7, 8, 9, 10] rfl rfl (by decide) rfl rfl rfl rfl rfl hl.1 rfl (Nat.le_of_ble_eq_true rfl) dX9_runStorm_25 (fun H locs hP hD hS => ?_)
          refine lv_istore (lv' := [(7, .int r_25_2), (0, .ref h0), (1, .ref h6), (3, .int c12_3), (4, .int c12_4), (5, .ref h10), (6, .int c12_6), (8, .int u12_8)]) hx hb dX9_runStorm_28 hl (by decide) rfl (fun ls hl => ?_)
          refine lv_iload hx hb dX9_runStorm_30 (lv_at hl 0 rfl) ?_
          refine lv_bipush (v := (16 : Int32)) hx hb dX9_runStorm_32 (by decide) ?_
          refine lv_irem hx hb dX9_runStorm_34 (by decide) ?_
          refine lv_topi (fun z4 ez4 => ?_)
          have hf := of_jlet hf ez4
          refine lv_istore (lv' := [(9, .int z4), (7, .int r_25_2), (0, .ref h0), (1, .ref h6), (3, .int c12_3), (4, .int c12_4), (5, .ref h10), (6, .int c12_6), (8, .int u12_8)]) hx hb dX9_runStorm_35 hl (by decide) rfl (fun ls hl => ?_)
          refine lv_iload hx hb dX9_runStorm_37 (lv_at hl 1 rfl) ?_
          obtain ⟨r_39_4, hc_r_39_4, hf⟩ := of_bnd hf
          refine cl_Si (w2 := (wW_X9_runStorm G h0 h1 h2 h3 h4 h5 h6 h7 h8 h9 h10 a1_12 a2 a3 a4_12 a5_12 x6_0 x6_1 x6_2 a7 a8 a9 x10_0_12 x10_1_12 x10_2_12)) (As := [.int r_25_2]) (rest := []) ⟨hx, hb, hml, hown, ht0⟩ (c_X9_nextDraw l G _ F r_25_2 _ hc_r_39_4) yk_X9_nextDraw wd_922 ⟨rfl, rfl, by decide, by decide⟩ ⟨Nat.le_refl _, Nat.le_refl _⟩ hX hK hP hD hS hA [] [0, 1, 2, 3, 4, 5, 6, 7, 8, 9, 10] [0, 1, 2, 3, 4, 5, 6, 7, 8, 9, 10] rfl rfl (by decide) rfl rfl rfl rfl rfl hl.1 rfl (Nat.le_of_ble_eq_true rfl) dX9_runStorm_39 (fun H locs hP hD hS => ?_)
          refine lv_istore (lv' := [(7, .int r_39_4), (9, .int z4), (0, .ref h0), (1, .ref h6), (3, .int c12_3), (4, .int c12_4), (5, .ref h10), (6, .int c12_6), (8, .int u12_8)]) hx hb dX9_runStorm_42 hl (by decide) rfl (fun ls hl => ?_)
          refine lv_aload_n hx hb dX9_runStorm_44 rfl (lv_at hl 2 rfl) ?_
          refine lv_aload_n hx hb dX9_runStorm_45 rfl (lv_at hl 3 rfl) ?_
          refine lv_iload hx hb dX9_runStorm_46 (lv_at hl 1 rfl) ?_
          refine lv_iconst (v := (1 : Int32)) hx hb dX9_runStorm_48 (by decide) ?_
          refine lv_iload hx hb dX9_runStorm_49 (lv_at hl 0 rfl) ?_
          refine lv_iload hx hb dX9_runStorm_51 (lv_at hl 7 rfl) ?_
          obtain ⟨g6, hf⟩ := of_grd hf
          refine lv_irem hx hb dX9_runStorm_53 g6 ?_
          refine lv_ishl hx hb dX9_runStorm_54 ?_
          obtain ⟨⟨r_55_6_a1, r_55_6_a3, r_55_6_a4⟩, hc_r_55_6, hf⟩ := of_bnd hf
          refine cl_Vv (w2 := (wW_X9_runStorm G h0 h1 h2 h3 h4 h5 h6 h7 h8 h9 h10 r_55_6_a1 a2 a3 r_55_6_a3 r_55_6_a4 x6_0 x6_1 x6_2 a7 a8 a9 x10_0_12 x10_1_12 x10_2_12)) (As := [.ref h6, .int z4, .int ((1 : Int32) <<< ((r_39_4 - r_39_4 / c12_6 * c12_6) &&& 31))]) (rest := []) ⟨hx, hb, hml, hown, ht0⟩ (c_X9_slipPlaces l G h0 h1 h3 h4 h5 h6 h7 h2 h8 h9 _ a1_12 a3 a4_12 a5_12 x6_0 x6_1 x6_2 a7 F z4 ((1 : Int32) <<< ((r_39_4 - r_39_4 / c12_6 * c12_6) &&& 31)) _ _ _ hc_r_55_6) yk_X9_slipPlaces wd_925 ⟨rfl, rfl, by decide, by decide⟩ ⟨Nat.le_refl _, Nat.le_refl _⟩ hX hK hP hD hS hA [0, 1, 3, 4, 5, 6, 7] [2, 8, 9, 10] [4, 5, 0, 6, 7, 8, 9, 10, 1, 2, 3] (va_recv hK hP (ci := 9) (q0 := 0) rfl rfl) rfl rfl (by decide) rfl rfl rfl rfl rfl hl.1 rfl (Nat.le_of_ble_eq_true rfl) dX9_runStorm_55 (fun H locs hP hD hS => ?_)
          refine lv_iload hx hb dX9_runStorm_58 (lv_at hl 5 rfl) ?_
          refine lv_if_le (tgt := 79) hx hb dX9_runStorm_60 (by decide) (fun c8 => ?_) (fun c8 => ?_)
          · have hf := of_pos hf c8
            exact kJ79 _ _ _ _ _ _ _ _ hf _ _ hP hD hS _ (lv_sub hl [2, 3, 4, 5, 6, 7, 0, 8] rfl)
          · have hf := of_neg hf c8
            refine lv_iload hx hb dX9_runStorm_63 (lv_at hl 8 rfl) ?_
            refine lv_iload hx hb dX9_runStorm_65 (lv_at hl 5 rfl) ?_
            obtain ⟨g9, hf⟩ := of_grd hf
            refine lv_irem hx hb dX9_runStorm_67 g9 ?_
            refine lv_if_ne (tgt := 79) hx hb dX9_runStorm_68 (by decide) (fun c10 => ?_) (fun c10 => ?_)
            · have hf := of_neg hf c10
              exact kJ79 _ _ _ _ _ _ _ _ hf _ _ hP hD hS _ (lv_sub hl [2, 3, 4, 5, 6, 7, 0, 8] rfl)
            · have hf := of_pos hf c10
              refine lv_aload_n hx hb dX9_runStorm_71 rfl (lv_at hl 2 rfl) ?_
              refine lv_aload_n hx hb dX9_runStorm_72 rfl (lv_at hl 3 rfl) ?_
              refine lv_aload hx hb dX9_runStorm_73 (lv_at hl 6 rfl) ?_
              obtain ⟨⟨r_75_10, r_75_10_a1, r_75_10_a4, r_75_10_a5, r_75_10_x10_0, r_75_10_x10_1, r_75_10_x10_2⟩, hc_r_75_10, hf⟩ := of_bnd hf
              refine cl_Vi (w2 := (wW_X9_runStorm G h0 h1 h2 h3 h4 h5 h6 h7 h8 h9 h10 r_75_10_a1 a2 a3 r_75_10_a4 r_75_10_a5 x6_0 x6_1 x6_2 a7 a8 a9 r_75_10_x10_0 r_75_10_x10_1 r_75_10_x10_2)) (As := [.ref h6, .ref h10]) (rest := []) ⟨hx, hb, hml, hown, ht0⟩ (c_X9_mendAll l G h0 h1 h2 h3 h4 h5 h6 h7 h8 h9 h10 _ r_55_6_a1 a2 a3 r_55_6_a3 r_55_6_a4 x6_0 x6_1 x6_2 a7 a8 a9 x10_0_12 x10_1_12 x10_2_12 F _ _ _ _ _ _ _ hc_r_75_10) yk_X9_mendAll wd_926 ⟨rfl, rfl, by decide, by decide⟩ ⟨Nat.le_refl _, Nat.le_refl _⟩ hX hK hP hD hS hA [0, 1, 2, 3, 4, 5, 6, 7, 8, 9, 10] [] [0, 1, 2, 3, 4, 5, 6, 7, 8, 9, 10] (va_recv hK hP (ci := 9) (q0 := 0) rfl rfl) rfl rfl (by decide) rfl rfl rfl rfl rfl hl.1 rfl (Nat.le_of_ble_eq_true rfl) dX9_runStorm_75 (fun H locs hP hD hS => ?_)
              refine lv_pop hx hb dX9_runStorm_78 rfl ?_
              exact kJ79 _ _ _ _ _ _ _ _ hf _ _ hP hD hS _ (lv_sub hl [2, 3, 4, 5, 6, 7, 0, 8] rfl)
  refine lv_aload_n hx hb dX9_runStorm_0 rfl (lv_at hl 1 rfl) ?_
  obtain ⟨r_1_11, hc_r_1_11, hf⟩ := of_bnd hf
  refine cl_Vi (w2 := (wW_X9_runStorm G h0 h1 h2 h3 h4 h5 h6 h7 h8 h9 h10 a1 a2 a3 a4 a5 x6_0 x6_1 x6_2 a7 a8 a9 x10_0 x10_1 x10_2)) (As := []) (rest := []) ⟨hx, hb, hml, hown, ht0⟩ (c_X1_places l G h6 h7 h8 h9 _ x6_0 x6_1 x6_2 F _ hc_r_1_11) yk_X1_places wd_921 ⟨rfl, rfl, by decide, by decide⟩ ⟨Nat.le_refl _, Nat.le_refl _⟩ hX hK hP hD hS hA [6] [0, 1, 2, 3, 4, 5, 7, 8, 9, 10] [0, 1, 2, 3, 4, 5, 10, 6, 7, 8, 9] (va_recv hK hP (ci := 1) (q0 := 6) rfl rfl) rfl rfl (by decide) rfl rfl rfl rfl rfl hl.1 rfl (Nat.le_of_ble_eq_true rfl) dX9_runStorm_1 (fun H locs hP hD hS => ?_)
  refine lv_istore (lv' := [(6, .int r_1_11), (0, .ref h0), (1, .ref h6), (2, .int b2), (3, .int b3), (4, .int b4), (5, .ref h10)]) hx hb dX9_runStorm_4 hl (by decide) rfl (fun ls hl => ?_)
  refine lv_iload_n hx hb dX9_runStorm_6 rfl (lv_at hl 3 rfl) ?_
  refine lv_istore (lv' := [(7, .int b2), (6, .int r_1_11), (0, .ref h0), (1, .ref h6), (2, .int b2), (3, .int b3), (4, .int b4), (5, .ref h10)]) hx hb dX9_runStorm_7 hl (by decide) rfl (fun ls hl => ?_)
  refine lv_iconst (v := (1 : Int32)) hx hb dX9_runStorm_9 (by decide) ?_
  refine lv_istore (lv' := [(8, .int (1 : Int32)), (7, .int b2), (6, .int r_1_11), (0, .ref h0), (1, .ref h6), (2, .int b2), (3, .int b3), (4, .int b4), (5, .ref h10)]) hx hb dX9_runStorm_10 hl (by decide) rfl (fun ls hl => ?_)
  exact kL12 _ _ _ _ _ _ _ _ _ _ _ _ hf _ _ hP hD hS _ (lv_sub hl [3, 4, 6, 7, 8, 2, 1, 0] rfl)
theorem yk_X9_runStorm : ykV yX9_runStorm RX9 cX9_runStorm 10 none 5 := ⟨wd_918, wd_919, wd_134, wd_920, rfl, by decide +kernel, by decide +kernel, by decide +kernel⟩
theorem dX9_countStands_0 : decode cX9_countStands 0 = .ok (.aload_n 0, 1) := by decide +kernel
theorem dX9_countStands_1 : decode cX9_countStands 1 = .ok (.getfield 18, 3) := by decide +kernel
theorem dX9_countStands_4 : decode cX9_countStands 4 = .ok (.iload_n 2, 1) := by decide +kernel
theorem dX9_countStands_5 : decode cX9_countStands 5 = .ok (.iaload, 1) := by decide +kernel
theorem dX9_countStands_6 : decode cX9_countStands 6 = .ok (.istore 5, 2) := by decide +kernel
theorem dX9_countStands_8 : decode cX9_countStands 8 = .ok (.aload_n 0, 1) := by decide +kernel
theorem dX9_countStands_9 : decode cX9_countStands 9 = .ok (.getfield 9, 3) := by decide +kernel
theorem dX9_countStands_12 : decode cX9_countStands 12 = .ok (.iload_n 2, 1) := by decide +kernel
theorem dX9_countStands_13 : decode cX9_countStands 13 = .ok (.iaload, 1) := by decide +kernel
theorem dX9_countStands_14 : decode cX9_countStands 14 = .ok (.aload_n 0, 1) := by decide +kernel
theorem dX9_countStands_15 : decode cX9_countStands 15 = .ok (.getfield 15, 3) := by decide +kernel
theorem dX9_countStands_18 : decode cX9_countStands 18 = .ok (.iload_n 2, 1) := by decide +kernel
theorem dX9_countStands_19 : decode cX9_countStands 19 = .ok (.iaload, 1) := by decide +kernel
theorem dX9_countStands_20 : decode cX9_countStands 20 = .ok (.ixor, 1) := by decide +kernel
theorem dX9_countStands_21 : decode cX9_countStands 21 = .ok (.iload 5, 2) := by decide +kernel
theorem dX9_countStands_23 : decode cX9_countStands 23 = .ok (.iand, 1) := by decide +kernel
theorem dX9_countStands_24 : decode cX9_countStands 24 = .ok (.istore 6, 2) := by decide +kernel
theorem dX9_countStands_26 : decode cX9_countStands 26 = .ok (.iconst 0, 1) := by decide +kernel
theorem dX9_countStands_27 : decode cX9_countStands 27 = .ok (.istore 7, 2) := by decide +kernel
theorem dX9_countStands_29 : decode cX9_countStands 29 = .ok (.iconst 0, 1) := by decide +kernel
theorem dX9_countStands_30 : decode cX9_countStands 30 = .ok (.istore 8, 2) := by decide +kernel
theorem dX9_countStands_32 : decode cX9_countStands 32 = .ok (.iload 8, 2) := by decide +kernel
theorem dX9_countStands_34 : decode cX9_countStands 34 = .ok (.aload_n 1, 1) := by decide +kernel
theorem dX9_countStands_35 : decode cX9_countStands 35 = .ok (.invokevirtual 95, 3) := by decide +kernel
theorem dX9_countStands_38 : decode cX9_countStands 38 = .ok (.if_icmp .ge 63, 3) := by decide +kernel
theorem dX9_countStands_41 : decode cX9_countStands 41 = .ok (.iload 5, 2) := by decide +kernel
theorem dX9_countStands_43 : decode cX9_countStands 43 = .ok (.iload 8, 2) := by decide +kernel
theorem dX9_countStands_45 : decode cX9_countStands 45 = .ok (.iushr, 1) := by decide +kernel
theorem dX9_countStands_46 : decode cX9_countStands 46 = .ok (.iconst 1, 1) := by decide +kernel
theorem dX9_countStands_47 : decode cX9_countStands 47 = .ok (.iand, 1) := by decide +kernel
theorem dX9_countStands_48 : decode cX9_countStands 48 = .ok (.ifCond .ne 47, 3) := by decide +kernel
theorem dX9_countStands_51 : decode cX9_countStands 51 = .ok (.iload 6, 2) := by decide +kernel
theorem dX9_countStands_53 : decode cX9_countStands 53 = .ok (.iconst 1, 1) := by decide +kernel
theorem dX9_countStands_54 : decode cX9_countStands 54 = .ok (.iload 8, 2) := by decide +kernel
theorem dX9_countStands_56 : decode cX9_countStands 56 = .ok (.ishl, 1) := by decide +kernel
theorem dX9_countStands_57 : decode cX9_countStands 57 = .ok (.ior, 1) := by decide +kernel
theorem dX9_countStands_58 : decode cX9_countStands 58 = .ok (.istore 9, 2) := by decide +kernel
theorem dX9_countStands_60 : decode cX9_countStands 60 = .ok (.aload 4, 2) := by decide +kernel
theorem dX9_countStands_62 : decode cX9_countStands 62 = .ok (.aload_n 1, 1) := by decide +kernel
theorem dX9_countStands_63 : decode cX9_countStands 63 = .ok (.aload_n 1, 1) := by decide +kernel
theorem dX9_countStands_64 : decode cX9_countStands 64 = .ok (.iload 9, 2) := by decide +kernel
theorem dX9_countStands_66 : decode cX9_countStands 66 = .ok (.invokevirtual 62, 3) := by decide +kernel
theorem dX9_countStands_69 : decode cX9_countStands 69 = .ok (.iload 5, 2) := by decide +kernel
theorem dX9_countStands_71 : decode cX9_countStands 71 = .ok (.invokevirtual 74, 3) := by decide +kernel
theorem dX9_countStands_74 : decode cX9_countStands 74 = .ok (.iload 7, 2) := by decide +kernel
theorem dX9_countStands_76 : decode cX9_countStands 76 = .ok (.aload 4, 2) := by decide +kernel
theorem dX9_countStands_78 : decode cX9_countStands 78 = .ok (.iload 9, 2) := by decide +kernel
theorem dX9_countStands_80 : decode cX9_countStands 80 = .ok (.invokevirtual 80, 3) := by decide +kernel
theorem dX9_countStands_83 : decode cX9_countStands 83 = .ok (.iload_n 3, 1) := by decide +kernel
theorem dX9_countStands_84 : decode cX9_countStands 84 = .ok (.if_icmp .ne 7, 3) := by decide +kernel
theorem dX9_countStands_87 : decode cX9_countStands 87 = .ok (.iconst 1, 1) := by decide +kernel
theorem dX9_countStands_88 : decode cX9_countStands 88 = .ok (.goto 4, 3) := by decide +kernel
theorem dX9_countStands_91 : decode cX9_countStands 91 = .ok (.iconst 0, 1) := by decide +kernel
theorem dX9_countStands_92 : decode cX9_countStands 92 = .ok (.iadd, 1) := by decide +kernel
theorem dX9_countStands_93 : decode cX9_countStands 93 = .ok (.istore 7, 2) := by decide +kernel
theorem dX9_countStands_95 : decode cX9_countStands 95 = .ok (.iinc 8 1, 3) := by decide +kernel
theorem dX9_countStands_98 : decode cX9_countStands 98 = .ok (.goto (-66), 3) := by decide +kernel
theorem dX9_countStands_101 : decode cX9_countStands 101 = .ok (.iload 7, 2) := by decide +kernel
theorem dX9_countStands_103 : decode cX9_countStands 103 = .ok (.ireturn, 1) := by decide +kernel
def wW_X9_countStands (G : GG) (h0 h1 h2 h3 h4 h5 h6 h7 h8 y0_3 y0_4 : Nat) (a1 : Nat → Int32) (a2 : Nat → Int32) (a3 : Nat → Int32) (x4_0 : Int32) (x4_1 : Int32) (x4_2 : Int32) (a5 : Nat → Int32) (a6 : Nat → Int32) (a7 : Nat → Int32) (x8_0 : Int32) (x8_1 : Int32) (x8_2 : Int32) : va_W := [(h0, .inr (9, [.ref h1, .ref h2, .ref h3, .ref y0_3, .ref y0_4])), (h1, .inl (G.2.1, 16, .inl a1)), (h2, .inl (G.2.1, 16, .inl a2)), (h3, .inl (G.2.1, 16, .inl a3)), (h4, .inr (1, [.int x4_0, .int x4_1, .int x4_2, .ref h5, .ref h6, .ref h7])), (h5, .inl (G.2.1, 32, .inl a5)), (h6, .inl (G.2.1, 256, .inl a6)), (h7, .inl (G.2.1, 256, .inl a7)), (h8, .inr (2, [.int x8_0, .int x8_1, .int x8_2]))]
set_option maxHeartbeats 4000000 in
set_option maxRecDepth 100000 in
theorem c_X9_countStands (l : Launch) (G : GG) (h0 h1 h2 h3 h4 h5 h6 h7 h8 y0_3 y0_4 : Nat) (sz : Nat) (a1 : Nat → Int32) (a2 : Nat → Int32) (a3 : Nat → Int32) (x4_0 : Int32) (x4_1 : Int32) (x4_2 : Int32) (a5 : Nat → Int32) (a6 : Nat → Int32) (a7 : Nat → Int32) (x8_0 : Int32) (x8_1 : Int32) (x8_2 : Int32) (F : Nat) (b2 : Int32) (b3 : Int32)  (r0 : Int32) (e_x8_0 : Int32) (e_x8_1 : Int32) (e_x8_2 : Int32) (hf : p_X9_countStands F a1 a2 a3 x4_0 x4_1 x4_2 a5 a6 a7 x8_0 x8_1 x8_2 b2 b3 = some (r0, e_x8_0, e_x8_1, e_x8_2)) : Met l yX9_countStands (.code yX9_countStands cX9_countStands 10 (some .int) :: gtbl) ({ frames := 3, cells := 0, slots := 0, locals := 76 } : Room) (PcS G [.ref h0, .ref h4, .int b2, .int b3, .ref h8] (wW_X9_countStands G h0 h1 h2 h3 h4 h5 h6 h7 h8 y0_3 y0_4 a1 a2 a3 x4_0 x4_1 x4_2 a5 a6 a7 x8_0 x8_1 x8_2) sz) (QiS G r0 (va_A (wW_X9_countStands G h0 h1 h2 h3 h4 h5 h6 h7 h8 y0_3 y0_4 a1 a2 a3 x4_0 x4_1 x4_2 a5 a6 a7 x8_0 x8_1 x8_2) sz) (wW_X9_countStands G h0 h1 h2 h3 h4 h5 h6 h7 h8 y0_3 y0_4 a1 a2 a3 x4_0 x4_1 x4_2 a5 a6 a7 e_x8_0 e_x8_1 e_x8_2)) 0 0 (va_A (wW_X9_countStands G h0 h1 h2 h3 h4 h5 h6 h7 h8 y0_3 y0_4 a1 a2 a3 x4_0 x4_1 x4_2 a5 a6 a7 x8_0 x8_1 x8_2) sz) := by
  refine met_start (by decide) (Nat.le_of_ble_eq_true rfl) ?_
  intro p e s m below meth c hC hr hlk hnm hK hP hD hA hS hX ls hl
  obtain ⟨hx, hb, hml, hown, ht0⟩ := hC
  have hown : s.vm.findClass RX9 = some m.cls := hown
  generalize va_A (wW_X9_countStands G h0 h1 h2 h3 h4 h5 h6 h7 h8 y0_3 y0_4 a1 a2 a3 x4_0 x4_1 x4_2 a5 a6 a7 x8_0 x8_1 x8_2) sz = A at hD hA hS hX ⊢
  have hl : lv_has ls 10 [(0, .ref h0), (1, .ref h4), (2, .int b2), (3, .int b3), (4, .ref h8)] := hl
  have hf : p_X9_countStands F a1 a2 a3 x4_0 x4_1 x4_2 a5 a6 a7 x8_0 x8_1 x8_2 b2 b3 = some (r0, e_x8_0, e_x8_1, e_x8_2) := hf
  have kL32 : ∀ (c32_3 : Int32) (c32_5 : Int32) (c32_6 : Int32) (n32 : Nat) (u32_7 : Int32) (u32_8 : Int32) (x8_0_32 : Int32) (x8_1_32 : Int32) (x8_2_32 : Int32), p_X9_countStands_L32 F a1 a2 a3 x4_0 x4_1 x4_2 a5 a6 a7 c32_3 c32_5 c32_6 n32 u32_7 u32_8 x8_0_32 x8_1_32 x8_2_32 = some (r0, e_x8_0, e_x8_1, e_x8_2) → ∀ (H : Heap) (locs : List Loc), va_P G.1 vwCl (wW_X9_countStands G h0 h1 h2 h3 h4 h5 h6 h7 h8 y0_3 y0_4 a1 a2 a3 x4_0 x4_1 x4_2 a5 a6 a7 x8_0_32 x8_1_32 x8_2_32) H → va_D A (wW_X9_countStands G h0 h1 h2 h3 h4 h5 h6 h7 h8 y0_3 y0_4 a1 a2 a3 x4_0 x4_1 x4_2 a5 a6 a7 x8_0_32 x8_1_32 x8_2_32) → va_S A s.heap H locs → ∀ ls : Array Slot, lv_has ls 10 [(1, .ref h4), (3, .int c32_3), (4, .ref h8), (5, .int c32_5), (6, .int c32_6), (7, .int u32_7), (8, .int u32_8)] → W p l e ({ frames := 3, cells := 0, slots := 0, locals := 76 } : Room) s m (List.toArray [.ref h0, .ref h4, .int b2, .int b3, .ref h8]) below meth c H locs 0 0 (MQ below (QiS G r0 A (wW_X9_countStands G h0 h1 h2 h3 h4 h5 h6 h7 h8 y0_3 y0_4 a1 a2 a3 x4_0 x4_1 x4_2 a5 a6 a7 e_x8_0 e_x8_1 e_x8_2)) (List.toArray [.ref h0, .ref h4, .int b2, .int b3, .ref h8]) s 0 0 A) (F0 m 32 ls []) := by
    intro c32_3 c32_5 c32_6 n32
    induction n32 with
    | zero =>
      intro u32_7 u32_8 x8_0_32 x8_1_32 x8_2_32 hf
      cases hf
    | succ n32 ih32 =>
      have kJ95 : ∀ (u95_7 : Int32) (u95_8 : Int32) (x8_0_95 : Int32) (x8_1_95 : Int32) (x8_2_95 : Int32), p_X9_countStands_J95 F a1 a2 a3 x4_0 x4_1 x4_2 a5 a6 a7 c32_3 c32_5 c32_6 (p_X9_countStands_L32 F a1 a2 a3 x4_0 x4_1 x4_2 a5 a6 a7 c32_3 c32_5 c32_6 n32) u95_7 u95_8 x8_0_95 x8_1_95 x8_2_95 = some (r0, e_x8_0, e_x8_1, e_x8_2) → ∀ (H : Heap) (locs : List Loc), va_P G.1 vwCl (wW_X9_countStands G h0 h1 h2 h3 h4 h5 h6 h7 h8 y0_3 y0_4 a1 a2 a3 x4_0 x4_1 x4_2 a5 a6 a7 x8_0_95 x8_1_95 x8_2_95) H → va_D A (wW_X9_countStands G h0 h1 h2 h3 h4 h5 h6 h7 h8 y0_3 y0_4 a1 a2 a3 x4_0 x4_1 x4_2 a5 a6 a7 x8_0_95 x8_1_95 x8_2_95) → va_S A s.heap H locs → ∀ ls : Array Slot, lv_has ls 10 [(1, .ref h4), (3, .int c32_3), (4, .ref h8), (5, .int c32_5), (6, .int c32_6), (7, .int u95_7), (8, .int u95_8)] → W p l e ({ frames := 3, cells := 0, slots := 0, locals := 76 } : Room) s m (List.toArray [.ref h0, .ref h4, .int b2, .int b3, .ref h8]) below meth c H locs 0 0 (MQ below (QiS G r0 A (wW_X9_countStands G h0 h1 h2 h3 h4 h5 h6 h7 h8 y0_3 y0_4 a1 a2 a3 x4_0 x4_1 x4_2 a5 a6 a7 e_x8_0 e_x8_1 e_x8_2)) (List.toArray [.ref h0, .ref h4, .int b2, .int b3, .ref h8]) s 0 0 A) (F0 m 95 ls []) := by
        intro u95_7 u95_8 x8_0_95 x8_1_95 x8_2_95 hf H locs hP hD hS ls hl
        refine lv_iinc (v := u95_8 + (1 : Int32)) (lv' := [(8, .int (u95_8 + (1 : Int32))), (1, .ref h4), (3, .int c32_3), (4, .ref h8), (5, .int c32_5), (6, .int c32_6), (7, .int u95_7)]) hx hb dX9_countStands_95 hl (k := 6) rfl (by rfl) (by decide) rfl (fun ls hl => ?_)
        refine lv_goto (tgt := 32) hx hb dX9_countStands_98 (by decide) ?_
        exact ih32 _ _ _ _ _ hf _ _ hP hD hS _ (lv_sub hl [1, 2, 3, 4, 5, 6, 0] rfl)
      have kJ92 : ∀ (u92_8 : Int32) (s92_0 : Int32) (s92_1 : Int32) (x8_0_92 : Int32) (x8_1_92 : Int32) (x8_2_92 : Int32), p_X9_countStands_J92 F a1 a2 a3 x4_0 x4_1 x4_2 a5 a6 a7 c32_3 c32_5 c32_6 (p_X9_countStands_L32 F a1 a2 a3 x4_0 x4_1 x4_2 a5 a6 a7 c32_3 c32_5 c32_6 n32) u92_8 s92_0 s92_1 x8_0_92 x8_1_92 x8_2_92 = some (r0, e_x8_0, e_x8_1, e_x8_2) → ∀ (H : Heap) (locs : List Loc), va_P G.1 vwCl (wW_X9_countStands G h0 h1 h2 h3 h4 h5 h6 h7 h8 y0_3 y0_4 a1 a2 a3 x4_0 x4_1 x4_2 a5 a6 a7 x8_0_92 x8_1_92 x8_2_92) H → va_D A (wW_X9_countStands G h0 h1 h2 h3 h4 h5 h6 h7 h8 y0_3 y0_4 a1 a2 a3 x4_0 x4_1 x4_2 a5 a6 a7 x8_0_92 x8_1_92 x8_2_92) → va_S A s.heap H locs → ∀ ls : Array Slot, lv_has ls 10 [(1, .ref h4), (3, .int c32_3), (4, .ref h8), (5, .int c32_5), (6, .int c32_6), (8, .int u92_8)] → W p l e ({ frames := 3, cells := 0, slots := 0, locals := 76 } : Room) s m (List.toArray [.ref h0, .ref h4, .int b2, .int b3, .ref h8]) below meth c H locs 0 0 (MQ below (QiS G r0 A (wW_X9_countStands G h0 h1 h2 h3 h4 h5 h6 h7 h8 y0_3 y0_4 a1 a2 a3 x4_0 x4_1 x4_2 a5 a6 a7 e_x8_0 e_x8_1 e_x8_2)) (List.toArray [.ref h0, .ref h4, .int b2, .int b3, .ref h8]) s 0 0 A) (F0 m 92 ls [.int s92_1, .int s92_0]) := by
        intro u92_8 s92_0 s92_1 x8_0_92 x8_1_92 x8_2_92 hf H locs hP hD hS ls hl
        refine lv_iadd hx hb dX9_countStands_92 ?_
        refine lv_istore (lv' := [(7, .int (s92_0 + s92_1)), (1, .ref h4), (3, .int c32_3), (4, .ref h8), (5, .int c32_5), (6, .int c32_6), (8, .int u92_8)]) hx hb dX9_countStands_93 hl (by decide) rfl (fun ls hl => ?_)
        exact kJ95 _ _ _ _ _ hf _ _ hP hD hS _ (lv_sub hl [1, 2, 3, 4, 5, 0, 6] rfl)
      intro u32_7 u32_8 x8_0_32 x8_1_32 x8_2_32 hf H locs hP hD hS ls hl
      have hf : p_X9_countStands_L32b F a1 a2 a3 x4_0 x4_1 x4_2 a5 a6 a7 c32_3 c32_5 c32_6 (p_X9_countStands_L32 F a1 a2 a3 x4_0 x4_1 x4_2 a5 a6 a7 c32_3 c32_5 c32_6 n32) u32_7 u32_8 x8_0_32 x8_1_32 x8_2_32 = some (r0, e_x8_0, e_x8_1, e_x8_2) := hf
      refine lv_iload hx hb dX9_countStands_32 (lv_at hl 6 rfl) ?_
      refine lv_aload_n hx hb dX9_countStands_34 rfl (lv_at hl 0 rfl) ?_
      obtain ⟨r_35_0, hc_r_35_0, hf⟩ := of_bnd hf
      refine cl_Vi (w2 := (wW_X9_countStands G h0 h1 h2 h3 h4 h5 h6 h7 h8 y0_3 y0_4 a1 a2 a3 x4_0 x4_1 x4_2 a5 a6 a7 x8_0_32 x8_1_32 x8_2_32)) (As := []) (rest := [.int u32_8]) ⟨hx, hb, hml, hown, ht0⟩ (c_X1_places l G h4 h5 h6 h7 _ x4_0 x4_1 x4_2 F _ hc_r_35_0) yk_X1_places wd_921 ⟨rfl, rfl, by decide, by decide⟩ ⟨Nat.le_refl _, Nat.le_refl _⟩ hX hK hP hD hS hA [4] [0, 1, 2, 3, 5, 6, 7, 8] [0, 1, 2, 3, 8, 4, 5, 6, 7] (va_recv hK hP (ci := 1) (q0 := 4) rfl rfl) rfl rfl (by decide) rfl rfl rfl rfl rfl hl.1 rfl (Nat.le_of_ble_eq_true rfl) dX9_countStands_35 (fun H locs hP hD hS => ?_)
      refine lv_icmp_ge (tgt := 101) hx hb dX9_countStands_38 (by decide) (fun c2 => ?_) (fun c2 => ?_)
      · have hf := of_pos hf c2
        refine lv_iload hx hb dX9_countStands_101 (lv_at hl 5 rfl) ?_
        cases hf
        exact ret_i hx hb hr hlk hK hP hD hS dX9_countStands_103
      · have hf := of_neg hf c2
        refine lv_iload hx hb dX9_countStands_41 (lv_at hl 3 rfl) ?_
        refine lv_iload hx hb dX9_countStands_43 (lv_at hl 6 rfl) ?_
        refine lv_iushr (v := jushr c32_5 u32_8) hx hb dX9_countStands_45 rfl ?_
        refine lv_iconst (v := (1 : Int32)) hx hb dX9_countStands_46 (by decide) ?_
        refine lv_iand hx hb dX9_countStands_47 ?_
        refine lv_if_ne (tgt := 95) hx hb dX9_countStands_48 (by decide) (fun c3 => ?_) (fun c3 => ?_)
        · have hf := of_neg hf c3
          exact kJ95 _ _ _ _ _ hf _ _ hP hD hS _ (lv_sub hl [0, 1, 2, 3, 4, 5, 6] rfl)
        · have hf := of_pos hf c3
          refine lv_iload hx hb dX9_countStands_51 (lv_at hl 4 rfl) ?_
          refine lv_iconst (v := (1 : Int32)) hx hb dX9_countStands_53 (by decide) ?_
          refine lv_iload hx hb dX9_countStands_54 (lv_at hl 6 rfl) ?_
          refine lv_ishl hx hb dX9_countStands_56 ?_
          refine lv_ior hx hb dX9_countStands_57 ?_
          refine lv_topi (fun z4 ez4 => ?_)
          have hf := of_jlet hf ez4
          refine lv_istore (lv' := [(9, .int z4), (1, .ref h4), (3, .int c32_3), (4, .ref h8), (5, .int c32_5), (6, .int c32_6), (7, .int u32_7), (8, .int u32_8)]) hx hb dX9_countStands_58 hl (by decide) rfl (fun ls hl => ?_)
          refine lv_aload hx hb dX9_countStands_60 (lv_at hl 3 rfl) ?_
          refine lv_aload_n hx hb dX9_countStands_62 rfl (lv_at hl 1 rfl) ?_
          refine lv_aload_n hx hb dX9_countStands_63 rfl (lv_at hl 1 rfl) ?_
          refine lv_iload hx hb dX9_countStands_64 (lv_at hl 0 rfl) ?_
          obtain ⟨r_66_4, hc_r_66_4, hf⟩ := of_bnd hf
          refine cl_Vi (w2 := (wW_X9_countStands G h0 h1 h2 h3 h4 h5 h6 h7 h8 y0_3 y0_4 a1 a2 a3 x4_0 x4_1 x4_2 a5 a6 a7 x8_0_32 x8_1_32 x8_2_32)) (As := [.int z4]) (rest := [.ref h4, .ref h8]) ⟨hx, hb, hml, hown, ht0⟩ (c_X1_syndromeOf l G h4 h5 h6 h7 _ x4_0 x4_1 x4_2 a5 F z4 _ hc_r_66_4) yk_X1_syndromeOf wd_780 ⟨rfl, rfl, by decide, by decide⟩ ⟨Nat.le_refl _, Nat.le_refl _⟩ hX hK hP hD hS hA [4, 5] [0, 1, 2, 3, 6, 7, 8] [0, 1, 2, 3, 7, 8, 4, 5, 6] (va_recv hK hP (ci := 1) (q0 := 4) rfl rfl) rfl rfl (by decide) rfl rfl rfl rfl rfl hl.1 rfl (Nat.le_of_ble_eq_true rfl) dX9_countStands_66 (fun H locs hP hD hS => ?_)
          refine lv_iload hx hb dX9_countStands_69 (lv_at hl 4 rfl) ?_
          obtain ⟨⟨r_71_5_x0_0, r_71_5_x0_1, r_71_5_x0_2⟩, hc_r_71_5, hf⟩ := of_bnd hf
          refine cl_Vv (w2 := (wW_X9_countStands G h0 h1 h2 h3 h4 h5 h6 h7 h8 y0_3 y0_4 a1 a2 a3 x4_0 x4_1 x4_2 a5 a6 a7 r_71_5_x0_0 r_71_5_x0_1 r_71_5_x0_2)) (As := [.ref h4, .int r_66_4, .int c32_5]) (rest := []) ⟨hx, hb, hml, hown, ht0⟩ (c_X2_read l G h8 h4 h5 h6 h7 _ x8_0_32 x8_1_32 x8_2_32 x4_0 x4_1 x4_2 a5 a6 a7 F r_66_4 c32_5 _ _ _ hc_r_71_5) yk_X2_read wd_825 ⟨rfl, rfl, by decide, by decide⟩ ⟨Nat.le_refl _, Nat.le_refl _⟩ hX hK hP hD hS hA [8, 4, 5, 6, 7] [0, 1, 2, 3] [0, 1, 2, 3, 5, 6, 7, 8, 4] (va_recv hK hP (ci := 2) (q0 := 8) rfl rfl) rfl rfl (by decide) rfl rfl rfl rfl rfl hl.1 rfl (Nat.le_of_ble_eq_true rfl) dX9_countStands_71 (fun H locs hP hD hS => ?_)
          refine lv_iload hx hb dX9_countStands_74 (lv_at hl 6 rfl) ?_
          refine lv_aload hx hb dX9_countStands_76 (lv_at hl 3 rfl) ?_
          refine lv_iload hx hb dX9_countStands_78 (lv_at hl 0 rfl) ?_
          obtain ⟨r_80_6, hc_r_80_6, hf⟩ := of_bnd hf
          refine cl_Vi (w2 := (wW_X9_countStands G h0 h1 h2 h3 h4 h5 h6 h7 h8 y0_3 y0_4 a1 a2 a3 x4_0 x4_1 x4_2 a5 a6 a7 r_71_5_x0_0 r_71_5_x0_1 r_71_5_x0_2)) (As := [.int z4]) (rest := [.int u32_7]) ⟨hx, hb, hml, hown, ht0⟩ (c_X2_judge l G h8 _ r_71_5_x0_0 r_71_5_x0_1 r_71_5_x0_2 F z4 _ hc_r_80_6) yk_X2_judge wd_862 ⟨rfl, rfl, by decide, by decide⟩ ⟨Nat.le_refl _, Nat.le_refl _⟩ hX hK hP hD hS hA [8] [0, 1, 2, 3, 4, 5, 6, 7] [0, 1, 2, 3, 4, 5, 6, 7, 8] (va_recv hK hP (ci := 2) (q0 := 8) rfl rfl) rfl rfl (by decide) rfl rfl rfl rfl rfl hl.1 rfl (Nat.le_of_ble_eq_true rfl) dX9_countStands_80 (fun H locs hP hD hS => ?_)
          refine lv_iload_n hx hb dX9_countStands_83 rfl (lv_at hl 2 rfl) ?_
          refine lv_icmp_ne (tgt := 91) hx hb dX9_countStands_84 (by decide) (fun c8 => ?_) (fun c8 => ?_)
          · have hf := of_neg hf c8
            refine lv_iconst (v := (0 : Int32)) hx hb dX9_countStands_91 (by decide) ?_
            exact kJ92 _ _ _ _ _ _ hf _ _ hP hD hS _ (lv_sub hl [1, 2, 3, 4, 5, 7] rfl)
          · have hf := of_pos hf c8
            refine lv_iconst (v := (1 : Int32)) hx hb dX9_countStands_87 (by decide) ?_
            refine lv_goto (tgt := 92) hx hb dX9_countStands_88 (by decide) ?_
            exact kJ92 _ _ _ _ _ _ hf _ _ hP hD hS _ (lv_sub hl [1, 2, 3, 4, 5, 7] rfl)
  refine lv_aload_n hx hb dX9_countStands_0 rfl (lv_at hl 0 rfl) ?_
  refine va_get (ci := 9) (v := .ref h3) (C := RX9) (T := TX9) (N := 5) hx hb ht0 iX9 hown hK hP 0 rfl rfl 2 (by decide) (ht0 _ wd_324) (fun _ h9 => h9) rfl dX9_countStands_1 ?_
  refine lv_iload_n hx hb dX9_countStands_4 rfl (lv_at hl 2 rfl) ?_
  obtain ⟨g9, hf⟩ := of_grd hf
  refine va_iald hx hb hK hP 3 0 rfl rfl g9 dX9_countStands_5 ?_
  refine lv_istore (lv' := [(5, .int (a3 b2.toNatClampNeg)), (0, .ref h0), (1, .ref h4), (2, .int b2), (3, .int b3), (4, .ref h8)]) hx hb dX9_countStands_6 hl (by decide) rfl (fun ls hl => ?_)
  refine lv_aload_n hx hb dX9_countStands_8 rfl (lv_at hl 1 rfl) ?_
  refine va_get (ci := 9) (v := .ref h1) (C := RX9) (T := TX9) (N := 5) hx hb ht0 iX9 hown hK hP 0 rfl rfl 0 (by decide) (ht0 _ wd_320) (fun _ h9 => h9) rfl dX9_countStands_9 ?_
  refine lv_iload_n hx hb dX9_countStands_12 rfl (lv_at hl 3 rfl) ?_
  obtain ⟨g10, hf⟩ := of_grd hf
  refine va_iald hx hb hK hP 1 0 rfl rfl g10 dX9_countStands_13 ?_
  refine lv_aload_n hx hb dX9_countStands_14 rfl (lv_at hl 1 rfl) ?_
  refine va_get (ci := 9) (v := .ref h2) (C := RX9) (T := TX9) (N := 5) hx hb ht0 iX9 hown hK hP 0 rfl rfl 1 (by decide) (ht0 _ wd_322) (fun _ h9 => h9) rfl dX9_countStands_15 ?_
  refine lv_iload_n hx hb dX9_countStands_18 rfl (lv_at hl 3 rfl) ?_
  obtain ⟨g11, hf⟩ := of_grd hf
  refine va_iald hx hb hK hP 2 0 rfl rfl g11 dX9_countStands_19 ?_
  refine lv_ixor hx hb dX9_countStands_20 ?_
  refine lv_iload hx hb dX9_countStands_21 (lv_at hl 0 rfl) ?_
  refine lv_iand hx hb dX9_countStands_23 ?_
  refine lv_topi (fun z12 ez12 => ?_)
  have hf := of_jlet hf ez12
  refine lv_istore (lv' := [(6, .int z12), (5, .int (a3 b2.toNatClampNeg)), (0, .ref h0), (1, .ref h4), (2, .int b2), (3, .int b3), (4, .ref h8)]) hx hb dX9_countStands_24 hl (by decide) rfl (fun ls hl => ?_)
  refine lv_iconst (v := (0 : Int32)) hx hb dX9_countStands_26 (by decide) ?_
  refine lv_istore (lv' := [(7, .int (0 : Int32)), (6, .int z12), (5, .int (a3 b2.toNatClampNeg)), (0, .ref h0), (1, .ref h4), (2, .int b2), (3, .int b3), (4, .ref h8)]) hx hb dX9_countStands_27 hl (by decide) rfl (fun ls hl => ?_)
  refine lv_iconst (v := (0 : Int32)) hx hb dX9_countStands_29 (by decide) ?_
  refine lv_istore (lv' := [(8, .int (0 : Int32)), (7, .int (0 : Int32)), (6, .int z12), (5, .int (a3 b2.toNatClampNeg)), (0, .ref h0), (1, .ref h4), (2, .int b2), (3, .int b3), (4, .ref h8)]) hx hb dX9_countStands_30 hl (by decide) rfl (fun ls hl => ?_)
  exact kL32 _ _ _ _ _ _ _ _ _ hf _ _ hP hD hS _ (lv_sub hl [5, 7, 8, 3, 2, 1, 0] rfl)
theorem yk_X9_countStands : ykV yX9_countStands RX9 cX9_countStands 10 (some .int) 4 := ⟨wd_1071, wd_1072, wd_134, wd_1073, rfl, by decide +kernel, by decide +kernel, by decide +kernel⟩
theorem dX9_notMeantAsBits_0 : decode cX9_notMeantAsBits 0 = .ok (.iconst 0, 1) := by decide +kernel
theorem dX9_notMeantAsBits_1 : decode cX9_notMeantAsBits 1 = .ok (.istore_n 1, 1) := by decide +kernel
theorem dX9_notMeantAsBits_2 : decode cX9_notMeantAsBits 2 = .ok (.iconst 0, 1) := by decide +kernel
theorem dX9_notMeantAsBits_3 : decode cX9_notMeantAsBits 3 = .ok (.istore_n 2, 1) := by decide +kernel
theorem dX9_notMeantAsBits_4 : decode cX9_notMeantAsBits 4 = .ok (.iload_n 2, 1) := by decide +kernel
theorem dX9_notMeantAsBits_5 : decode cX9_notMeantAsBits 5 = .ok (.bipush 16, 2) := by decide +kernel
theorem dX9_notMeantAsBits_7 : decode cX9_notMeantAsBits 7 = .ok (.if_icmp .ge 30, 3) := by decide +kernel
theorem dX9_notMeantAsBits_10 : decode cX9_notMeantAsBits 10 = .ok (.aload_n 0, 1) := by decide +kernel
theorem dX9_notMeantAsBits_11 : decode cX9_notMeantAsBits 11 = .ok (.getfield 9, 3) := by decide +kernel
theorem dX9_notMeantAsBits_14 : decode cX9_notMeantAsBits 14 = .ok (.iload_n 2, 1) := by decide +kernel
theorem dX9_notMeantAsBits_15 : decode cX9_notMeantAsBits 15 = .ok (.iaload, 1) := by decide +kernel
theorem dX9_notMeantAsBits_16 : decode cX9_notMeantAsBits 16 = .ok (.aload_n 0, 1) := by decide +kernel
theorem dX9_notMeantAsBits_17 : decode cX9_notMeantAsBits 17 = .ok (.getfield 15, 3) := by decide +kernel
theorem dX9_notMeantAsBits_20 : decode cX9_notMeantAsBits 20 = .ok (.iload_n 2, 1) := by decide +kernel
theorem dX9_notMeantAsBits_21 : decode cX9_notMeantAsBits 21 = .ok (.iaload, 1) := by decide +kernel
theorem dX9_notMeantAsBits_22 : decode cX9_notMeantAsBits 22 = .ok (.if_icmp .eq 9, 3) := by decide +kernel
theorem dX9_notMeantAsBits_25 : decode cX9_notMeantAsBits 25 = .ok (.iload_n 1, 1) := by decide +kernel
theorem dX9_notMeantAsBits_26 : decode cX9_notMeantAsBits 26 = .ok (.iconst 1, 1) := by decide +kernel
theorem dX9_notMeantAsBits_27 : decode cX9_notMeantAsBits 27 = .ok (.iload_n 2, 1) := by decide +kernel
theorem dX9_notMeantAsBits_28 : decode cX9_notMeantAsBits 28 = .ok (.ishl, 1) := by decide +kernel
theorem dX9_notMeantAsBits_29 : decode cX9_notMeantAsBits 29 = .ok (.ior, 1) := by decide +kernel
theorem dX9_notMeantAsBits_30 : decode cX9_notMeantAsBits 30 = .ok (.istore_n 1, 1) := by decide +kernel
theorem dX9_notMeantAsBits_31 : decode cX9_notMeantAsBits 31 = .ok (.iinc 2 1, 3) := by decide +kernel
theorem dX9_notMeantAsBits_34 : decode cX9_notMeantAsBits 34 = .ok (.goto (-30), 3) := by decide +kernel
theorem dX9_notMeantAsBits_37 : decode cX9_notMeantAsBits 37 = .ok (.iload_n 1, 1) := by decide +kernel
theorem dX9_notMeantAsBits_38 : decode cX9_notMeantAsBits 38 = .ok (.ireturn, 1) := by decide +kernel
def wW_X9_notMeantAsBits (G : GG) (h0 h1 h2 y0_2 y0_3 y0_4 : Nat) (a1 : Nat → Int32) (a2 : Nat → Int32) : va_W := [(h0, .inr (9, [.ref h1, .ref h2, .ref y0_2, .ref y0_3, .ref y0_4])), (h1, .inl (G.2.1, 16, .inl a1)), (h2, .inl (G.2.1, 16, .inl a2))]
set_option maxHeartbeats 4000000 in
set_option maxRecDepth 100000 in
theorem c_X9_notMeantAsBits (l : Launch) (G : GG) (h0 h1 h2 y0_2 y0_3 y0_4 : Nat) (sz : Nat) (a1 : Nat → Int32) (a2 : Nat → Int32) (F : Nat)   (r0 : Int32) (hf : p_X9_notMeantAsBits F a1 a2  = some r0) : Met l yX9_notMeantAsBits (.code yX9_notMeantAsBits cX9_notMeantAsBits 3 (some .int) :: gtbl) ({ frames := 0, cells := 0, slots := 0, locals := 0 } : Room) (PcS G [.ref h0] (wW_X9_notMeantAsBits G h0 h1 h2 y0_2 y0_3 y0_4 a1 a2) sz) (QiS G r0 (va_A (wW_X9_notMeantAsBits G h0 h1 h2 y0_2 y0_3 y0_4 a1 a2) sz) (wW_X9_notMeantAsBits G h0 h1 h2 y0_2 y0_3 y0_4 a1 a2)) 0 0 (va_A (wW_X9_notMeantAsBits G h0 h1 h2 y0_2 y0_3 y0_4 a1 a2) sz) := by
  refine met_start (by decide) (Nat.le_of_ble_eq_true rfl) ?_
  intro p e s m below meth c hC hr hlk hnm hK hP hD hA hS hX ls hl
  obtain ⟨hx, hb, hml, hown, ht0⟩ := hC
  have hown : s.vm.findClass RX9 = some m.cls := hown
  generalize va_A (wW_X9_notMeantAsBits G h0 h1 h2 y0_2 y0_3 y0_4 a1 a2) sz = A at hD hA hS hX ⊢
  have hl : lv_has ls 3 [(0, .ref h0)] := hl
  have hf : p_X9_notMeantAsBits F a1 a2  = some r0 := hf
  have kL4 : ∀ (n4 : Nat) (u4_1 : Int32) (u4_2 : Int32), p_X9_notMeantAsBits_L4 F a1 a2 n4 u4_1 u4_2 = some r0 → ∀ (H : Heap) (locs : List Loc), va_P G.1 vwCl (wW_X9_notMeantAsBits G h0 h1 h2 y0_2 y0_3 y0_4 a1 a2) H → va_D A (wW_X9_notMeantAsBits G h0 h1 h2 y0_2 y0_3 y0_4 a1 a2) → va_S A s.heap H locs → ∀ ls : Array Slot, lv_has ls 3 [(0, .ref h0), (1, .int u4_1), (2, .int u4_2)] → W p l e ({ frames := 0, cells := 0, slots := 0, locals := 0 } : Room) s m (List.toArray [.ref h0]) below meth c H locs 0 0 (MQ below (QiS G r0 A (wW_X9_notMeantAsBits G h0 h1 h2 y0_2 y0_3 y0_4 a1 a2)) (List.toArray [.ref h0]) s 0 0 A) (F0 m 4 ls []) := by
    intro n4
    induction n4 with
    | zero =>
      intro u4_1 u4_2 hf
      cases hf
    | succ n4 ih4 =>
      have kJ31 : ∀ (u31_1 : Int32) (u31_2 : Int32), p_X9_notMeantAsBits_J31 F a1 a2 (p_X9_notMeantAsBits_L4 F a1 a2 n4) u31_1 u31_2 = some r0 → ∀ (H : Heap) (locs : List Loc), va_P G.1 vwCl (wW_X9_notMeantAsBits G h0 h1 h2 y0_2 y0_3 y0_4 a1 a2) H → va_D A (wW_X9_notMeantAsBits G h0 h1 h2 y0_2 y0_3 y0_4 a1 a2) → va_S A s.heap H locs → ∀ ls : Array Slot, lv_has ls 3 [(0, .ref h0), (1, .int u31_1), (2, .int u31_2)] → W p l e ({ frames := 0, cells := 0, slots := 0, locals := 0 } : Room) s m (List.toArray [.ref h0]) below meth c H locs 0 0 (MQ below (QiS G r0 A (wW_X9_notMeantAsBits G h0 h1 h2 y0_2 y0_3 y0_4 a1 a2)) (List.toArray [.ref h0]) s 0 0 A) (F0 m 31 ls []) := by
        intro u31_1 u31_2 hf H locs hP hD hS ls hl
        refine lv_iinc (v := u31_2 + (1 : Int32)) (lv' := [(2, .int (u31_2 + (1 : Int32))), (0, .ref h0), (1, .int u31_1)]) hx hb dX9_notMeantAsBits_31 hl (k := 2) rfl (by rfl) (by decide) rfl (fun ls hl => ?_)
        refine lv_goto (tgt := 4) hx hb dX9_notMeantAsBits_34 (by decide) ?_
        exact ih4 _ _ hf _ _ hP hD hS _ (lv_sub hl [1, 2, 0] rfl)
      intro u4_1 u4_2 hf H locs hP hD hS ls hl
      have hf : p_X9_notMeantAsBits_L4b F a1 a2 (p_X9_notMeantAsBits_L4 F a1 a2 n4) u4_1 u4_2 = some r0 := hf
      refine lv_iload_n hx hb dX9_notMeantAsBits_4 rfl (lv_at hl 2 rfl) ?_
      refine lv_bipush (v := (16 : Int32)) hx hb dX9_notMeantAsBits_5 (by decide) ?_
      refine lv_icmp_ge (tgt := 37) hx hb dX9_notMeantAsBits_7 (by decide) (fun c1 => ?_) (fun c1 => ?_)
      · have hf := of_pos hf c1
        refine lv_iload_n hx hb dX9_notMeantAsBits_37 rfl (lv_at hl 1 rfl) ?_
        cases hf
        exact ret_i hx hb hr hlk hK hP hD hS dX9_notMeantAsBits_38
      · have hf := of_neg hf c1
        refine lv_aload_n hx hb dX9_notMeantAsBits_10 rfl (lv_at hl 0 rfl) ?_
        refine va_get (ci := 9) (v := .ref h1) (C := RX9) (T := TX9) (N := 5) hx hb ht0 iX9 hown hK hP 0 rfl rfl 0 (by decide) (ht0 _ wd_320) (fun _ h9 => h9) rfl dX9_notMeantAsBits_11 ?_
        refine lv_iload_n hx hb dX9_notMeantAsBits_14 rfl (lv_at hl 2 rfl) ?_
        obtain ⟨g2, hf⟩ := of_grd hf
        refine va_iald hx hb hK hP 1 0 rfl rfl g2 dX9_notMeantAsBits_15 ?_
        refine lv_aload_n hx hb dX9_notMeantAsBits_16 rfl (lv_at hl 0 rfl) ?_
        refine va_get (ci := 9) (v := .ref h2) (C := RX9) (T := TX9) (N := 5) hx hb ht0 iX9 hown hK hP 0 rfl rfl 1 (by decide) (ht0 _ wd_322) (fun _ h9 => h9) rfl dX9_notMeantAsBits_17 ?_
        refine lv_iload_n hx hb dX9_notMeantAsBits_20 rfl (lv_at hl 2 rfl) ?_
        obtain ⟨g3, hf⟩ := of_grd hf
        refine va_iald hx hb hK hP 2 0 rfl rfl g3 dX9_notMeantAsBits_21 ?_
        refine lv_icmp_eq (tgt := 31) hx hb dX9_notMeantAsBits_22 (by decide) (fun c4 => ?_) (fun c4 => ?_)
        · have hf := of_pos hf c4
          exact kJ31 _ _ hf _ _ hP hD hS _ (lv_sub hl [0, 1, 2] rfl)
        · have hf := of_neg hf c4
          refine lv_iload_n hx hb dX9_notMeantAsBits_25 rfl (lv_at hl 1 rfl) ?_
          refine lv_iconst (v := (1 : Int32)) hx hb dX9_notMeantAsBits_26 (by decide) ?_
          refine lv_iload_n hx hb dX9_notMeantAsBits_27 rfl (lv_at hl 2 rfl) ?_
          refine lv_ishl hx hb dX9_notMeantAsBits_28 ?_
          refine lv_ior hx hb dX9_notMeantAsBits_29 ?_
          refine lv_istore_n (lv' := [(1, .int (u4_1 ||| ((1 : Int32) <<< (u4_2 &&& 31)))), (0, .ref h0), (2, .int u4_2)]) hx hb dX9_notMeantAsBits_30 rfl hl (by decide) rfl (fun ls hl => ?_)
          exact kJ31 _ _ hf _ _ hP hD hS _ (lv_sub hl [1, 0, 2] rfl)
  refine lv_iconst (v := (0 : Int32)) hx hb dX9_notMeantAsBits_0 (by decide) ?_
  refine lv_istore_n (lv' := [(1, .int (0 : Int32)), (0, .ref h0)]) hx hb dX9_notMeantAsBits_1 rfl hl (by decide) rfl (fun ls hl => ?_)
  refine lv_iconst (v := (0 : Int32)) hx hb dX9_notMeantAsBits_2 (by decide) ?_
  refine lv_istore_n (lv' := [(2, .int (0 : Int32)), (1, .int (0 : Int32)), (0, .ref h0)]) hx hb dX9_notMeantAsBits_3 rfl hl (by decide) rfl (fun ls hl => ?_)
  exact kL4 _ _ _ hf _ _ hP hD hS _ (lv_sub hl [2, 1, 0] rfl)
theorem yk_X9_notMeantAsBits : ykV yX9_notMeantAsBits RX9 cX9_notMeantAsBits 3 (some .int) 0 := ⟨wd_932, wd_933, wd_134, wd_934, rfl, by decide +kernel, by decide +kernel, by decide +kernel⟩
theorem dX9_countAsMeant_0 : decode cX9_countAsMeant 0 = .ok (.bipush 16, 2) := by decide +kernel
theorem dX9_countAsMeant_2 : decode cX9_countAsMeant 2 = .ok (.aload_n 0, 1) := by decide +kernel
theorem dX9_countAsMeant_3 : decode cX9_countAsMeant 3 = .ok (.invokevirtual 109, 3) := by decide +kernel
theorem dX9_countAsMeant_6 : decode cX9_countAsMeant 6 = .ok (.invokestatic 65, 3) := by decide +kernel
theorem dX9_countAsMeant_9 : decode cX9_countAsMeant 9 = .ok (.isub, 1) := by decide +kernel
theorem dX9_countAsMeant_10 : decode cX9_countAsMeant 10 = .ok (.ireturn, 1) := by decide +kernel
def wW_X9_countAsMeant (G : GG) (h0 h1 h2 y0_2 y0_3 y0_4 : Nat) (a1 : Nat → Int32) (a2 : Nat → Int32) : va_W := [(h0, .inr (9, [.ref h1, .ref h2, .ref y0_2, .ref y0_3, .ref y0_4])), (h1, .inl (G.2.1, 16, .inl a1)), (h2, .inl (G.2.1, 16, .inl a2))]
set_option maxHeartbeats 4000000 in
set_option maxRecDepth 100000 in
theorem c_X9_countAsMeant (l : Launch) (G : GG) (h0 h1 h2 y0_2 y0_3 y0_4 : Nat) (sz : Nat) (a1 : Nat → Int32) (a2 : Nat → Int32) (F : Nat)   (r0 : Int32) (hf : p_X9_countAsMeant F a1 a2  = some r0) : Met l yX9_countAsMeant (.code yX9_countAsMeant cX9_countAsMeant 1 (some .int) :: gtbl) ({ frames := 1, cells := 0, slots := 0, locals := 22 } : Room) (PcS G [.ref h0] (wW_X9_countAsMeant G h0 h1 h2 y0_2 y0_3 y0_4 a1 a2) sz) (QiS G r0 (va_A (wW_X9_countAsMeant G h0 h1 h2 y0_2 y0_3 y0_4 a1 a2) sz) (wW_X9_countAsMeant G h0 h1 h2 y0_2 y0_3 y0_4 a1 a2)) 0 0 (va_A (wW_X9_countAsMeant G h0 h1 h2 y0_2 y0_3 y0_4 a1 a2) sz) := by
  refine met_start (by decide) (Nat.le_of_ble_eq_true rfl) ?_
  intro p e s m below meth c hC hr hlk hnm hK hP hD hA hS hX ls hl
  obtain ⟨hx, hb, hml, hown, ht0⟩ := hC
  have hown : s.vm.findClass RX9 = some m.cls := hown
  generalize va_A (wW_X9_countAsMeant G h0 h1 h2 y0_2 y0_3 y0_4 a1 a2) sz = A at hD hA hS hX ⊢
  have hl : lv_has ls 1 [(0, .ref h0)] := hl
  have hf : p_X9_countAsMeant F a1 a2  = some r0 := hf
  refine lv_bipush (v := (16 : Int32)) hx hb dX9_countAsMeant_0 (by decide) ?_
  refine lv_aload_n hx hb dX9_countAsMeant_2 rfl (lv_at hl 0 rfl) ?_
  obtain ⟨r_3_0, hc_r_3_0, hf⟩ := of_bnd hf
  refine cl_Vi (w2 := (wW_X9_countAsMeant G h0 h1 h2 y0_2 y0_3 y0_4 a1 a2)) (As := []) (rest := [.int (16 : Int32)]) ⟨hx, hb, hml, hown, ht0⟩ (c_X9_notMeantAsBits l G h0 h1 h2 y0_2 y0_3 y0_4 _ a1 a2 F _ hc_r_3_0) yk_X9_notMeantAsBits wd_931 ⟨rfl, rfl, by decide, by decide⟩ ⟨Nat.le_refl _, Nat.le_refl _⟩ hX hK hP hD hS hA [0, 1, 2] [] [0, 1, 2] (va_recv hK hP (ci := 9) (q0 := 0) rfl rfl) rfl rfl (by decide) rfl rfl rfl rfl rfl hl.1 rfl (Nat.le_of_ble_eq_true rfl) dX9_countAsMeant_3 (fun H locs hP hD hS => ?_)
  obtain ⟨r_6_1, hc_r_6_1, hf⟩ := of_bnd hf
  refine cl_Si (w2 := (wW_X9_countAsMeant G h0 h1 h2 y0_2 y0_3 y0_4 a1 a2)) (As := [.int r_3_0]) (rest := [.int (16 : Int32)]) ⟨hx, hb, hml, hown, ht0⟩ (c_J6_bitCount_0f7a4 l G _ F r_3_0 _ hc_r_6_1) yk_J6_bitCount_0f7a4 wd_879 ⟨rfl, rfl, by decide, by decide⟩ ⟨Nat.le_refl _, Nat.le_refl _⟩ hX hK hP hD hS hA [] [0, 1, 2] [0, 1, 2] rfl rfl (by decide) rfl rfl rfl rfl rfl hl.1 rfl (Nat.le_of_ble_eq_true rfl) dX9_countAsMeant_6 (fun H locs hP hD hS => ?_)
  refine lv_isub hx hb dX9_countAsMeant_9 ?_
  cases hf
  exact ret_i hx hb hr hlk hK hP hD hS dX9_countAsMeant_10
theorem yk_X9_countAsMeant : ykV yX9_countAsMeant RX9 cX9_countAsMeant 1 (some .int) 0 := ⟨wd_928, wd_929, wd_134, wd_930, rfl, by decide +kernel, by decide +kernel, by decide +kernel⟩
theorem dX9_countUnclean_0 : decode cX9_countUnclean 0 = .ok (.iconst 0, 1) := by decide +kernel
theorem dX9_countUnclean_1 : decode cX9_countUnclean 1 = .ok (.istore_n 1, 1) := by decide +kernel
theorem dX9_countUnclean_2 : decode cX9_countUnclean 2 = .ok (.iconst 0, 1) := by decide +kernel
theorem dX9_countUnclean_3 : decode cX9_countUnclean 3 = .ok (.istore_n 2, 1) := by decide +kernel
theorem dX9_countUnclean_4 : decode cX9_countUnclean 4 = .ok (.iload_n 2, 1) := by decide +kernel
theorem dX9_countUnclean_5 : decode cX9_countUnclean 5 = .ok (.bipush 16, 2) := by decide +kernel
theorem dX9_countUnclean_7 : decode cX9_countUnclean 7 = .ok (.if_icmp .ge 26, 3) := by decide +kernel
theorem dX9_countUnclean_10 : decode cX9_countUnclean 10 = .ok (.iload_n 1, 1) := by decide +kernel
theorem dX9_countUnclean_11 : decode cX9_countUnclean 11 = .ok (.aload_n 0, 1) := by decide +kernel
theorem dX9_countUnclean_12 : decode cX9_countUnclean 12 = .ok (.getfield 21, 3) := by decide +kernel
theorem dX9_countUnclean_15 : decode cX9_countUnclean 15 = .ok (.iload_n 2, 1) := by decide +kernel
theorem dX9_countUnclean_16 : decode cX9_countUnclean 16 = .ok (.iaload, 1) := by decide +kernel
theorem dX9_countUnclean_17 : decode cX9_countUnclean 17 = .ok (.ifCond .eq 7, 3) := by decide +kernel
theorem dX9_countUnclean_20 : decode cX9_countUnclean 20 = .ok (.iconst 1, 1) := by decide +kernel
theorem dX9_countUnclean_21 : decode cX9_countUnclean 21 = .ok (.goto 4, 3) := by decide +kernel
theorem dX9_countUnclean_24 : decode cX9_countUnclean 24 = .ok (.iconst 0, 1) := by decide +kernel
theorem dX9_countUnclean_25 : decode cX9_countUnclean 25 = .ok (.iadd, 1) := by decide +kernel
theorem dX9_countUnclean_26 : decode cX9_countUnclean 26 = .ok (.istore_n 1, 1) := by decide +kernel
theorem dX9_countUnclean_27 : decode cX9_countUnclean 27 = .ok (.iinc 2 1, 3) := by decide +kernel
theorem dX9_countUnclean_30 : decode cX9_countUnclean 30 = .ok (.goto (-26), 3) := by decide +kernel
theorem dX9_countUnclean_33 : decode cX9_countUnclean 33 = .ok (.iload_n 1, 1) := by decide +kernel
theorem dX9_countUnclean_34 : decode cX9_countUnclean 34 = .ok (.ireturn, 1) := by decide +kernel
def wW_X9_countUnclean (G : GG) (h0 h1 y0_0 y0_1 y0_2 y0_4 : Nat) (a1 : Nat → Int32) : va_W := [(h0, .inr (9, [.ref y0_0, .ref y0_1, .ref y0_2, .ref h1, .ref y0_4])), (h1, .inl (G.2.1, 16, .inl a1))]
set_option maxHeartbeats 4000000 in
set_option maxRecDepth 100000 in
theorem c_X9_countUnclean (l : Launch) (G : GG) (h0 h1 y0_0 y0_1 y0_2 y0_4 : Nat) (sz : Nat) (a1 : Nat → Int32) (F : Nat)   (r0 : Int32) (hf : p_X9_countUnclean F a1  = some r0) : Met l yX9_countUnclean (.code yX9_countUnclean cX9_countUnclean 3 (some .int) :: gtbl) ({ frames := 0, cells := 0, slots := 0, locals := 0 } : Room) (PcS G [.ref h0] (wW_X9_countUnclean G h0 h1 y0_0 y0_1 y0_2 y0_4 a1) sz) (QiS G r0 (va_A (wW_X9_countUnclean G h0 h1 y0_0 y0_1 y0_2 y0_4 a1) sz) (wW_X9_countUnclean G h0 h1 y0_0 y0_1 y0_2 y0_4 a1)) 0 0 (va_A (wW_X9_countUnclean G h0 h1 y0_0 y0_1 y0_2 y0_4 a1) sz) := by
  refine met_start (by decide) (Nat.le_of_ble_eq_true rfl) ?_
  intro p e s m below meth c hC hr hlk hnm hK hP hD hA hS hX ls hl
  obtain ⟨hx, hb, hml, hown, ht0⟩ := hC
  have hown : s.vm.findClass RX9 = some m.cls := hown
  generalize va_A (wW_X9_countUnclean G h0 h1 y0_0 y0_1 y0_2 y0_4 a1) sz = A at hD hA hS hX ⊢
  have hl : lv_has ls 3 [(0, .ref h0)] := hl
  have hf : p_X9_countUnclean F a1  = some r0 := hf
  have kL4 : ∀ (n4 : Nat) (u4_1 : Int32) (u4_2 : Int32), p_X9_countUnclean_L4 F a1 n4 u4_1 u4_2 = some r0 → ∀ (H : Heap) (locs : List Loc), va_P G.1 vwCl (wW_X9_countUnclean G h0 h1 y0_0 y0_1 y0_2 y0_4 a1) H → va_D A (wW_X9_countUnclean G h0 h1 y0_0 y0_1 y0_2 y0_4 a1) → va_S A s.heap H locs → ∀ ls : Array Slot, lv_has ls 3 [(0, .ref h0), (1, .int u4_1), (2, .int u4_2)] → W p l e ({ frames := 0, cells := 0, slots := 0, locals := 0 } : Room) s m (List.toArray [.ref h0]) below meth c H locs 0 0 (MQ below (QiS G r0 A (wW_X9_countUnclean G h0 h1 y0_0 y0_1 y0_2 y0_4 a1)) (List.toArray [.ref h0]) s 0 0 A) (F0 m 4 ls []) := by
    intro n4
    induction n4 with
    | zero =>
      intro u4_1 u4_2 hf
      cases hf
    | succ n4 ih4 =>
      have kJ25 : ∀ (u25_2 : Int32) (s25_0 : Int32) (s25_1 : Int32), p_X9_countUnclean_J25 F a1 (p_X9_countUnclean_L4 F a1 n4) u25_2 s25_0 s25_1 = some r0 → ∀ (H : Heap) (locs : List Loc), va_P G.1 vwCl (wW_X9_countUnclean G h0 h1 y0_0 y0_1 y0_2 y0_4 a1) H → va_D A (wW_X9_countUnclean G h0 h1 y0_0 y0_1 y0_2 y0_4 a1) → va_S A s.heap H locs → ∀ ls : Array Slot, lv_has ls 3 [(0, .ref h0), (2, .int u25_2)] → W p l e ({ frames := 0, cells := 0, slots := 0, locals := 0 } : Room) s m (List.toArray [.ref h0]) below meth c H locs 0 0 (MQ below (QiS G r0 A (wW_X9_countUnclean G h0 h1 y0_0 y0_1 y0_2 y0_4 a1)) (List.toArray [.ref h0]) s 0 0 A) (F0 m 25 ls [.int s25_1, .int s25_0]) := by
        intro u25_2 s25_0 s25_1 hf H locs hP hD hS ls hl
        refine lv_iadd hx hb dX9_countUnclean_25 ?_
        refine lv_istore_n (lv' := [(1, .int (s25_0 + s25_1)), (0, .ref h0), (2, .int u25_2)]) hx hb dX9_countUnclean_26 rfl hl (by decide) rfl (fun ls hl => ?_)
        refine lv_iinc (v := u25_2 + (1 : Int32)) (lv' := [(2, .int (u25_2 + (1 : Int32))), (1, .int (s25_0 + s25_1)), (0, .ref h0)]) hx hb dX9_countUnclean_27 hl (k := 2) rfl (by rfl) (by decide) rfl (fun ls hl => ?_)
        refine lv_goto (tgt := 4) hx hb dX9_countUnclean_30 (by decide) ?_
        exact ih4 _ _ hf _ _ hP hD hS _ (lv_sub hl [2, 1, 0] rfl)
      intro u4_1 u4_2 hf H locs hP hD hS ls hl
      have hf : p_X9_countUnclean_L4b F a1 (p_X9_countUnclean_L4 F a1 n4) u4_1 u4_2 = some r0 := hf
      refine lv_iload_n hx hb dX9_countUnclean_4 rfl (lv_at hl 2 rfl) ?_
      refine lv_bipush (v := (16 : Int32)) hx hb dX9_countUnclean_5 (by decide) ?_
      refine lv_icmp_ge (tgt := 33) hx hb dX9_countUnclean_7 (by decide) (fun c1 => ?_) (fun c1 => ?_)
      · have hf := of_pos hf c1
        refine lv_iload_n hx hb dX9_countUnclean_33 rfl (lv_at hl 1 rfl) ?_
        cases hf
        exact ret_i hx hb hr hlk hK hP hD hS dX9_countUnclean_34
      · have hf := of_neg hf c1
        refine lv_iload_n hx hb dX9_countUnclean_10 rfl (lv_at hl 1 rfl) ?_
        refine lv_aload_n hx hb dX9_countUnclean_11 rfl (lv_at hl 0 rfl) ?_
        refine va_get (ci := 9) (v := .ref h1) (C := RX9) (T := TX9) (N := 5) hx hb ht0 iX9 hown hK hP 0 rfl rfl 3 (by decide) (ht0 _ wd_326) (fun _ h9 => h9) rfl dX9_countUnclean_12 ?_
        refine lv_iload_n hx hb dX9_countUnclean_15 rfl (lv_at hl 2 rfl) ?_
        obtain ⟨g2, hf⟩ := of_grd hf
        refine va_iald hx hb hK hP 1 0 rfl rfl g2 dX9_countUnclean_16 ?_
        refine lv_if_eq (tgt := 24) hx hb dX9_countUnclean_17 (by decide) (fun c3 => ?_) (fun c3 => ?_)
        · have hf := of_pos hf c3
          refine lv_iconst (v := (0 : Int32)) hx hb dX9_countUnclean_24 (by decide) ?_
          exact kJ25 _ _ _ hf _ _ hP hD hS _ (lv_sub hl [0, 2] rfl)
        · have hf := of_neg hf c3
          refine lv_iconst (v := (1 : Int32)) hx hb dX9_countUnclean_20 (by decide) ?_
          refine lv_goto (tgt := 25) hx hb dX9_countUnclean_21 (by decide) ?_
          exact kJ25 _ _ _ hf _ _ hP hD hS _ (lv_sub hl [0, 2] rfl)
  refine lv_iconst (v := (0 : Int32)) hx hb dX9_countUnclean_0 (by decide) ?_
  refine lv_istore_n (lv' := [(1, .int (0 : Int32)), (0, .ref h0)]) hx hb dX9_countUnclean_1 rfl hl (by decide) rfl (fun ls hl => ?_)
  refine lv_iconst (v := (0 : Int32)) hx hb dX9_countUnclean_2 (by decide) ?_
  refine lv_istore_n (lv' := [(2, .int (0 : Int32)), (1, .int (0 : Int32)), (0, .ref h0)]) hx hb dX9_countUnclean_3 rfl hl (by decide) rfl (fun ls hl => ?_)
  exact kL4 _ _ _ hf _ _ hP hD hS _ (lv_sub hl [2, 1, 0] rfl)
theorem yk_X9_countUnclean : ykV yX9_countUnclean RX9 cX9_countUnclean 3 (some .int) 0 := ⟨wd_1252, wd_1253, wd_134, wd_1254, rfl, by decide +kernel, by decide +kernel, by decide +kernel⟩
