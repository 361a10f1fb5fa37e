section Aald
variable {p : Program} {l : Launch} {e : Env} {R : Room} {s : State} {m : MethodId} {args : Array Value} {below : List Frame} {meth : Method} {c : Code} {H : Heap} {locs : List Loc} {cells slots : Nat} {Q : State → Prop} {cc : ByteArray} {pc : Nat} {ls : Array Slot} {rest : List Value} {D : va_G} {cl : List vw_C} {tys : List (ClassId × FieldType)} {ws : va_W} {a : Nat}
theorem va_aldS (hexec : p.tables.exec = Jvm.exec) (hb : c.code = cc) (hK : va_K D cl tys s) (hP : va_P D cl ws H) (q0 t0 : Nat) {cA : ClassId} {C : String} {n : Nat} {f : Nat → Option Nat} (ha : ws[q0]? = some (a, .inl (cA, n, .inr (.inr (.inr (.inr f)))))) (ht : tys[t0]? = some (cA, .object C)) {i : Int32} (hin : vp_in i n) {g : Nat} (hg : f i.toNatClampNeg = some g) (hdg : decode cc pc = .ok (.aaload, 1))
    (kk : W p l e R s m args below meth c H locs cells slots Q (F0 m (pc + 1) ls (.ref g :: rest))) : W p l e R s m args below meth c H locs cells slots Q (F0 m pc ls (.int i :: .ref a :: rest)) :=
  va_aldq hexec hb hK hP q0 t0 ha ht hin hdg (by rw [hg]; exact kk)
end Aald
theorem SO.any {G : GG} {A : Nat → Prop} {s : State} {H : Heap} {locs : List Loc} {q : Nat × Nat × Nat} (h : SO A s q) (hK : va_K G.1 vwCl (tyG G) s) (hS : va_S A s.heap H locs) : va_Any "OddColumns$State" s H q.1 := by
  obtain ⟨cell, h1, h2, h3⟩ := h.recv hS
  have hc : ClassAt s "OddColumns$State" (G.1.1 6) := (hK.1 6 _ rfl).2
  have e : cell.cls = G.1.1 6 := Option.some.inj (h3.symm.trans hc.1)
  obtain ⟨kC, hkC, -⟩ := hc.2
  refine ⟨cell, h1, h2, ⟨kC, by rw [e]; exact hkC⟩, fun comp hcomp => ?_⟩
  have e2 : comp = G.1.1 6 := Option.some.inj (hcomp.symm.trans hc.1)
  rw [e, e2]
  exact va_assign hc
/-- every one of the thirteen is a State that is known -/
def stAll (G : GG) (st : Nat → Option Nat) : Prop := ∀ j, j < 13 → ∃ q ∈ gS G, st j = some q.1
def wW_X8_dropOldest (G : GG) (h0 h1 : Nat) (x0_1 : Int32) (x0_2 : Int32) (a1 : Nat → Option Nat) : va_W := [(h0, .inr (8, [.ref h1, .int x0_1, .int x0_2])), (h1, .inl (G.2.2.2.2.1, 13, .inr (.inr (.inr (.inr a1)))))]
theorem dX8_dropOldest_0 : decode cX8_dropOldest 0 = .ok (.aload_n 0, 1) := by decide +kernel
theorem dX8_dropOldest_1 : decode cX8_dropOldest 1 = .ok (.getfield 11, 3) := by decide +kernel
theorem dX8_dropOldest_4 : decode cX8_dropOldest 4 = .ok (.iconst 0, 1) := by decide +kernel
theorem dX8_dropOldest_5 : decode cX8_dropOldest 5 = .ok (.aaload, 1) := by decide +kernel
theorem dX8_dropOldest_6 : decode cX8_dropOldest 6 = .ok (.astore_n 1, 1) := by decide +kernel
theorem dX8_dropOldest_7 : decode cX8_dropOldest 7 = .ok (.iconst 0, 1) := by decide +kernel
theorem dX8_dropOldest_8 : decode cX8_dropOldest 8 = .ok (.istore_n 2, 1) := by decide +kernel
theorem dX8_dropOldest_9 : decode cX8_dropOldest 9 = .ok (.iload_n 2, 1) := by decide +kernel
theorem dX8_dropOldest_10 : decode cX8_dropOldest 10 = .ok (.bipush 12, 2) := by decide +kernel
theorem dX8_dropOldest_12 : decode cX8_dropOldest 12 = .ok (.if_icmp .ge 23, 3) := by decide +kernel
theorem dX8_dropOldest_15 : decode cX8_dropOldest 15 = .ok (.aload_n 0, 1) := by decide +kernel
theorem dX8_dropOldest_16 : decode cX8_dropOldest 16 = .ok (.getfield 11, 3) := by decide +kernel
theorem dX8_dropOldest_19 : decode cX8_dropOldest 19 = .ok (.iload_n 2, 1) := by decide +kernel
theorem dX8_dropOldest_20 : decode cX8_dropOldest 20 = .ok (.aload_n 0, 1) := by decide +kernel
theorem dX8_dropOldest_21 : decode cX8_dropOldest 21 = .ok (.getfield 11, 3) := by decide +kernel
theorem dX8_dropOldest_24 : decode cX8_dropOldest 24 = .ok (.iload_n 2, 1) := by decide +kernel
theorem dX8_dropOldest_25 : decode cX8_dropOldest 25 = .ok (.iconst 1, 1) := by decide +kernel
theorem dX8_dropOldest_26 : decode cX8_dropOldest 26 = .ok (.iadd, 1) := by decide +kernel
theorem dX8_dropOldest_27 : decode cX8_dropOldest 27 = .ok (.aaload, 1) := by decide +kernel
theorem dX8_dropOldest_28 : decode cX8_dropOldest 28 = .ok (.aastore, 1) := by decide +kernel
theorem dX8_dropOldest_29 : decode cX8_dropOldest 29 = .ok (.iinc 2 1, 3) := by decide +kernel
theorem dX8_dropOldest_32 : decode cX8_dropOldest 32 = .ok (.goto (-23), 3) := by decide +kernel
theorem dX8_dropOldest_35 : decode cX8_dropOldest 35 = .ok (.aload_n 0, 1) := by decide +kernel
theorem dX8_dropOldest_36 : decode cX8_dropOldest 36 = .ok (.getfield 11, 3) := by decide +kernel
theorem dX8_dropOldest_39 : decode cX8_dropOldest 39 = .ok (.bipush 12, 2) := by decide +kernel
theorem dX8_dropOldest_41 : decode cX8_dropOldest 41 = .ok (.aload_n 1, 1) := by decide +kernel
theorem dX8_dropOldest_42 : decode cX8_dropOldest 42 = .ok (.aastore, 1) := by decide +kernel
theorem dX8_dropOldest_43 : decode cX8_dropOldest 43 = .ok (.aload_n 0, 1) := by decide +kernel
theorem dX8_dropOldest_44 : decode cX8_dropOldest 44 = .ok (.bipush 11, 2) := by decide +kernel
theorem dX8_dropOldest_46 : decode cX8_dropOldest 46 = .ok (.putfield 16, 3) := by decide +kernel
theorem dX8_dropOldest_49 : decode cX8_dropOldest 49 = .ok (.return_, 1) := by decide +kernel
set_option maxHeartbeats 4000000 in
set_option maxRecDepth 100000 in
theorem c_X8_dropOldest (l : Launch) (G : GG) (h0 h1 : Nat) (sz : Nat) (x0_1 x0_2 : Int32) (a1 : Nat → Option Nat) (F : Nat) (hall : stAll G a1) (e_x0_1 : Int32) (e_a1 : Nat → Option Nat) (hf : p_X8_dropOldest F x0_1 a1 = some (e_x0_1, e_a1)) : Met l yX8_dropOldest (.code yX8_dropOldest cX8_dropOldest 3 none :: gtbl) ({ frames := 0, cells := 0, slots := 0, locals := 0 } : Room) (PcS G [.ref h0] (wW_X8_dropOldest G h0 h1 x0_1 x0_2 a1) sz) (QvS G (va_A (wW_X8_dropOldest G h0 h1 x0_1 x0_2 a1) sz) (wW_X8_dropOldest G h0 h1 e_x0_1 x0_2 e_a1)) 0 0 (va_A (wW_X8_dropOldest G h0 h1 x0_1 x0_2 a1) sz) := by
  refine met_start (by decide) (Nat.le_of_ble_eq_true rfl) ?_
  intro p e s m below meth c hC hr hlk hnm hK hP hD hA hS hX ls hl
  obtain ⟨hx, hb, hml, hown, ht0⟩ := hC
  have hown : s.vm.findClass RX8 = some m.cls := hown
  generalize va_A (wW_X8_dropOldest G h0 h1 x0_1 x0_2 a1) sz = A at hD hA hS hX ⊢
  have hl : lv_has ls 3 [(0, .ref h0)] := hl
  obtain ⟨q0, hq0, hs0⟩ := hall 0 (by decide)
  cases hf
  have kL : ∀ (n k : Nat), k + n = 12 → ∀ (f : Nat → Option Nat), (∀ j, f j = if j < k then a1 (j + 1) else a1 j) → ∀ (H : Heap) (locs : List Loc), va_P G.1 vwCl (wW_X8_dropOldest G h0 h1 x0_1 x0_2 f) H → va_D A (wW_X8_dropOldest G h0 h1 x0_1 x0_2 f) → va_S A s.heap H locs → ∀ ls : Array Slot, lv_has ls 3 [(0, .ref h0), (1, .ref q0.1), (2, .int (nI k))] → W p l e ({ frames := 0, cells := 0, slots := 0, locals := 0 } : Room) s m (List.toArray [.ref h0]) below meth c H locs 0 0 (MQ below (QvS G A (wW_X8_dropOldest G h0 h1 11 x0_2 (rotL a1))) (List.toArray [.ref h0]) s 0 0 A) (F0 m 9 ls []) := by
    intro n
    induction n with
    | zero =>
      intro k hk f hfk H locs hP hD hS ls hl
      have hk : k = 12 := by omega
      subst hk
      refine lv_iload_n hx hb dX8_dropOldest_9 rfl (lv_at hl 2 rfl) ?_
      refine lv_bipush (v := 12) hx hb dX8_dropOldest_10 (by decide) ?_
      refine lv_icmp_ge (tgt := 35) hx hb dX8_dropOldest_12 (by decide) (fun _ => ?_) (fun c1 => absurd (by decide) c1)
      refine lv_aload_n hx hb dX8_dropOldest_35 rfl (lv_at hl 0 rfl) ?_
      refine va_get (ci := 8) (v := .ref h1) (C := RX8) (T := TX8) (N := 3) hx hb ht0 iX8 hown hK hP 0 rfl rfl 0 (by decide) (ht0 _ wd_350) (fun _ h9 => h9) rfl dX8_dropOldest_36 ?_
      refine lv_bipush (v := 12) hx hb dX8_dropOldest_39 (by decide) ?_
      refine lv_aload_n hx hb dX8_dropOldest_41 rfl (lv_at hl 1 rfl) ?_
      refine va_astqM hx hb hK hP hD hS 1 3 rfl rfl ((hX.2.2 _ hq0).any hK hS) (show ¬ ixBad 12 13 by decide) dX8_dropOldest_42 (fun H locs hP hD hS => ?_)
      have e : va_up f (12 : Int32).toNatClampNeg (some q0.1) = rotL a1 := by
        funext j
        show (if j = 12 then some q0.1 else f j) = if j < 12 then a1 (j + 1) else if j = 12 then a1 0 else a1 j
        rw [hfk j]
        by_cases h1 : j = 12
        · subst h1; simp [hs0]
        · rw [if_neg h1, if_neg h1]
      have hP : va_P G.1 vwCl (wW_X8_dropOldest G h0 h1 x0_1 x0_2 (va_up f (12 : Int32).toNatClampNeg (some q0.1))) H := hP
      have hD : va_D A (wW_X8_dropOldest G h0 h1 x0_1 x0_2 (va_up f (12 : Int32).toNatClampNeg (some q0.1))) := hD
      rw [e] at hP hD
      refine lv_aload_n hx hb dX8_dropOldest_43 rfl (lv_at hl 0 rfl) ?_
      refine lv_bipush (v := 11) hx hb dX8_dropOldest_44 (by decide) ?_
      refine va_put (ci := 8) (v := .int 11) (ty := .int) (C := RX8) (T := TX8) (N := 3) hx hb ht0 iX8 tyX8 tyX8_ok nmX8 hown hK hP hD hS 0 rfl rfl 1 (by decide) (ht0 _ wd_351) (fun _ h9 => h9) rfl rfl rfl rfl (Nat.le_of_ble_eq_true rfl) dX8_dropOldest_46 (fun H locs hP hD hS => ?_)
      exact ret_v (w1 := wW_X8_dropOldest G h0 h1 11 x0_2 (rotL a1)) hx hb hr hlk hK hP hD hS dX8_dropOldest_49
    | succ n ih =>
      intro k hk f hfk H locs hP hD hS ls hl
      have hk12 : k < 12 := by omega
      obtain ⟨q, hq, hsq⟩ := hall (k + 1) (by omega)
      have hin1 : vp_in (nI k + 1) 13 := by rw [nI_1]; exact vp_in_nI (by omega) (by omega)
      have hin0 : vp_in (nI k) 13 := vp_in_nI (by omega) (by omega)
      have hval : f (nI k + 1).toNatClampNeg = some q.1 := by
        rw [nI_1, nI_clamp (by omega), hfk, if_neg (by omega)]
        exact hsq
      refine lv_iload_n hx hb dX8_dropOldest_9 rfl (lv_at hl 2 rfl) ?_
      refine lv_bipush (v := 12) hx hb dX8_dropOldest_10 (by decide) ?_
      refine lv_icmp_ge (tgt := 35) hx hb dX8_dropOldest_12 (by decide) (fun c1 => absurd c1 (nI_ge (b := 12) hk12 (by decide))) (fun _ => ?_)
      refine lv_aload_n hx hb dX8_dropOldest_15 rfl (lv_at hl 0 rfl) ?_
      refine va_get (ci := 8) (v := .ref h1) (C := RX8) (T := TX8) (N := 3) hx hb ht0 iX8 hown hK hP 0 rfl rfl 0 (by decide) (ht0 _ wd_350) (fun _ h9 => h9) rfl dX8_dropOldest_16 ?_
      refine lv_iload_n hx hb dX8_dropOldest_19 rfl (lv_at hl 2 rfl) ?_
      refine lv_aload_n hx hb dX8_dropOldest_20 rfl (lv_at hl 0 rfl) ?_
      refine va_get (ci := 8) (v := .ref h1) (C := RX8) (T := TX8) (N := 3) hx hb ht0 iX8 hown hK hP 0 rfl rfl 0 (by decide) (ht0 _ wd_350) (fun _ h9 => h9) rfl dX8_dropOldest_21 ?_
      refine lv_iload_n hx hb dX8_dropOldest_24 rfl (lv_at hl 2 rfl) ?_
      refine lv_iconst (v := 1) hx hb dX8_dropOldest_25 (by decide) ?_
      refine lv_iadd hx hb dX8_dropOldest_26 ?_
      refine va_aldS hx hb hK hP 1 3 rfl rfl hin1 hval dX8_dropOldest_27 ?_
      refine va_astqM hx hb hK hP hD hS 1 3 rfl rfl ((hX.2.2 _ hq).any hK hS) hin0 dX8_dropOldest_28 (fun H locs hP hD hS => ?_)
      refine lv_iinc (v := nI (k + 1)) (lv' := [(2, .int (nI (k + 1))), (0, .ref h0), (1, .ref q0.1)]) hx hb dX8_dropOldest_29 hl (k := 2) rfl (nI_1 k) (by decide) rfl (fun ls hl => ?_)
      refine lv_goto (tgt := 9) hx hb dX8_dropOldest_32 (by decide) ?_
      refine ih (k + 1) (by omega) (va_up f (nI k).toNatClampNeg (some q.1)) ?_ H locs hP hD hS ls (lv_sub hl [1, 2, 0] rfl)
      intro j
      show (if j = (nI k).toNatClampNeg then some q.1 else f j) = _
      rw [nI_clamp (by omega), hfk j]
      by_cases h1 : j = k
      · subst h1; rw [if_pos rfl, if_pos (by omega), hsq]
      · rw [if_neg h1]
        by_cases h2 : j < k
        · rw [if_pos h2, if_pos (by omega)]
        · rw [if_neg h2, if_neg (by omega)]
  refine lv_aload_n hx hb dX8_dropOldest_0 rfl (lv_at hl 0 rfl) ?_
  refine va_get (ci := 8) (v := .ref h1) (C := RX8) (T := TX8) (N := 3) hx hb ht0 iX8 hown hK hP 0 rfl rfl 0 (by decide) (ht0 _ wd_350) (fun _ h9 => h9) rfl dX8_dropOldest_1 ?_
  refine lv_iconst (v := 0) hx hb dX8_dropOldest_4 (by decide) ?_
  refine va_aldS hx hb hK hP 1 3 rfl rfl (show ¬ ixBad 0 13 by decide) hs0 dX8_dropOldest_5 ?_
  refine lv_astore_n (lv' := [(1, .ref q0.1), (0, .ref h0)]) hx hb dX8_dropOldest_6 rfl hl (by decide) rfl (fun ls hl => ?_)
  refine lv_iconst (v := 0) hx hb dX8_dropOldest_7 (by decide) ?_
  refine lv_istore_n (lv' := [(2, .int (nI 0)), (1, .ref q0.1), (0, .ref h0)]) hx hb dX8_dropOldest_8 rfl hl (by decide) rfl (fun ls hl => ?_)
  exact kL 12 0 rfl a1 (fun j => by rw [if_neg (by omega)]) _ _ hP hD hS ls (lv_sub hl [2, 1, 0] rfl)
theorem yk_X8_dropOldest : ykV yX8_dropOldest RX8 cX8_dropOldest 3 none 0 := ⟨wd_804, wd_24, wd_132, wd_805, rfl, by decide +kernel, by decide +kernel, by decide +kernel⟩
