/-! the line of States, made -/
theorem dX8_init_0 : decode cX8_init 0 = .ok (.aload_n 0, 1) := by decide +kernel
theorem dX8_init_1 : decode cX8_init 1 = .ok (.invokespecial 1, 3) := by decide +kernel
theorem dX8_init_4 : decode cX8_init 4 = .ok (.aload_n 0, 1) := by decide +kernel
theorem dX8_init_5 : decode cX8_init 5 = .ok (.bipush 13, 2) := by decide +kernel
theorem dX8_init_7 : decode cX8_init 7 = .ok (.anewarray 9, 3) := by decide +kernel
theorem dX8_init_10 : decode cX8_init 10 = .ok (.putfield 11, 3) := by decide +kernel
theorem dX8_init_13 : decode cX8_init 13 = .ok (.iconst 0, 1) := by decide +kernel
theorem dX8_init_14 : decode cX8_init 14 = .ok (.istore_n 1, 1) := by decide +kernel
theorem dX8_init_15 : decode cX8_init 15 = .ok (.iload_n 1, 1) := by decide +kernel
theorem dX8_init_16 : decode cX8_init 16 = .ok (.bipush 12, 2) := by decide +kernel
theorem dX8_init_18 : decode cX8_init 18 = .ok (.if_icmp .gt 22, 3) := by decide +kernel
theorem dX8_init_21 : decode cX8_init 21 = .ok (.aload_n 0, 1) := by decide +kernel
theorem dX8_init_22 : decode cX8_init 22 = .ok (.getfield 11, 3) := by decide +kernel
theorem dX8_init_25 : decode cX8_init 25 = .ok (.iload_n 1, 1) := by decide +kernel
theorem dX8_init_26 : decode cX8_init 26 = .ok (.new 9, 3) := by decide +kernel
theorem dX8_init_29 : decode cX8_init 29 = .ok (.dup, 1) := by decide +kernel
theorem dX8_init_30 : decode cX8_init 30 = .ok (.invokespecial 15, 3) := by decide +kernel
theorem dX8_init_33 : decode cX8_init 33 = .ok (.aastore, 1) := by decide +kernel
theorem dX8_init_34 : decode cX8_init 34 = .ok (.iinc 1 1, 3) := by decide +kernel
theorem dX8_init_37 : decode cX8_init 37 = .ok (.goto (-22), 3) := by decide +kernel
theorem dX8_init_40 : decode cX8_init 40 = .ok (.return_, 1) := by decide +kernel
theorem ykN_X8_init : ykN yX8_init cX8_init 2 := ⟨wd_302, wd_132, wd_303, ⟨by decide, by decide, by decide +kernel⟩, rfl⟩
abbrev tS : Type := Nat × tX6
def poolN (G : GG) (tl : Nat → tS) : Nat → va_W
  | 0 => []
  | i + 1 => poolN G tl i ++ wN_X6 G (tl i).1 (tl i).2
def stF (tl : Nat → tS) (i : Nat) : Nat → Option Nat := fun j => if j < i then some (tl j).1 else none
def tlU (tl : Nat → tS) (i : Nat) (x : tS) : Nat → tS := fun j => if j = i then x else tl j
theorem poolN_cong {G : GG} {tl tl' : Nat → tS} : ∀ {i : Nat}, (∀ j, j < i → tl' j = tl j) → poolN G tl' i = poolN G tl i
  | 0, _ => rfl
  | i + 1, h => by
    show poolN G tl' i ++ wN_X6 G (tl' i).1 (tl' i).2 = poolN G tl i ++ wN_X6 G (tl i).1 (tl i).2
    rw [poolN_cong (fun j hj => h j (by omega)), h i (by omega)]
theorem poolN_push {G : GG} {tl : Nat → tS} {i : Nat} {x : tS} : poolN G (tlU tl i x) (i + 1) = poolN G tl i ++ wN_X6 G x.1 x.2 := by
  show poolN G (tlU tl i x) i ++ wN_X6 G (tlU tl i x i).1 (tlU tl i x i).2 = _
  rw [poolN_cong (tl := tl) (fun j hj => by unfold tlU; rw [if_neg (by omega)])]
  unfold tlU
  rw [if_pos rfl]
theorem stF_push {tl : Nat → tS} {i : Nat} {x : tS} (hi : i < 13) : va_up (stF tl i) (nI i).toNatClampNeg (some x.1) = stF (tlU tl i x) (i + 1) := by
  rw [nI_clamp (by omega)]
  funext j
  unfold va_up stF tlU
  by_cases e : j = i
  · rw [if_pos e, if_pos (by omega), if_pos e]
  · rw [if_neg e]
    by_cases h : j < i
    · rw [if_pos h, if_pos (by omega), if_neg e]
    · rw [if_neg h, if_neg (by omega)]
abbrev tX8 : Type := Nat × (Nat → tS)
def wN_X8 (G : GG) (h0 : Nat) (u : tX8) : va_W := [(h0, .inr (8, [.ref u.1, .int 0, .int 0]))] ++ [(u.1, .inl (G.2.2.2.2.1, 13, .inr (.inr (.inr (.inr (stF u.2 13))))))] ++ poolN G u.2 13
set_option maxRecDepth 100000 in
set_option maxHeartbeats 4000000 in
theorem c_X8_init (l : Launch) (G : GG) (h0 sz : Nat) : Met l yX8_init (.code yX8_init cX8_init 2 none :: gtbl) ({ frames := 3, cells := 144, slots := 8190, locals := 52 } : Room) (PcN G [.ref h0] [(h0, .inr (8, [.null, .int 0, .int 0]))] sz) (QvN G (va_A [(h0, .inr (8, [.null, .int 0, .int 0]))] sz) (wN_X8 G h0)) 144 8190 (va_A [(h0, .inr (8, [.null, .int 0, .int 0]))] sz) := by
  refine met_startN (by decide) (Nat.le_of_ble_eq_true rfl) ?_
  intro p e s m below meth c F hr hlk hin hK hP hD hA hS hX hO ls hl
  obtain ⟨hx, hb, hml, hown, ht0⟩ := F
  generalize va_A [(h0, .inr (8, [.null, .int 0, .int 0]))] sz = A at hD hA hS hX ⊢
  have hl : lv_has ls 2 [(0, .ref h0)] := hl
  have loop : ∀ (d i qa : Nat) (tl : Nat → tS) (H : Heap) (locs : List Loc) (ls : Array Slot), i + d = 13 →
      va_P G.1 vwCl ([(h0, .inr (8, [.ref qa, .int 0, .int 0]))] ++ [(qa, .inl (G.2.2.2.2.1, 13, .inr (.inr (.inr (.inr (stF tl i))))))] ++ poolN G tl i) H → va_D A ([(h0, .inr (8, [.ref qa, .int 0, .int 0]))] ++ [(qa, .inl (G.2.2.2.2.1, 13, .inr (.inr (.inr (.inr (stF tl i))))))] ++ poolN G tl i) → va_S A s.heap H locs → lv_has ls 2 [(1, .int (nI i)), (0, .ref h0)] →
      W p l e ({ frames := 3, cells := 144, slots := 8190, locals := 52 } : Room) s m (List.toArray [.ref h0]) below meth c H locs (1 + 11 * i) (13 + 629 * i) (MQ below (QvN G A (wN_X8 G h0)) (List.toArray [.ref h0]) s 144 8190 A) (F0 m 15 ls []) := by
    intro d
    induction d with
    | zero =>
      intro i qa tl H locs ls hi hP hD hS hl
      have e : i = 13 := by omega
      subst e
      refine lv_iload_n hx hb dX8_init_15 rfl (lv_at hl 0 rfl) ?_
      refine lv_bipush (v := 12) hx hb dX8_init_16 (by decide) ?_
      refine lv_icmp_gt (tgt := 40) hx hb dX8_init_18 (by decide) (fun _ => ?_) (fun q => absurd (show (12 : Int32) < nI 13 by decide +kernel) q)
      exact ret_vN (w1 := wN_X8 G h0) ((qa, tl) : tX8) hx hb hr hlk hK hP hD hS dX8_init_40
    | succ d ih =>
      intro i qa tl H locs ls hi hP hD hS hl
      have hi13 : i < 13 := by omega
      refine lv_iload_n hx hb dX8_init_15 rfl (lv_at hl 0 rfl) ?_
      refine lv_bipush (v := 12) hx hb dX8_init_16 (by decide) ?_
      refine lv_icmp_gt (tgt := 40) hx hb dX8_init_18 (by decide) (fun q => absurd (show nI i ≤ (12 : Int32) from nI_le (b := 12) (by omega) (by decide)) (i32_nle.mpr q)) (fun _ => ?_)
      refine lv_aload_n hx hb dX8_init_21 rfl (lv_at hl 1 rfl) ?_
      refine va_get (ci := 8) (v := .ref qa) (C := RX8) (T := TX8) (N := 3) hx hb ht0 iX8 hown hK hP 0 rfl rfl 0 (by decide) (ht0 _ wd_350) (fun _ h9 => h9) rfl dX8_init_22 ?_
      refine lv_iload_n hx hb dX8_init_25 rfl (lv_at hl 0 rfl) ?_
      refine va_new (ci := 6) (fs := [.null, .null]) (C := RX6) (T := TX6) (N := 2) hx hb ht0 iX6 tyX6 tyX6_ok hown (ht0 _ wd_305) (ht0 _ wd_307) (ht0 _ wd_133) hK hP hD hS hA rfl (fun j hj => by rcases (show j = 0 ∨ j = 1 by omega) with rfl | rfl <;> rfl) (show 1 + 11 * i + 1 ≤ 144 by omega) (show 13 + 629 * i + 2 ≤ 8190 by omega) dX8_init_26 (fun q H hP hD hS => ?_)
      refine lv_dup hx hb dX8_init_29 rfl ?_
      refine cl_N (rest := [.ref q, .int (nI i), .ref qa]) ⟨hx, hb, hml, hown, ht0⟩ (c_X6_init l G q H.size) ykN_X6_init (List.mem_of_getElem? (i := 4) rfl) ⟨rfl, rfl, Nat.le_of_ble_eq_true rfl, Nat.le_of_ble_eq_true rfl⟩ ⟨show 1 + 11 * i + 1 + 10 ≤ 144 by omega, show 13 + 629 * i + 2 + 627 ≤ 8190 by omega⟩ hX hO hK hP hD hS hA hl.1 (Nat.le_of_ble_eq_true rfl) dX8_init_30 (fun u H locs hP hD hS => ?_)
      refine va_astq (q0 := 1) (t0 := 3) (qk := ([(h0, .inr (8, [.ref qa, .int 0, .int 0]))] ++ [(qa, .inl (G.2.2.2.2.1, 13, .inr (.inr (.inr (.inr (stF tl i))))))] ++ poolN G tl i : va_W).length) (ci := 6) (r := (RX6, TX6, 2)) hx hb hK hP hD hS rfl rfl ((List.getElem?_append_right (Nat.le_refl _)).trans (by rw [Nat.sub_self]; rfl)) rfl (vp_in_nI hi13 (by decide)) dX8_init_33 (fun H locs hP hD hS => ?_)
      have ew : ([(h0, .inr (8, [.ref qa, .int 0, .int 0]))] ++ [(qa, .inl (G.2.2.2.2.1, 13, .inr (.inr (.inr (.inr (stF (tlU tl i (q, u)) (i + 1)))))))] ++ poolN G (tlU tl i (q, u)) (i + 1) : va_W) = ([(h0, .inr (8, [.ref qa, .int 0, .int 0]))] ++ [(qa, .inl (G.2.2.2.2.1, 13, .inr (.inr (.inr (.inr (va_up (stF tl i) (nI i).toNatClampNeg (some q)))))))] ++ poolN G tl i) ++ wN_X6 G q u := by
        rw [poolN_push, ← stF_push hi13, List.append_assoc, List.append_assoc, List.append_assoc]
      have hP : va_P G.1 vwCl ([(h0, .inr (8, [.ref qa, .int 0, .int 0]))] ++ [(qa, .inl (G.2.2.2.2.1, 13, .inr (.inr (.inr (.inr (stF (tlU tl i (q, u)) (i + 1)))))))] ++ poolN G (tlU tl i (q, u)) (i + 1)) H := by rw [ew]; exact hP
      have hD : va_D A ([(h0, .inr (8, [.ref qa, .int 0, .int 0]))] ++ [(qa, .inl (G.2.2.2.2.1, 13, .inr (.inr (.inr (.inr (stF (tlU tl i (q, u)) (i + 1)))))))] ++ poolN G (tlU tl i (q, u)) (i + 1)) := by rw [ew]; exact hD
      refine lv_iinc (v := nI (i + 1)) (lv' := [(1, .int (nI (i + 1))), (0, .ref h0)]) hx hb dX8_init_34 hl (k := 0) rfl (nI_1 i) (by decide) rfl (fun ls hl => ?_)
      refine lv_goto (tgt := 15) hx hb dX8_init_37 (by decide) ?_
      refine W.widen (k := 1 + 11 * (i + 1)) (n := 13 + 629 * (i + 1)) (by omega) (by omega) ?_
      exact ih (i + 1) qa (tlU tl i (q, u)) H locs ls (by omega) hP hD hS hl
  refine lv_aload_n hx hb dX8_init_0 rfl (lv_at hl 0 rfl) ?_
  refine W.objInit hx hb hown (ht0 _ wd_304) (ht0 _ wd_153) (ht0 _ wd_154) rfl (by rw [hml]; exact hl.1) rfl dX8_init_1 (Nat.le_of_ble_eq_true rfl) (Nat.le_of_ble_eq_true rfl) ?_
  refine W.eq (g2 := F0 m 4 ls []) rfl ?_
  refine lv_aload_n hx hb dX8_init_4 rfl (lv_at hl 0 rfl) ?_
  refine lv_bipush (v := 13) hx hb dX8_init_5 (by decide) ?_
  refine nw_S (n := 13) (N := 13) (rest := [.ref h0]) hx hb hown (ht0 _ wd_305) hO hK hP hD hS hA (by decide) (by decide) (by decide) (Nat.le_of_ble_eq_true rfl) (Nat.le_of_ble_eq_true rfl) dX8_init_7 (fun qa H hP hD hS => ?_)
  refine va_putF (ci := 8) (v := .ref qa) (ty := (.array (.object "OddColumns$State"))) (C := RX8) (T := TX8) (N := 3) hx hb ht0 iX8 tyX8 tyX8_ok nmX8 hown hK hP hD hS 0 rfl rfl 0 (by decide) (ht0 _ wd_350) (fun _ h9 => h9) rfl hin rfl rfl rfl rfl (Nat.le_of_ble_eq_true rfl) dX8_init_10 (fun H locs hP hD hS => ?_)
  refine lv_iconst (v := 0) hx hb dX8_init_13 (by decide) ?_
  refine lv_istore_n (lv' := [(1, .int 0), (0, .ref h0)]) hx hb dX8_init_14 rfl hl (by decide) rfl (fun ls hl => ?_)
  refine W.widen (k := 1 + 11 * 0) (n := 13 + 629 * 0) (by decide) (by decide) ?_
  exact loop 13 0 qa (fun _ => (0, 0, (0, 0, 0), 0, (0, 0, 0, 0, 0))) H locs ls rfl hP hD hS hl
