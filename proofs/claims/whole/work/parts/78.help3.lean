/-! calls out of a great world: what is not touched stays; States are known from the world -/
def gWith (G : GG) (Sx : List (Nat × Nat × Nat)) : GG := (G.1, G.2.1, G.2.2.1, G.2.2.2.1, G.2.2.2.2.1, G.2.2.2.2.2.1, G.2.2.2.2.2.2.1, Sx)
section Great
variable {p : Program} {l : Launch} {e : Env} {R rm : Room} {s : State} {m : MethodId} {args : Array Value} {below : List Frame} {meth : Method} {c : Code} {H : Heap} {locs : List Loc} {cells slots : Nat} {Q : State → Prop} {cc bytes : ByteArray} {pc : Nat} {ls : Array Slot} {G : GG} {A : Nat → Prop} {ws X Z wc w1 w2 : va_W} {own C : String} {y : MethodName} {maxL n index nL : Nat} {ret : Option FieldType} {As rest st0 : List Value} {Sx : List (Nat × Nat × Nat)}
theorem SO_of {B : Nat → Prop} {q : Nat × Nat × Nat} (ht0 : ∀ w ∈ gtbl, w.before args s = true) (hK : va_K G.1 vwCl (tyG G) s) (hP : va_P G.1 vwCl ws H) (hi : (q.1, .inr (6, [.ref q.2.1, .ref q.2.2])) ∈ ws) (hn : ¬ B q.1) {U : State} (hU : U.heap = H) (hW : s.WarmedH U.vm) : SO B U q := by
  obtain ⟨i, hi⟩ := List.getElem?_of_mem hi
  obtain ⟨r, h1, cell, q1, q2, q3, q4⟩ := hP i _ hi
  have hr : r = (RX6, TX6, 2) := Option.some.inj (h1.symm.trans rfl)
  subst hr
  obtain ⟨hS, hfc, kC, hkC, hkind⟩ := hK.1 6 (RX6, TX6, 2) rfl
  have hO : va_O "OddColumns$State" q.1 B s H := ⟨cell, q1, by rw [q3]; rfl, by rw [q2]; exact hfc, hn⟩
  have hF : ∀ k, k < 2 → va_OF (TX6 k).1 (TX6 k).2.1 (TX6 k).2.2.1 (vp_V [.ref q.2.1, .ref q.2.2] k) q.1 B s H := fun k hk => by
    obtain ⟨cf, kf, fi, f, hi, hsl⟩ := hS k hk
    exact ⟨cf, kf, fi, f, cell, hi, (u_facts hfc hkC (u_lays ht0 iX6 hk) hi).1, q1, (by rw [q3]; intro h; cases h), (by rw [hsl]; exact q4 k hk), hn⟩
  subst hU
  exact ⟨hO.moved hW.alike, (hF 0 (by decide)).moved hW.alike, (hF 1 (by decide)).moved hW.alike⟩
/-- what a call is given -/
theorem pre_Z (ht0 : ∀ w ∈ gtbl, w.before args s = true) (hN : NW s) (hT : ST G A s) (hA : ∀ q : Nat, s.heap.size ≤ q → A q) (hS : va_S A s.heap H locs) (hK : va_K G.1 vwCl (tyG G) s) (hP : va_P G.1 vwCl (X ++ Z) H) (hD : va_D A (X ++ Z)) (isC : List Nat) (hcn : va_nd isC = true) (hC : isC.map (fun i => X[i]?) = wc.map some)
    (hq : ∀ q ∈ Sx, (q.1, .inr (6, [.ref q.2.1, .ref q.2.2])) ∈ X ++ Z ∧ ¬ va_A wc H.size q.1) (av : List Value) : ∀ U : State, U.heap = H → s.WarmedH U.vm → PcS (gWith G Sx) av wc H.size av.toArray U := fun U hU hW => by
  have hC' : isC.map (fun i => (X ++ Z)[i]?) = wc.map some := by
    rw [← hC]
    refine List.map_congr_left (fun i hi => ?_)
    have hmem : X[i]? ∈ isC.map (fun i => X[i]?) := List.mem_map.mpr ⟨i, hi, rfl⟩
    rw [hC] at hmem
    obtain ⟨x, -, hx⟩ := List.mem_map.mp hmem
    have hlt : i < X.length := (List.getElem?_eq_some_iff.mp hx.symm).1
    exact List.getElem?_append_left hlt
  have hF := va_free hD hS hA isC hC'
  refine ⟨rfl, by rw [hU], by rw [hU]; exact hP.sub isC (fm_of_map hC'), va_K.moved hW.alike hK, (hD.sub isC hcn hC').weaken (fun _ _ _ _ => trivial), hN.warm hW, ?_, fun q hq' => ?_⟩
  · exact hT.move (fun a h1 h2 => hS.2.1 a h1 h2) hF hU hW.alike (fun i hi h => h.warm hW)
  · exact SO_of ht0 hK hP (hq q hq').1 (hq q hq').2 hU hW
theorem hC_Z (isC : List Nat) (hC : isC.map (fun i => X[i]?) = wc.map some) : isC.map (fun i => (X ++ Z)[i]?) = wc.map some := by
  rw [← hC]
  refine List.map_congr_left (fun i hi => ?_)
  have hmem : X[i]? ∈ isC.map (fun i => X[i]?) := List.mem_map.mpr ⟨i, hi, rfl⟩
  rw [hC] at hmem
  obtain ⟨x, -, hx⟩ := List.mem_map.mp hmem
  exact List.getElem?_append_left (List.getElem?_eq_some_iff.mp hx.symm).1
theorem cl_ZVi {r0 : Int32} {b : Nat} (S : CallFix p m c cc nL s args gtbl own)
    (hM : Met l y (.code y bytes maxL ret :: gtbl) rm (PcS (gWith G Sx) (.ref b :: As) wc H.size) (QiS (gWith G Sx) r0 (va_A wc H.size) w1) 0 0 (va_A wc H.size)) (hy : ykV y C bytes maxL ret n) (hl : Cond.methodLink own index y ∈ gtbl)
    (hrm : rm.cells = 0 ∧ rm.slots = 0 ∧ rm.frames + 1 ≤ R.frames ∧ 8 + (maxL + 11) + rm.locals ≤ R.locals) (hrc : cells + 0 ≤ R.cells ∧ slots + 0 ≤ R.slots)
    (hN : NW s) (hT : ST G A s) (hK : va_K G.1 vwCl (tyG G) s) (hP : va_P G.1 vwCl (X ++ Z) H) (hD : va_D A (X ++ Z)) (hS : va_S A s.heap H locs) (hA : ∀ q : Nat, s.heap.size ≤ q → A q) (isC isR perm : List Nat) (hrv : ∃ cell : Cell, H[b]? = some cell ∧ cell.vm.isStatics = false ∧ s.vm.findClass C = some cell.cls)
    (hq : ∀ q ∈ Sx, (q.1, .inr (6, [.ref q.2.1, .ref q.2.2])) ∈ X ++ Z ∧ ¬ va_A wc H.size q.1)
    (hcn : va_nd isC = true) (hn : va_nd isR = true) (hdis : ∀ i ∈ isR, i ∉ isC) (hpn : va_nd perm = true) (hC : isC.map (fun i => X[i]?) = wc.map some) (hR : isR.map (fun i => X[i]?) = (isR.filterMap (fun i => X[i]?)).map some) (hpm : perm.map (fun i => (isR.filterMap (fun i => X[i]?) ++ w1)[i]?) = w2.map some)
    (hlen : As.length = n) (hsize : ls.size = nL) (hst : st0 = As.reverse ++ .ref b :: rest) (hrest : (rest.map fun v => v.category).sum ≤ 8) (hdg : decode cc pc = .ok (.invokevirtual index, 3))
    (kk : ∀ (H : Heap) (locs : List Loc), va_P G.1 vwCl (w2 ++ Z) H → va_D A (w2 ++ Z) → va_S A s.heap H locs → W p l e R s m args below meth c H locs cells slots Q (F0 m (pc + 3) ls (.int r0 :: rest))) : W p l e R s m args below meth c H locs cells slots Q (F0 m pc ls st0) := by
  have hF := va_free hD hS hA isC (hC_Z isC hC)
  refine va_calli (va_runV (As := As) (rest := rest) S hM (cwV n S.2.2.2.2 (gd_V hy hl) rfl hrm.1 hrm.2.1 ⟨hy.2.2.2.2.1, hy.2.2.2.2.2⟩ hrm.2.2) ⟨PcS_blind, hrv, pre_Z S.2.2.2.2 hN hT hA hS hK hP hD isC hcn hC hq (.ref b :: As)⟩ rfl hlen hsize hst (lv_room hrest) hdg hrc) hS (fun q _ h => hF q h) hF (fun r u t H1 locs1 ht hvm hw hB hz1 hk1 hS1 => ?_)
  obtain ⟨hP1, -, hD1⟩ := hB
  rw [ht] at hP1
  obtain ⟨hP2, hD2⟩ := va_joinQ (wr := isR.filterMap (fun i => X[i]?)) hP hD isC isR hC hR hn hdis hk1 hF hP1 hD1
  have hw : r = r0 := hw
  rw [hw]
  refine kk H1 locs1 ?_ ?_ hS1
  · intro k q hk
    rcases List.mem_append.mp (List.mem_of_getElem? hk) with h | h
    · obtain ⟨i, hi⟩ := List.getElem?_of_mem h
      obtain ⟨j, -, hj⟩ := va_in_of perm hpm hi
      have := (List.getElem?_of_mem (List.mem_append_left Z (List.mem_of_getElem? hj)))
      obtain ⟨z, hz⟩ := this
      exact hP2 z q hz
    · obtain ⟨z, hz⟩ := List.getElem?_of_mem (List.mem_append_right (isR.filterMap (fun i => X[i]?) ++ w1) h)
      exact hP2 z q hz
  · exact hD2.part perm hpn hpm
theorem cl_ZVv {b : Nat} (S : CallFix p m c cc nL s args gtbl own)
    (hM : Met l y (.code y bytes maxL ret :: gtbl) rm (PcS (gWith G Sx) (.ref b :: As) wc H.size) (QvS (gWith G Sx) (va_A wc H.size) w1) 0 0 (va_A wc H.size)) (hy : ykV y C bytes maxL ret n) (hl : Cond.methodLink own index y ∈ gtbl)
    (hrm : rm.cells = 0 ∧ rm.slots = 0 ∧ rm.frames + 1 ≤ R.frames ∧ 8 + (maxL + 11) + rm.locals ≤ R.locals) (hrc : cells + 0 ≤ R.cells ∧ slots + 0 ≤ R.slots)
    (hN : NW s) (hT : ST G A s) (hK : va_K G.1 vwCl (tyG G) s) (hP : va_P G.1 vwCl (X ++ Z) H) (hD : va_D A (X ++ Z)) (hS : va_S A s.heap H locs) (hA : ∀ q : Nat, s.heap.size ≤ q → A q) (isC isR perm : List Nat) (hrv : ∃ cell : Cell, H[b]? = some cell ∧ cell.vm.isStatics = false ∧ s.vm.findClass C = some cell.cls)
    (hq : ∀ q ∈ Sx, (q.1, .inr (6, [.ref q.2.1, .ref q.2.2])) ∈ X ++ Z ∧ ¬ va_A wc H.size q.1)
    (hcn : va_nd isC = true) (hn : va_nd isR = true) (hdis : ∀ i ∈ isR, i ∉ isC) (hpn : va_nd perm = true) (hC : isC.map (fun i => X[i]?) = wc.map some) (hR : isR.map (fun i => X[i]?) = (isR.filterMap (fun i => X[i]?)).map some) (hpm : perm.map (fun i => (isR.filterMap (fun i => X[i]?) ++ w1)[i]?) = w2.map some)
    (hlen : As.length = n) (hsize : ls.size = nL) (hst : st0 = As.reverse ++ .ref b :: rest) (hrest : (rest.map fun v => v.category).sum ≤ 8) (hdg : decode cc pc = .ok (.invokevirtual index, 3))
    (kk : ∀ (H : Heap) (locs : List Loc), va_P G.1 vwCl (w2 ++ Z) H → va_D A (w2 ++ Z) → va_S A s.heap H locs → W p l e R s m args below meth c H locs cells slots Q (F0 m (pc + 3) ls rest)) : W p l e R s m args below meth c H locs cells slots Q (F0 m pc ls st0) := by
  have hF := va_free hD hS hA isC (hC_Z isC hC)
  refine va_callv (va_runV (As := As) (rest := rest) S hM (cwV n S.2.2.2.2 (gd_V hy hl) rfl hrm.1 hrm.2.1 ⟨hy.2.2.2.2.1, hy.2.2.2.2.2⟩ hrm.2.2) ⟨PcS_blind, hrv, pre_Z S.2.2.2.2 hN hT hA hS hK hP hD isC hcn hC hq (.ref b :: As)⟩ rfl hlen hsize hst (lv_room hrest) hdg hrc) hS (fun q _ h => hF q h) hF (fun u t H1 locs1 ht hvm hw hB hz1 hk1 hS1 => ?_)
  obtain ⟨hP1, -, hD1⟩ := hB
  rw [ht] at hP1
  obtain ⟨hP2, hD2⟩ := va_joinQ (wr := isR.filterMap (fun i => X[i]?)) hP hD isC isR hC hR hn hdis hk1 hF hP1 hD1
  refine kk H1 locs1 ?_ ?_ hS1
  · intro k q hk
    rcases List.mem_append.mp (List.mem_of_getElem? hk) with h | h
    · obtain ⟨i, hi⟩ := List.getElem?_of_mem h
      obtain ⟨j, -, hj⟩ := va_in_of perm hpm hi
      have := (List.getElem?_of_mem (List.mem_append_left Z (List.mem_of_getElem? hj)))
      obtain ⟨z, hz⟩ := this
      exact hP2 z q hz
    · obtain ⟨z, hz⟩ := List.getElem?_of_mem (List.mem_append_right (isR.filterMap (fun i => X[i]?) ++ w1) h)
      exact hP2 z q hz
  · exact hD2.part perm hpn hpm
theorem cl_ZVr {a0 b : Nat} (S : CallFix p m c cc nL s args gtbl own)
    (hM : Met l y (.code y bytes maxL ret :: gtbl) rm (PcS (gWith G Sx) (.ref b :: As) wc H.size) (QrS (gWith G Sx) a0 (va_A wc H.size) w1) 0 0 (va_A wc H.size)) (hy : ykV y C bytes maxL ret n) (hl : Cond.methodLink own index y ∈ gtbl)
    (hrm : rm.cells = 0 ∧ rm.slots = 0 ∧ rm.frames + 1 ≤ R.frames ∧ 8 + (maxL + 11) + rm.locals ≤ R.locals) (hrc : cells + 0 ≤ R.cells ∧ slots + 0 ≤ R.slots)
    (hN : NW s) (hT : ST G A s) (hK : va_K G.1 vwCl (tyG G) s) (hP : va_P G.1 vwCl (X ++ Z) H) (hD : va_D A (X ++ Z)) (hS : va_S A s.heap H locs) (hA : ∀ q : Nat, s.heap.size ≤ q → A q) (isC isR perm : List Nat) (hrv : ∃ cell : Cell, H[b]? = some cell ∧ cell.vm.isStatics = false ∧ s.vm.findClass C = some cell.cls)
    (hq : ∀ q ∈ Sx, (q.1, .inr (6, [.ref q.2.1, .ref q.2.2])) ∈ X ++ Z ∧ ¬ va_A wc H.size q.1)
    (hcn : va_nd isC = true) (hn : va_nd isR = true) (hdis : ∀ i ∈ isR, i ∉ isC) (hpn : va_nd perm = true) (hC : isC.map (fun i => X[i]?) = wc.map some) (hR : isR.map (fun i => X[i]?) = (isR.filterMap (fun i => X[i]?)).map some) (hpm : perm.map (fun i => (isR.filterMap (fun i => X[i]?) ++ w1)[i]?) = w2.map some)
    (hlen : As.length = n) (hsize : ls.size = nL) (hst : st0 = As.reverse ++ .ref b :: rest) (hrest : (rest.map fun v => v.category).sum ≤ 8) (hdg : decode cc pc = .ok (.invokevirtual index, 3))
    (kk : ∀ (H : Heap) (locs : List Loc), va_P G.1 vwCl (w2 ++ Z) H → va_D A (w2 ++ Z) → va_S A s.heap H locs → W p l e R s m args below meth c H locs cells slots Q (F0 m (pc + 3) ls (.ref a0 :: rest))) : W p l e R s m args below meth c H locs cells slots Q (F0 m pc ls st0) := by
  have hF := va_free hD hS hA isC (hC_Z isC hC)
  refine va_callr (va_runV (As := As) (rest := rest) S hM (cwV n S.2.2.2.2 (gd_V hy hl) rfl hrm.1 hrm.2.1 ⟨hy.2.2.2.2.1, hy.2.2.2.2.2⟩ hrm.2.2) ⟨PcS_blind, hrv, pre_Z S.2.2.2.2 hN hT hA hS hK hP hD isC hcn hC hq (.ref b :: As)⟩ rfl hlen hsize hst (lv_room hrest) hdg hrc) hS (fun q _ h => hF q h) hF (fun u a t H1 locs1 ht hvm hw hB hz1 hk1 hS1 => ?_)
  obtain ⟨rfl, hP1, -, hD1⟩ := hB
  rw [ht] at hP1
  obtain ⟨hP2, hD2⟩ := va_joinQ (wr := isR.filterMap (fun i => X[i]?)) hP hD isC isR hC hR hn hdis hk1 hF hP1 hD1
  refine kk H1 locs1 ?_ ?_ hS1
  · intro k q hk
    rcases List.mem_append.mp (List.mem_of_getElem? hk) with h | h
    · obtain ⟨i, hi⟩ := List.getElem?_of_mem h
      obtain ⟨j, -, hj⟩ := va_in_of perm hpm hi
      have := (List.getElem?_of_mem (List.mem_append_left Z (List.mem_of_getElem? hj)))
      obtain ⟨z, hz⟩ := this
      exact hP2 z q hz
    · obtain ⟨z, hz⟩ := List.getElem?_of_mem (List.mem_append_right (isR.filterMap (fun i => X[i]?) ++ w1) h)
      exact hP2 z q hz
  · exact hD2.part perm hpn hpm
end Great
abbrev zA : AA := fun _ => 0
def gI (l : List Int32) : Nat → Int32 := fun i => l.getD i 0
def gA (l : List AA) : Nat → AA := fun i => l.getD i zA
def gN (l : List Nat) : Nat → Nat := fun i => l.getD i 0
