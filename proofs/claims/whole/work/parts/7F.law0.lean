/-! calls out of a great world, in place -/
def setAll : va_W → List Nat → va_W → va_W
  | X, i :: is, x :: xs => setAll (X.set i x) is xs
  | X, [], _ => X
  | X, _, [] => X
theorem setAll_mem {x : Nat × va_E} : ∀ {is : List Nat} {w1 X : va_W}, is.length = w1.length → x ∈ setAll X is w1 → x ∈ w1 ∨ ∃ j, j ∉ is ∧ X[j]? = some x
  | [], w, X, _, h => Or.inr (by
    have h : x ∈ X := by cases w <;> exact h
    obtain ⟨j, hj⟩ := List.getElem?_of_mem h
    exact ⟨j, List.not_mem_nil, hj⟩)
  | i :: is, [], X, hl, _ => by cases hl
  | i :: is, y :: ys, X, hl, h => by
    rcases setAll_mem (is := is) (w1 := ys) (X := X.set i y) (Nat.succ.inj hl) h with h | ⟨j, hj, e⟩
    · exact Or.inl (List.mem_cons_of_mem _ h)
    · rw [List.getElem?_set] at e
      by_cases hji : i = j
      · rw [if_pos hji] at e
        by_cases hlt : i < X.length
        · rw [if_pos hlt] at e
          cases e
          exact Or.inl List.mem_cons_self
        · rw [if_neg hlt] at e
          cases e
      · rw [if_neg hji] at e
        exact Or.inr ⟨j, fun hm => by
          rcases List.mem_cons.mp hm with q | q
          · exact hji q.symm
          · exact hj q, e⟩
theorem set_fst {X : va_W} {i : Nat} {y : Nat × va_E} (h : (X.map Prod.fst)[i]? = some y.1) : (X.set i y).map Prod.fst = X.map Prod.fst := by
  rw [List.map_set]
  refine List.ext_getElem? (fun j => ?_)
  rw [List.getElem?_set]
  by_cases hij : i = j
  · subst hij
    rw [if_pos rfl, if_pos (List.getElem?_eq_some_iff.mp h).1, h]
  · rw [if_neg hij]
theorem setAll_fst : ∀ {is : List Nat} {w1 X : va_W}, is.map (fun i => (X.map Prod.fst)[i]?) = w1.map (fun x => some x.1) → (setAll X is w1).map Prod.fst = X.map Prod.fst
  | [], [], X, _ => rfl
  | [], _ :: _, X, h => by cases h
  | i :: is, [], X, h => by cases h
  | i :: is, y :: ys, X, h => by
    have h1 : (X.map Prod.fst)[i]? = some y.1 := (List.cons.inj h).1
    have h2 := (List.cons.inj h).2
    show (setAll (X.set i y) is ys).map Prod.fst = X.map Prod.fst
    rw [setAll_fst (is := is) (w1 := ys) (X := X.set i y) (by rw [set_fst h1]; exact h2), set_fst h1]
theorem va_D.fst {A : Nat → Prop} {ws ws' : va_W} (h : va_D A ws) (e : ws'.map Prod.fst = ws.map Prod.fst) : va_D A ws' := by
  rw [va_D_iff] at h ⊢
  have e' : ws'.map (fun q => q.1) = ws.map (fun q => q.1) := e
  refine ⟨by rw [e']; exact h.1, fun q hq => ?_⟩
  have : q.1 ∈ ws.map (fun q => q.1) := by rw [← e']; exact List.mem_map.mpr ⟨q, hq, rfl⟩
  obtain ⟨z, hz, ez⟩ := List.mem_map.mp this
  rw [← ez]
  exact h.2 z hz
section InPlace
variable {p : Program} {l : Launch} {e : Env} {R rm : Room} {s : State} {m : MethodId} {args : Array Value} {below : List Frame} {meth : Method} {c : Code} {H : Heap} {locs : List Loc} {cells slots : Nat} {Q : State → Prop} {cc bytes : ByteArray} {pc : Nat} {ls : Array Slot} {G : GG} {A : Nat → Prop} {ws X Z wc w1 w2 : va_W} {own C : String} {y : MethodName} {maxL n index nL : Nat} {ret : Option FieldType} {As rest st0 : List Value} {Sx : List (Nat × Nat × Nat)}
theorem cl_Y {r0 : Int32} {b : Nat} (S : CallFix p m c cc nL s args gtbl own)
    (hM : Met l y (.code y bytes maxL ret :: gtbl) rm (PcS (gWith G Sx) (.ref b :: As) wc H.size) (QiS (gWith G Sx) r0 (va_A wc H.size) w1) 0 0 (va_A wc H.size)) (hy : ykV y C bytes maxL ret n) (hl : Cond.methodLink own index y ∈ gtbl)
    (hrm : rm.cells = 0 ∧ rm.slots = 0 ∧ rm.frames + 1 ≤ R.frames ∧ 8 + (maxL + 11) + rm.locals ≤ R.locals) (hrc : cells + 0 ≤ R.cells ∧ slots + 0 ≤ R.slots)
    (hN : NW s) (hT : ST G A s) (hK : va_K G.1 vwCl (tyG G) s) (hP : va_P G.1 vwCl (X ++ Z) H) (hD : va_D A (X ++ Z)) (hS : va_S A s.heap H locs) (hA : ∀ q : Nat, s.heap.size ≤ q → A q) (isC : List Nat) (hrv : ∃ cell : Cell, H[b]? = some cell ∧ cell.vm.isStatics = false ∧ s.vm.findClass C = some cell.cls)
    (hq : ∀ q ∈ Sx, (q.1, .inr (6, [.ref q.2.1, .ref q.2.2])) ∈ X ++ Z ∧ ¬ va_A wc H.size q.1)
    (hcn : va_nd isC = true) (hC : isC.map (fun i => X[i]?) = wc.map some) (hfs : w1.map Prod.fst = wc.map Prod.fst) (hw2 : setAll X isC w1 = w2)
    (hlen : As.length = n) (hsize : ls.size = nL) (hst : st0 = As.reverse ++ .ref b :: rest) (hrest : (rest.map fun v => v.category).sum ≤ 8) (hdg : decode cc pc = .ok (.invokevirtual index, 3))
    (kk : ∀ (H : Heap) (locs : List Loc), va_P G.1 vwCl (w2 ++ Z) H → va_D A (w2 ++ Z) → va_S A s.heap H locs → W p l e R s m args below meth c H locs cells slots Q (F0 m (pc + 3) ls (.int r0 :: rest))) : W p l e R s m args below meth c H locs cells slots Q (F0 m pc ls st0) := by
  have hF := va_free hD hS hA isC (hC_Z isC hC)
  refine va_calli (va_runV (As := As) (rest := rest) S hM (cwV n S.2.2.2.2 (gd_V hy hl) rfl hrm.1 hrm.2.1 ⟨hy.2.2.2.2.1, hy.2.2.2.2.2⟩ hrm.2.2) ⟨PcS_blind, hrv, pre_Z S.2.2.2.2 hN hT hA hS hK hP hD isC hcn hC hq (.ref b :: As)⟩ rfl hlen hsize hst (lv_room hrest) hdg hrc) hS (fun q _ h => hF q h) hF (fun r u t H1 locs1 ht hvm hw hB hz1 hk1 hS1 => ?_)
  obtain ⟨hP1, -, hD1⟩ := hB
  rw [ht] at hP1
  have hw : r = r0 := hw
  have hlen' : isC.length = w1.length := by
    have e1 := congrArg List.length hC
    have e2 := congrArg List.length hfs
    rw [List.length_map, List.length_map] at e1 e2
    omega
  have hfst : isC.map (fun i => (X.map Prod.fst)[i]?) = w1.map (fun x => some x.1) := by
    have e1 : isC.map (fun i => (X.map Prod.fst)[i]?) = (isC.map (fun i => X[i]?)).map (fun o => o.map Prod.fst) := by
      rw [List.map_map]
      exact List.map_congr_left (fun i _ => List.getElem?_map)
    rw [e1, hC, List.map_map]
    have e2 : w1.map (fun x => some x.1) = (w1.map Prod.fst).map some := by rw [List.map_map]; rfl
    rw [e2, hfs, List.map_map]
    rfl
  rw [hw]
  refine kk H1 locs1 ?_ ?_ hS1
  · intro k q hk
    rcases List.mem_append.mp (List.mem_of_getElem? hk) with h | h
    · rw [← hw2] at h
      rcases setAll_mem hlen' h with h | ⟨j, hj, ej⟩
      · obtain ⟨z, hz⟩ := List.getElem?_of_mem h
        exact hP1 z q hz
      · obtain ⟨hP2, -⟩ := va_joinQ (wr := [q]) hP hD isC [j] hC (by show [X[j]?] = [some q]; rw [ej]) rfl (fun i hi => by rw [List.mem_singleton.mp hi]; exact hj) hk1 hF hP1 hD1
        exact hP2 0 q rfl
    · obtain ⟨hP2, -⟩ := va_joinQ (wr := []) hP hD isC [] hC rfl rfl (fun i hi => by cases hi) hk1 hF hP1 hD1
      obtain ⟨z, hz⟩ := List.getElem?_of_mem (List.mem_append_right ([] ++ w1) h)
      exact hP2 z q hz
  · refine hD.fst ?_
    rw [List.map_append, List.map_append, ← hw2, setAll_fst hfst]
end InPlace
section InPlace2
variable {p : Program} {l : Launch} {e : Env} {R rm : Room} {s : State} {m : MethodId} {args : Array Value} {below : List Frame} {meth : Method} {c : Code} {H : Heap} {locs : List Loc} {cells slots : Nat} {Q : State → Prop} {cc bytes : ByteArray} {pc : Nat} {ls : Array Slot} {G : GG} {A : Nat → Prop} {ws X Z wc w1 w2 W0 : va_W} {own C : String} {y : MethodName} {maxL n index nL : Nat} {ret : Option FieldType} {As rest st0 : List Value} {tl : Nat → tS} {sv : Nat → Nx}
theorem cl_Y0 {r0 : Int32} {b : Nat} (S : CallFix p m c cc nL s args gtbl own)
    (hM : Met l y (.code y bytes maxL ret :: gtbl) rm (PcS (gWith G []) (.ref b :: As) wc H.size) (QiS (gWith G []) r0 (va_A wc H.size) w1) 0 0 (va_A wc H.size)) (hy : ykV y C bytes maxL ret n) (hl : Cond.methodLink own index y ∈ gtbl)
    (hrm : rm.cells = 0 ∧ rm.slots = 0 ∧ rm.frames + 1 ≤ R.frames ∧ 8 + (maxL + 11) + rm.locals ≤ R.locals) (hrc : cells + 0 ≤ R.cells ∧ slots + 0 ≤ R.slots)
    (hN : NW s) (hT : ST G A s) (hK : va_K G.1 vwCl (tyG G) s) (hP : va_P G.1 vwCl (X ++ Z) H) (hD : va_D A (X ++ Z)) (hS : va_S A s.heap H locs) (hA : ∀ q : Nat, s.heap.size ≤ q → A q) (isC : List Nat) (hrv : ∃ cell : Cell, H[b]? = some cell ∧ cell.vm.isStatics = false ∧ s.vm.findClass C = some cell.cls)
    (hcn : va_nd isC = true) (hC : isC.map (fun i => X[i]?) = wc.map some) (hfs : w1.map Prod.fst = wc.map Prod.fst) (hw2 : setAll X isC w1 = w2)
    (hlen : As.length = n) (hsize : ls.size = nL) (hst : st0 = As.reverse ++ .ref b :: rest) (hrest : (rest.map fun v => v.category).sum ≤ 8) (hdg : decode cc pc = .ok (.invokevirtual index, 3))
    (kk : ∀ (H : Heap) (locs : List Loc), va_P G.1 vwCl (w2 ++ Z) H → va_D A (w2 ++ Z) → va_S A s.heap H locs → W p l e R s m args below meth c H locs cells slots Q (F0 m (pc + 3) ls (.int r0 :: rest))) : W p l e R s m args below meth c H locs cells slots Q (F0 m pc ls st0) :=
  cl_Y S hM hy hl hrm hrc hN hT hK hP hD hS hA isC hrv (fun q hq => by cases hq) hcn hC hfs hw2 hlen hsize hst hrest hdg kk
theorem cl_YS {r0 : Int32} {b : Nat} (S : CallFix p m c cc nL s args gtbl own)
    (hM : Met l y (.code y bytes maxL ret :: gtbl) rm (PcS (gWith G (allS tl)) (.ref b :: As) wc H.size) (QiS (gWith G (allS tl)) r0 (va_A wc H.size) w1) 0 0 (va_A wc H.size)) (hy : ykV y C bytes maxL ret n) (hl : Cond.methodLink own index y ∈ gtbl)
    (hrm : rm.cells = 0 ∧ rm.slots = 0 ∧ rm.frames + 1 ≤ R.frames ∧ 8 + (maxL + 11) + rm.locals ≤ R.locals) (hrc : cells + 0 ≤ R.cells ∧ slots + 0 ≤ R.slots)
    (hN : NW s) (hT : ST G A s) (hK : va_K G.1 vwCl (tyG G) s) (hP : va_P G.1 vwCl (X ++ Z) H) (hD : va_D A (X ++ Z)) (hS : va_S A s.heap H locs) (hA : ∀ q : Nat, s.heap.size ≤ q → A q) (isC : List Nat) (hrv : ∃ cell : Cell, H[b]? = some cell ∧ cell.vm.isStatics = false ∧ s.vm.findClass C = some cell.cls)
    (hpm : (W0 ++ poolS G tl sv sk0 15).Perm (X ++ Z)) (hno : noSt wc = true)
    (hcn : va_nd isC = true) (hC : isC.map (fun i => X[i]?) = wc.map some) (hfs : w1.map Prod.fst = wc.map Prod.fst) (hw2 : setAll X isC w1 = w2)
    (hlen : As.length = n) (hsize : ls.size = nL) (hst : st0 = As.reverse ++ .ref b :: rest) (hrest : (rest.map fun v => v.category).sum ≤ 8) (hdg : decode cc pc = .ok (.invokevirtual index, 3))
    (kk : ∀ (H : Heap) (locs : List Loc), va_P G.1 vwCl (w2 ++ Z) H → va_D A (w2 ++ Z) → va_S A s.heap H locs → W p l e R s m args below meth c H locs cells slots Q (F0 m (pc + 3) ls (.int r0 :: rest))) : W p l e R s m args below meth c H locs cells slots Q (F0 m pc ls st0) :=
  cl_Y S hM hy hl hrm hrc hN hT hK hP hD hS hA isC hrv (allS_ok hpm hP hD (fun x hx => by
    obtain ⟨k, hk⟩ := List.getElem?_of_mem hx
    obtain ⟨i, -, hi⟩ := va_in_of isC hC hk
    exact List.mem_append_left _ (List.mem_of_getElem? hi)) hno) hcn hC hfs hw2 hlen hsize hst hrest hdg kk
end InPlace2
theorem pool2_b {G : GG} {tl : Nat → tS} {sv : Nat → Nx} {k j : Nat} (hk : k < 15) (hj : j < 15) (hne : k ≠ j) (w : Nx) (a m : va_W) : ((a ++ clu G (tl k) (sv k) ++ clu G (tl j) w) ++ (m ++ poolS G tl sv (skA (skA sk0 k) j) 15)).Perm (a ++ m ++ poolS G tl (svU sv j w) sk0 15) := by
  have h := pool2_back (G := G) (tl := tl) (sv := sv) hk hj hne (sv k) w a m
  rw [svU_same] at h
  exact h
theorem pool2_a {G : GG} {tl : Nat → tS} {sv : Nat → Nx} {k j : Nat} (hk : k < 15) (hj : j < 15) (hne : k ≠ j) (v : Nx) (a m : va_W) : ((a ++ clu G (tl k) v ++ clu G (tl j) (sv j)) ++ (m ++ poolS G tl sv (skA (skA sk0 k) j) 15)).Perm (a ++ m ++ poolS G tl (svU sv k v) sk0 15) := by
  have h := pool2_back (G := G) (tl := tl) (sv := sv) hk hj hne v (sv j) a m
  have e : svU (svU sv k v) j (sv j) = svU sv k v := by
    have e2 : sv j = svU sv k v j := (svU_ne (fun q => hne q.symm)).symm
    rw [e2, svU_same]
  rw [e] at h
  exact h
/-! the law's words -/
def updI (f : Nat → Int32) (k : Nat) (v : Int32) : Nat → Int32 := fun j => bif Nat.beq j k then v else f j
def updA (f : Nat → AA) (k : Nat) (v : AA) : Nat → AA := fun j => bif Nat.beq j k then v else f j
abbrev lwA (s : State) : Nat → Prop := fun q => s.heap.size ≤ q
def LI (G : GG) (s : State) (b i : Nat) (H : Heap) (locs : List Loc) (ls : Array Slot) : Prop :=
  ∃ (ca : Nat → Nat) (ci : Nat → Int32) (cf : Nat → AA) (st bx : Nat → Option Nat) (hm : Nat) (ma : Nat → Nat) (mi : Nat → Int32) (mf : Nat → AA) (tl : Nat → tS) (sv : Nat → Nx), va_P G.1 vwCl (wC G ca ci cf st bx ++ wM G hm ma mi mf ++ poolS G tl sv sk0 15) H ∧ va_D (lwA s) (wC G ca ci cf st bx ++ wM G hm ma mi mf ++ poolS G tl sv sk0 15) ∧ va_S (lwA s) s.heap H locs ∧ INV' (fun j => (tl j).1) ci cf st bx sv mi mf ∧ lv_has ls 4 [(0, .ref b), (1, .ref (ca 0)), (2, .ref hm), (3, .int (nI i))]
theorem pmod {a m pl : va_W} : (a ++ m ++ pl).Perm (m ++ (a ++ pl)) := by
  rw [← List.append_assoc]
  exact List.perm_append_comm.append_right pl
theorem st_all {tl : Nat → tS} {G : GG} {pos : Nat → Nat} {st : Nat → Option Nat} (hp : ∀ i, i < 13 → pos i < 13) (h : PosR (fun j => (tl j).1) pos st) : stAll (gWith G (allS tl)) st := fun j hj => ⟨triS (tl (pos j)), List.mem_map.mpr ⟨pos j, List.mem_range.mpr (by have := hp j hj; omega), rfl⟩, h j hj⟩
theorem tri_in {tl : Nat → tS} {G : GG} {k : Nat} (h : k < 15) : ((tl k).1, (tl k).2.1, (tl k).2.2.2.1) ∈ gS (gWith G (allS tl)) := List.mem_map.mpr ⟨k, List.mem_range.mpr h, rfl⟩
section Arg
variable {p : Program} {l : Launch} {e : Env} {R : Room} {s : State} {m : MethodId} {args : Array Value} {below : List Frame} {meth : Method} {c : Code} {H : Heap} {locs : List Loc} {cells slots : Nat} {Q : State → Prop} {cc : ByteArray} {pc : Nat} {ls : Array Slot} {rest : List Value} {b L i j : Nat} {xs : Nat → Int32} {lv : List (Nat × Value)}
theorem arg_push (hx : p.tables.exec = Jvm.exec) (hb : c.code = cc) (hX : va_X b L xs s s.heap) (hbl : b < s.heap.size) (hS : va_S (lwA s) s.heap H locs) (h0 : ls[0]? = some (.val (.ref b))) (h3 : ls[3]? = some (.val (.int (nI i)))) (hL : L ≤ 3072) (hi : i + 6 ≤ L) (hj : j < 6) {jj : Int} (ej : Int32.ofInt jj = nI j)
    (d0 : decode cc pc = .ok (.aload_n 0, 1)) (d1 : decode cc (pc + 1) = .ok (.iload_n 3, 1)) (d2 : decode cc (pc + 2) = .ok (.iconst jj, 1)) (d3 : decode cc (pc + 3) = .ok (.iadd, 1)) (d4 : decode cc (pc + 4) = .ok (.iaload, 1))
    (kk : W p l e R s m args below meth c H locs cells slots Q (F0 m (pc + 5) ls (.int (xs (i + j)) :: rest))) : W p l e R s m args below meth c H locs cells slots Q (F0 m pc ls rest) := by
  refine lv_aload_n hx hb d0 rfl h0 ?_
  refine lv_iload_n hx hb d1 rfl h3 ?_
  refine lv_iconst (v := nI j) hx hb d2 ej ?_
  refine lv_iadd hx hb d3 ?_
  have hin : vp_in (nI i + nI j) L := by rw [nI_add]; exact vp_in_nI (by omega) (by omega)
  refine va_sld hx hb hX hbl (Nat.not_le.mpr hbl) hS hin d4 ?_
  rw [nI_add, nI_clamp (by omega)]
  exact kk
theorem bpush {x : Int32} (hx : p.tables.exec = Jvm.exec) (hb : c.code = cc) (d0 : decode cc pc = .ok (.ifCond .eq 7, 3)) (d1 : decode cc (pc + 3) = .ok (.iconst 1, 1)) (d2 : decode cc (pc + 4) = .ok (.goto 4, 3)) (d3 : decode cc (pc + 7) = .ok (.iconst 0, 1))
    (kk : W p l e R s m args below meth c H locs cells slots Q (F0 m (pc + 8) ls (.int (if x = 0 then 0 else 1) :: rest))) : W p l e R s m args below meth c H locs cells slots Q (F0 m pc ls (.int x :: rest)) := by
  refine lv_if_eq (tgt := pc + 7) hx hb d0 (by omega) (fun h => ?_) (fun h => ?_)
  · rw [if_pos h] at kk
    exact lv_iconst (v := 0) hx hb d3 (by decide) kk
  · rw [if_neg h] at kk
    refine lv_iconst (v := 1) hx hb d1 (by decide) ?_
    exact lv_goto (tgt := pc + 8) hx hb d2 (by omega) kk
end Arg
