/-! calls out of a great world, in place: by flags -/
def comb : List Bool → va_W → va_W → va_W
  | true :: fs, _ :: X, w :: ws => w :: comb fs X ws
  | false :: fs, x :: X, ws => x :: comb fs X ws
  | _, X, _ => X
def pickF : List Bool → va_W → va_W
  | true :: fs, x :: X => x :: pickF fs X
  | false :: fs, _ :: X => pickF fs X
  | _, _ => []
def idxF : Nat → List Bool → List Nat
  | n, true :: fs => n :: idxF (n + 1) fs
  | n, false :: fs => idxF (n + 1) fs
  | _, [] => []
theorem idxF_ge : ∀ {fs : List Bool} {n j : Nat}, j ∈ idxF n fs → n ≤ j
  | true :: fs, n, j, h => by
    rcases List.mem_cons.mp (show j ∈ n :: idxF (n + 1) fs from h) with q | q
    · omega
    · have := idxF_ge q; omega
  | false :: fs, n, j, h => by have := idxF_ge (show j ∈ idxF (n + 1) fs from h); omega
  | [], n, j, h => by cases h
/-- all flags have a cell -/
theorem pick_idx : ∀ {fs : List Bool} {n : Nat} {X Y : va_W}, fs.length ≤ X.length → Y.length = n → (idxF n fs).map (fun i => (Y ++ X)[i]?) = (pickF fs X).map some
  | [], n, X, Y, _, _ => by cases X <;> rfl
  | true :: fs, n, [], Y, h, _ => absurd h (by simp)
  | false :: fs, n, [], Y, h, _ => absurd h (by simp)
  | true :: fs, n, x :: X, Y, h, e => by
    have ih := pick_idx (fs := fs) (n := n + 1) (X := X) (Y := Y ++ [x]) (by simpa using h) (by simp [e])
    have e1 : Y ++ [x] ++ X = Y ++ x :: X := by simp
    rw [e1] at ih
    show (Y ++ x :: X)[n]? :: (idxF (n + 1) fs).map (fun i => (Y ++ x :: X)[i]?) = some x :: (pickF fs X).map some
    rw [ih, ← e, List.getElem?_append_right (Nat.le_refl _), Nat.sub_self]
    rfl
  | false :: fs, n, x :: X, Y, h, e => by
    have ih := pick_idx (fs := fs) (n := n + 1) (X := X) (Y := Y ++ [x]) (by simpa using h) (by simp [e])
    have e1 : Y ++ [x] ++ X = Y ++ x :: X := by simp
    rw [e1] at ih
    exact ih
theorem comb_mem {x : Nat × va_E} : ∀ {fs : List Bool} {n : Nat} {X w1 : va_W}, (pickF fs X).length = w1.length → x ∈ comb fs X w1 → x ∈ w1 ∨ ∃ j, n + j ∉ idxF n fs ∧ X[j]? = some x
  | [], n, X, w1, _, h => by
    have h : x ∈ X := by cases X <;> cases w1 <;> exact h
    obtain ⟨j, hj⟩ := List.getElem?_of_mem h
    exact Or.inr ⟨j, List.not_mem_nil, hj⟩
  | true :: fs, n, [], w1, _, h => by
    have h : x ∈ ([] : va_W) := by cases w1 <;> exact h
    cases h
  | false :: fs, n, [], w1, _, h => by
    have h : x ∈ ([] : va_W) := by cases w1 <;> exact h
    cases h
  | true :: fs, n, y :: X, [], hl, _ => by cases hl
  | true :: fs, n, y :: X, w :: ws, hl, h => by
    rcases List.mem_cons.mp (show x ∈ w :: comb fs X ws from h) with q | q
    · exact Or.inl (by rw [q]; exact List.mem_cons_self)
    · rcases comb_mem (fs := fs) (n := n + 1) (X := X) (w1 := ws) (Nat.succ.inj hl) q with q | ⟨j, hj, e⟩
      · exact Or.inl (List.mem_cons_of_mem _ q)
      · refine Or.inr ⟨j + 1, fun hm => ?_, e⟩
        rcases List.mem_cons.mp (show n + (j + 1) ∈ n :: idxF (n + 1) fs from hm) with z | z
        · omega
        · exact hj (by rw [show n + 1 + j = n + (j + 1) by omega]; exact z)
  | false :: fs, n, y :: X, w1, hl, h => by
    rcases List.mem_cons.mp (show x ∈ y :: comb fs X w1 by cases w1 <;> exact h) with q | q
    · refine Or.inr ⟨0, fun hm => ?_, by rw [q]; rfl⟩
      have := idxF_ge (show n + 0 ∈ idxF (n + 1) fs from hm)
      omega
    · rcases comb_mem (fs := fs) (n := n + 1) (X := X) (w1 := w1) hl q with q | ⟨j, hj, e⟩
      · exact Or.inl q
      · exact Or.inr ⟨j + 1, fun hm => hj (by rw [show n + 1 + j = n + (j + 1) by omega]; exact hm), e⟩
theorem comb_fst : ∀ {fs : List Bool} {X w1 : va_W}, w1.map Prod.fst = (pickF fs X).map Prod.fst → (comb fs X w1).map Prod.fst = X.map Prod.fst
  | [], X, w1, _ => by cases X <;> cases w1 <;> rfl
  | true :: fs, [], w1, _ => by cases w1 <;> rfl
  | false :: fs, [], w1, _ => by cases w1 <;> rfl
  | true :: fs, y :: X, [], h => by cases h
  | true :: fs, y :: X, w :: ws, h => by
    have h1 : w.1 = y.1 := (List.cons.inj h).1
    have h2 := (List.cons.inj h).2
    show w.1 :: (comb fs X ws).map Prod.fst = y.1 :: X.map Prod.fst
    rw [h1, comb_fst h2]
  | false :: fs, y :: X, w1, h => by
    have e : comb (false :: fs) (y :: X) w1 = y :: comb fs X w1 := by cases w1 <;> rfl
    rw [e]
    show y.1 :: (comb fs X w1).map Prod.fst = y.1 :: X.map Prod.fst
    rw [comb_fst (show w1.map Prod.fst = (pickF fs X).map Prod.fst from h)]
section InPlace3
variable {p : Program} {l : Launch} {e : Env} {R rm : Room} {s : State} {m : MethodId} {args : Array Value} {below : List Frame} {meth : Method} {c : Code} {H : Heap} {locs : List Loc} {cells slots : Nat} {Q : State → Prop} {cc bytes : ByteArray} {pc : Nat} {ls : Array Slot} {G : GG} {A : Nat → Prop} {ws X Z wc w1 w2 W0 : va_W} {own C : String} {y : MethodName} {maxL n index nL : Nat} {ret : Option FieldType} {As rest st0 : List Value} {Sx : List (Nat × Nat × Nat)} {tl : Nat → tS} {sv : Nat → Nx}
theorem cl_F {r0 : Int32} {b : Nat} (S : CallFix p m c cc nL s args gtbl own)
    (hM : Met l y (.code y bytes maxL ret :: gtbl) rm (PcS (gWith G Sx) (.ref b :: As) wc H.size) (QiS (gWith G Sx) r0 (va_A wc H.size) w1) 0 0 (va_A wc H.size)) (hy : ykV y C bytes maxL ret n) (hl : Cond.methodLink own index y ∈ gtbl)
    (hrm : rm.cells = 0 ∧ rm.slots = 0 ∧ rm.frames + 1 ≤ R.frames ∧ 8 + (maxL + 11) + rm.locals ≤ R.locals) (hrc : cells + 0 ≤ R.cells ∧ slots + 0 ≤ R.slots)
    (hN : NW s) (hT : ST G A s) (hK : va_K G.1 vwCl (tyG G) s) (hP : va_P G.1 vwCl (X ++ Z) H) (hD : va_D A (X ++ Z)) (hS : va_S A s.heap H locs) (hA : ∀ q : Nat, s.heap.size ≤ q → A q) (fs : List Bool) (hrv : ∃ cell : Cell, H[b]? = some cell ∧ cell.vm.isStatics = false ∧ s.vm.findClass C = some cell.cls)
    (hq : ∀ q ∈ Sx, (q.1, .inr (6, [.ref q.2.1, .ref q.2.2])) ∈ X ++ Z ∧ ¬ va_A wc H.size q.1)
    (hcn : va_nd (idxF 0 fs) = true) (hlX : fs.length ≤ X.length) (hpk : pickF fs X = wc) (hfs : w1.map Prod.fst = wc.map Prod.fst) (hw2 : comb fs X w1 = w2)
    (hlen : As.length = n) (hsize : ls.size = nL) (hst : st0 = As.reverse ++ .ref b :: rest) (hrest : (rest.map fun v => v.category).sum ≤ 8) (hdg : decode cc pc = .ok (.invokevirtual index, 3))
    (kk : ∀ (H : Heap) (locs : List Loc), va_P G.1 vwCl (w2 ++ Z) H → va_D A (w2 ++ Z) → va_S A s.heap H locs → W p l e R s m args below meth c H locs cells slots Q (F0 m (pc + 3) ls (.int r0 :: rest))) : W p l e R s m args below meth c H locs cells slots Q (F0 m pc ls st0) := by
  have hC : (idxF 0 fs).map (fun i => X[i]?) = wc.map some := by rw [← hpk]; exact pick_idx (Y := []) hlX rfl
  have hF := va_free hD hS hA (idxF 0 fs) (hC_Z (idxF 0 fs) hC)
  refine va_calli (va_runV (As := As) (rest := rest) S hM (cwV n S.2.2.2.2 (gd_V hy hl) rfl hrm.1 hrm.2.1 ⟨hy.2.2.2.2.1, hy.2.2.2.2.2⟩ hrm.2.2) ⟨PcS_blind, hrv, pre_Z S.2.2.2.2 hN hT hA hS hK hP hD (idxF 0 fs) hcn hC hq (.ref b :: As)⟩ rfl hlen hsize hst (lv_room hrest) hdg hrc) hS (fun q _ h => hF q h) hF (fun r u t H1 locs1 ht hvm hw hB hz1 hk1 hS1 => ?_)
  obtain ⟨hP1, -, hD1⟩ := hB
  rw [ht] at hP1
  have hw : r = r0 := hw
  rw [hw]
  have hlen' : (pickF fs X).length = w1.length := by
    rw [hpk]
    have e2 := congrArg List.length hfs
    rw [List.length_map, List.length_map] at e2
    exact e2.symm
  refine kk H1 locs1 ?_ ?_ hS1
  · intro k q hk
    rcases List.mem_append.mp (List.mem_of_getElem? hk) with h | h
    · rw [← hw2] at h
      rcases comb_mem (n := 0) hlen' h with h | ⟨j, hj, ej⟩
      · obtain ⟨z, hz⟩ := List.getElem?_of_mem h
        exact hP1 z q hz
      · rw [Nat.zero_add] at hj
        obtain ⟨hP2, -⟩ := va_joinQ (wr := [q]) hP hD (idxF 0 fs) [j] hC (by show [X[j]?] = [some q]; rw [ej]) rfl (fun i hi => by rw [List.mem_singleton.mp hi]; exact hj) hk1 hF hP1 hD1
        exact hP2 0 q rfl
    · obtain ⟨hP2, -⟩ := va_joinQ (wr := []) hP hD (idxF 0 fs) [] hC rfl rfl (fun i hi => by cases hi) hk1 hF hP1 hD1
      obtain ⟨z, hz⟩ := List.getElem?_of_mem (List.mem_append_right ([] ++ w1) h)
      exact hP2 z q hz
  · refine hD.fst ?_
    rw [List.map_append, List.map_append, ← hw2, comb_fst (by rw [hpk]; exact hfs)]
theorem cl_F0 {r0 : Int32} {b : Nat} (S : CallFix p m c cc nL s args gtbl own)
    (hM : Met l y (.code y bytes maxL ret :: gtbl) rm (PcS (gWith G []) (.ref b :: As) wc H.size) (QiS (gWith G []) r0 (va_A wc H.size) w1) 0 0 (va_A wc H.size)) (hy : ykV y C bytes maxL ret n) (hl : Cond.methodLink own index y ∈ gtbl)
    (hrm : rm.cells = 0 ∧ rm.slots = 0 ∧ rm.frames + 1 ≤ R.frames ∧ 8 + (maxL + 11) + rm.locals ≤ R.locals) (hrc : cells + 0 ≤ R.cells ∧ slots + 0 ≤ R.slots)
    (hN : NW s) (hT : ST G A s) (hK : va_K G.1 vwCl (tyG G) s) (hP : va_P G.1 vwCl (X ++ Z) H) (hD : va_D A (X ++ Z)) (hS : va_S A s.heap H locs) (hA : ∀ q : Nat, s.heap.size ≤ q → A q) (fs : List Bool) (hrv : ∃ cell : Cell, H[b]? = some cell ∧ cell.vm.isStatics = false ∧ s.vm.findClass C = some cell.cls)
    (hcn : va_nd (idxF 0 fs) = true) (hlX : fs.length ≤ X.length) (hpk : pickF fs X = wc) (hfs : w1.map Prod.fst = wc.map Prod.fst) (hw2 : comb fs X w1 = w2)
    (hlen : As.length = n) (hsize : ls.size = nL) (hst : st0 = As.reverse ++ .ref b :: rest) (hrest : (rest.map fun v => v.category).sum ≤ 8) (hdg : decode cc pc = .ok (.invokevirtual index, 3))
    (kk : ∀ (H : Heap) (locs : List Loc), va_P G.1 vwCl (w2 ++ Z) H → va_D A (w2 ++ Z) → va_S A s.heap H locs → W p l e R s m args below meth c H locs cells slots Q (F0 m (pc + 3) ls (.int r0 :: rest))) : W p l e R s m args below meth c H locs cells slots Q (F0 m pc ls st0) :=
  cl_F S hM hy hl hrm hrc hN hT hK hP hD hS hA fs hrv (fun q hq => by cases hq) hcn hlX hpk hfs hw2 hlen hsize hst hrest hdg kk
theorem cl_FS {r0 : Int32} {b : Nat} (S : CallFix p m c cc nL s args gtbl own)
    (hM : Met l y (.code y bytes maxL ret :: gtbl) rm (PcS (gWith G (allS tl)) (.ref b :: As) wc H.size) (QiS (gWith G (allS tl)) r0 (va_A wc H.size) w1) 0 0 (va_A wc H.size)) (hy : ykV y C bytes maxL ret n) (hl : Cond.methodLink own index y ∈ gtbl)
    (hrm : rm.cells = 0 ∧ rm.slots = 0 ∧ rm.frames + 1 ≤ R.frames ∧ 8 + (maxL + 11) + rm.locals ≤ R.locals) (hrc : cells + 0 ≤ R.cells ∧ slots + 0 ≤ R.slots)
    (hN : NW s) (hT : ST G A s) (hK : va_K G.1 vwCl (tyG G) s) (hP : va_P G.1 vwCl (X ++ Z) H) (hD : va_D A (X ++ Z)) (hS : va_S A s.heap H locs) (hA : ∀ q : Nat, s.heap.size ≤ q → A q) (fs : List Bool) (hrv : ∃ cell : Cell, H[b]? = some cell ∧ cell.vm.isStatics = false ∧ s.vm.findClass C = some cell.cls)
    (hpm : (W0 ++ poolS G tl sv sk0 15).Perm (X ++ Z)) (hno : noSt wc = true)
    (hcn : va_nd (idxF 0 fs) = true) (hlX : fs.length ≤ X.length) (hpk : pickF fs X = wc) (hfs : w1.map Prod.fst = wc.map Prod.fst) (hw2 : comb fs X w1 = w2)
    (hlen : As.length = n) (hsize : ls.size = nL) (hst : st0 = As.reverse ++ .ref b :: rest) (hrest : (rest.map fun v => v.category).sum ≤ 8) (hdg : decode cc pc = .ok (.invokevirtual index, 3))
    (kk : ∀ (H : Heap) (locs : List Loc), va_P G.1 vwCl (w2 ++ Z) H → va_D A (w2 ++ Z) → va_S A s.heap H locs → W p l e R s m args below meth c H locs cells slots Q (F0 m (pc + 3) ls (.int r0 :: rest))) : W p l e R s m args below meth c H locs cells slots Q (F0 m pc ls st0) :=
  cl_F S hM hy hl hrm hrc hN hT hK hP hD hS hA fs hrv (allS_ok hpm hP hD (fun x hx => by
    have hC : (idxF 0 fs).map (fun i => X[i]?) = wc.map some := by rw [← hpk]; exact pick_idx (Y := []) hlX rfl
    obtain ⟨k, hk⟩ := List.getElem?_of_mem hx
    obtain ⟨i, -, hi⟩ := va_in_of (idxF 0 fs) hC hk
    exact List.mem_append_left _ (List.mem_of_getElem? hi)) hno) hcn hlX hpk hfs hw2 hlen hsize hst hrest hdg kk
end InPlace3
