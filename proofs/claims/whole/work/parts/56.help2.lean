/-! making objects and arrays; worlds in another order -/
theorem va_P.perm {D : va_G} {cl : List vw_C} {ws ws' : va_W} {H : Heap} (h : va_P D cl ws H) (hp : ws.Perm ws') : va_P D cl ws' H := fun k q hq => by
  obtain ⟨i, hi⟩ := List.getElem?_of_mem (hp.mem_iff.mpr (List.mem_of_getElem? hq))
  exact h i q hi
theorem va_D_iff {A : Nat → Prop} {ws : va_W} : va_D A ws ↔ (ws.map (fun q => q.1)).Nodup ∧ ∀ q ∈ ws, A q.1 := by
  constructor
  · intro h
    refine ⟨?_, fun q hq => ?_⟩
    · rw [List.Nodup, List.pairwise_iff_getElem]
      intro i j hi hj hij e
      rw [List.length_map] at hi hj
      rw [List.getElem_map, List.getElem_map] at e
      have := h.1 i j ws[i] ws[j] (List.getElem?_eq_getElem hi) (List.getElem?_eq_getElem hj) e
      omega
    · obtain ⟨i, hi⟩ := List.getElem?_of_mem hq
      exact h.2 i q hi
  · rintro ⟨h1, h2⟩
    refine ⟨fun i j p q hp hq e => ?_, fun k q hq => h2 q (List.mem_of_getElem? hq)⟩
    rw [List.Nodup, List.pairwise_iff_getElem] at h1
    obtain ⟨hi, ei⟩ := List.getElem?_eq_some_iff.mp hp
    obtain ⟨hj, ej⟩ := List.getElem?_eq_some_iff.mp hq
    have key : ∀ a b (ha : a < ws.length) (hb : b < ws.length), a < b → ws[a].1 = ws[b].1 → False := fun a b ha hb hab e => by
      have := h1 a b (by rw [List.length_map]; exact ha) (by rw [List.length_map]; exact hb) hab
      rw [List.getElem_map, List.getElem_map] at this
      exact this e
    rcases Nat.lt_trichotomy i j with h | h | h
    · exact (key i j hi hj h (by rw [ei, ej]; exact e)).elim
    · exact h
    · exact (key j i hj hi h (by rw [ei, ej]; exact e.symm)).elim
theorem va_D.perm {A : Nat → Prop} {ws ws' : va_W} (h : va_D A ws) (hp : ws.Perm ws') : va_D A ws' := by
  rw [va_D_iff] at h ⊢
  exact ⟨(hp.map _).nodup_iff.mp h.1, fun q hq => h.2 q (hp.mem_iff.mpr hq)⟩
def PcN (G : GG) (av : List Value) (wc : va_W) (sz : Nat) : Array Value → State → Prop := va_Pc av (fun U => U.heap.size = sz ∧ va_P G.1 vwCl wc U.heap ∧ va_K G.1 vwCl (tyG G) U ∧ va_D (fun _ => True) wc ∧ XF G (va_A wc sz) U ∧ va_AO "OddColumns$State" U)
def QvN {S : Type} (G : GG) (A : Nat → Prop) (w1 : S → va_W) : Array Value → State → Outcome → State → Prop := va_Qv (fun (_ : S) => True) (fun u t => va_P G.1 vwCl (w1 u) t.heap ∧ va_K G.1 vwCl (tyG G) t ∧ va_D A (w1 u)) A
theorem PcN_blind {G : GG} {av : List Value} {wc : va_W} {sz : Nat} : FrameBlind (PcN G av wc sz) := by
  intro a U g mk q
  obtain ⟨q0, q1, qP, qK, qD, qX, qO⟩ := q
  exact ⟨q0, q1, qP, va_K.moved (u := U) (U := U.calling g mk a) (Vm.Alike.refl U.vm) qK, qD, qX.call, qO.moved (U := U.calling g mk a) (Vm.Alike.refl U.vm)⟩
section StartN
variable {l : Launch} {y : MethodName} {bytes : ByteArray} {maxL : Nat} {ret : Option FieldType} {rm : Room} {G : GG} {av : List Value} {wc : va_W} {sz : Nat} {Qc : Array Value → State → Outcome → State → Prop} {mc ms : Nat}
theorem met_startN (hy : plainName y.cls = true) (hn : (lg_sl av).length ≤ maxL)
    (body : ∀ p e s m below meth c, CallFix p m c bytes maxL s av.toArray gtbl y.cls → meth.sig.returnType = ret → meth.locks = false → meth.name = y.name → va_K G.1 vwCl (tyG G) s → va_P G.1 vwCl wc s.heap → va_D (va_A wc sz) wc → (∀ q : Nat, s.heap.size ≤ q → va_A wc sz q) → va_S (va_A wc sz) s.heap s.heap [] → XF G (va_A wc sz) s → va_AO "OddColumns$State" s → ∀ ls, lv_has ls maxL (lv_args 0 av) →
      W p l e rm s m av.toArray below meth c s.heap [] 0 0 (MQ below Qc av.toArray s mc ms (va_A wc sz)) (F0 m 0 ls [])) :
    Met l y (.code y bytes maxL ret :: gtbl) rm (PcN G av wc sz) Qc mc ms (va_A wc sz) := by
  refine Met.ofW (cc := bytes) (maxL := maxL) (ret := ret) hy rfl ?_
  intro p e s m args below meth c s₁ B hml hv
  obtain ⟨rfl, hsz, hP, hK, hD0, hX, hO⟩ := hv
  have hts := atoms_spec (ws := .code y bytes maxL ret :: gtbl) B.pre
  have hown : s.vm.findClass y.cls = some m.cls := findClass_of_methodNamed B.named
  have hl := lv_entry av (n := maxL) hn
  rw [lg_entry_eq]
  exact body p e s m below meth c ⟨B.exec, B.bytes, hml, hown, fun w hw => hts w (List.mem_cons_of_mem _ hw)⟩ B.returns B.notSynchronized (name_of_methodNamed B.named B.method).1 hK hP hD0.self (fun q h => Or.inr (hsz ▸ h)) va_S.rf hX hO _ hl
end StartN
section MakeN
variable {p : Program} {l : Launch} {e : Env} {R rm : Room} {s : State} {m : MethodId} {args : Array Value} {below : List Frame} {meth : Method} {c : Code} {H H0 : Heap} {locs : List Loc} {cells slots : Nat} {Q : State → Prop} {cc bytes : ByteArray} {pc : Nat} {ls : Array Slot} {G : GG} {A : Nat → Prop} {ws wc ws0 : va_W} {own : String} {y : MethodName} {maxL index nL mc ms : Nat} {rest : List Value}
theorem ret_vN {S : Type} {w1 : S → va_W} (u : S) (hx : p.tables.exec = Jvm.exec) (hb : c.code = cc) (hr : meth.sig.returnType = none) (hlk : meth.locks = false) (hK : va_K G.1 vwCl (tyG G) s) (hP : va_P G.1 vwCl (w1 u) H) (hD : va_D A (w1 u)) (hS : va_S A s.heap H locs) (hdg : decode cc pc = .ok (.return_, 1)) :
    W p l e R s m args below meth c H locs cells slots (MQ below (QvN G A w1) args s cells slots A) (F0 m pc ls []) :=
  W.vret hx hb hr (fun t ht hW => ⟨⟨u, rfl, trivial, by rw [ht]; exact hP, va_K.moved hW.alike hK, hD⟩, hS.F ht⟩) hS.2.2 hdg hlk
theorem nw_I {n : Int32} {N : Nat} (hx : p.tables.exec = Jvm.exec) (hb : c.code = cc) (harr : (Cond.arrayClass .int).before args s = true) (hK : va_K G.1 vwCl (tyG G) s) (hP : va_P G.1 vwCl ws H) (hD : va_D A ws) (hS : va_S A H0 H locs) (hA : ∀ q, H0.size ≤ q → A q)
    (hn : ¬ n < 0) (hN : n.toNatClampNeg = N) (hby : N * 4 ≤ 536870912) (hcells : cells + 1 ≤ R.cells) (hslots : slots + N ≤ R.slots) (hdg : decode cc pc = .ok (.newarray .int, 2))
    (kk : ∀ (q : Nat) (H1 : Heap), va_P G.1 vwCl (ws ++ [(q, .inl (G.2.1, N, .inl (fun _ => 0)))]) H1 → va_D A (ws ++ [(q, .inl (G.2.1, N, .inl (fun _ => 0)))]) → va_S A H0 H1 locs → W p l e R s m args below meth c H1 locs (cells + 1) (slots + N) Q (F0 m (pc + 2) ls (.ref q :: rest))) : W p l e R s m args below meth c H locs cells slots Q (F0 m pc ls (.int n :: rest)) := by
  refine va_newa (atype := .int) hx hb harr rfl hK hP hD hS hA (a0 := (N, .inl (fun _ => 0))) (fun _ => rfl) hn hN hby hcells hslots hdg (fun q cA H1 hK1 hP1 hD1 hS1 => ?_)
  have e : cA = G.2.1 := Option.some.inj ((va_nm_int (hK1.2 4 (cA, .int) rfl).2).symm.trans (va_nm_int (hK.2 0 (G.2.1, .int) rfl).2))
  subst e
  exact kk q H1 hP1 hD1 hS1
theorem nw_Z {n : Int32} {N : Nat} (hx : p.tables.exec = Jvm.exec) (hb : c.code = cc) (harr : (Cond.arrayClass .boolean).before args s = true) (hK : va_K G.1 vwCl (tyG G) s) (hP : va_P G.1 vwCl ws H) (hD : va_D A ws) (hS : va_S A H0 H locs) (hA : ∀ q, H0.size ≤ q → A q)
    (hn : ¬ n < 0) (hN : n.toNatClampNeg = N) (hby : N * componentBytes .boolean ≤ 536870912) (hcells : cells + 1 ≤ R.cells) (hslots : slots + N ≤ R.slots) (hdg : decode cc pc = .ok (.newarray .boolean, 2))
    (kk : ∀ (q : Nat) (H1 : Heap), va_P G.1 vwCl (ws ++ [(q, .inl (G.2.2.1, N, .inl (fun _ => 0)))]) H1 → va_D A (ws ++ [(q, .inl (G.2.2.1, N, .inl (fun _ => 0)))]) → va_S A H0 H1 locs → W p l e R s m args below meth c H1 locs (cells + 1) (slots + N) Q (F0 m (pc + 2) ls (.ref q :: rest))) : W p l e R s m args below meth c H locs cells slots Q (F0 m pc ls (.int n :: rest)) := by
  refine va_newa (atype := .boolean) hx hb harr rfl hK hP hD hS hA (a0 := (N, .inl (fun _ => 0))) (fun _ => rfl) hn hN hby hcells hslots hdg (fun q cA H1 hK1 hP1 hD1 hS1 => ?_)
  have e : cA = G.2.2.1 := Option.some.inj ((va_nm_boolean (hK1.2 4 (cA, .boolean) rfl).2).symm.trans (va_nm_boolean (hK.2 1 (G.2.2.1, .boolean) rfl).2))
  subst e
  exact kk q H1 hP1 hD1 hS1
theorem nw_B {n : Int32} {N : Nat} (hx : p.tables.exec = Jvm.exec) (hb : c.code = cc) (harr : (Cond.arrayClass .byte).before args s = true) (hK : va_K G.1 vwCl (tyG G) s) (hP : va_P G.1 vwCl ws H) (hD : va_D A ws) (hS : va_S A H0 H locs) (hA : ∀ q, H0.size ≤ q → A q)
    (hn : ¬ n < 0) (hN : n.toNatClampNeg = N) (hby : N * componentBytes .byte ≤ 536870912) (hcells : cells + 1 ≤ R.cells) (hslots : slots + N ≤ R.slots) (hdg : decode cc pc = .ok (.newarray .byte, 2))
    (kk : ∀ (q : Nat) (H1 : Heap), va_P G.1 vwCl (ws ++ [(q, .inl (G.2.2.2.1, N, .inl (fun _ => 0)))]) H1 → va_D A (ws ++ [(q, .inl (G.2.2.2.1, N, .inl (fun _ => 0)))]) → va_S A H0 H1 locs → W p l e R s m args below meth c H1 locs (cells + 1) (slots + N) Q (F0 m (pc + 2) ls (.ref q :: rest))) : W p l e R s m args below meth c H locs cells slots Q (F0 m pc ls (.int n :: rest)) := by
  refine va_newa (atype := .byte) hx hb harr rfl hK hP hD hS hA (a0 := (N, .inl (fun _ => 0))) (fun _ => rfl) hn hN hby hcells hslots hdg (fun q cA H1 hK1 hP1 hD1 hS1 => ?_)
  have e : cA = G.2.2.2.1 := Option.some.inj ((va_nm_byte (hK1.2 4 (cA, .byte) rfl).2).symm.trans (va_nm_byte (hK.2 2 (G.2.2.2.1, .byte) rfl).2))
  subst e
  exact kk q H1 hP1 hD1 hS1
/-- an array of States -/
theorem nw_S {n : Int32} {N : Nat} (hx : p.tables.exec = Jvm.exec) (hb : c.code = cc) (hown : s.vm.findClass own = some m.cls) (hcl : (Cond.classLink own index "OddColumns$State").before args s = true) (hO : va_AO "OddColumns$State" s) (hK : va_K G.1 vwCl (tyG G) s) (hP : va_P G.1 vwCl ws H) (hD : va_D A ws) (hS : va_S A H0 H locs) (hA : ∀ q, H0.size ≤ q → A q)
    (hn : ¬ n < 0) (hN : n.toNatClampNeg = N) (hby : N * 4 ≤ 536870912) (hcells : cells + 1 ≤ R.cells) (hslots : slots + N ≤ R.slots) (hdg : decode cc pc = .ok (.anewarray index, 3))
    (kk : ∀ (q : Nat) (H1 : Heap), va_P G.1 vwCl (ws ++ [(q, .inl (G.2.2.2.2.1, N, .inr (.inr (.inr (.inr (fun _ => none))))))]) H1 → va_D A (ws ++ [(q, .inl (G.2.2.2.2.1, N, .inr (.inr (.inr (.inr (fun _ => none))))))]) → va_S A H0 H1 locs → W p l e R s m args below meth c H1 locs (cells + 1) (slots + N) Q (F0 m (pc + 3) ls (.ref q :: rest))) : W p l e R s m args below meth c H locs cells slots Q (F0 m pc ls (.int n :: rest)) := by
  refine va_newq hx hb hown hcl hO hK hP hD hS hA hn hN hby hcells hslots hdg (fun q cA H1 hK1 hP1 hD1 hS1 => ?_)
  have e : cA = G.2.2.2.2.1 := Option.some.inj ((va_nmO (hK1.2 4 (cA, .object "OddColumns$State") rfl).2 rfl).symm.trans (va_nmO (hK.2 3 (G.2.2.2.2.1, .object "OddColumns$State") rfl).2 rfl))
  subst e
  exact kk q H1 hP1 hD1 hS1
/-- what a call of a constructor needs -/
def ykN (y : MethodName) (bytes : ByteArray) (maxL : Nat) : Prop := Cond.instanceMethod y ∈ gtbl ∧ Cond.initialized y.cls ∈ gtbl ∧ Cond.code y bytes maxL none ∈ gtbl ∧ (y.cls ≠ "java/lang/invoke/MethodHandle" ∧ y.cls ≠ "java/lang/invoke/VarHandle" ∧ (parseMethodDescriptor y.desc).map (fun d => d.parameters.length) = some 0) ∧ y.name = "<init>"
theorem pre_N {b : Nat} {E : va_E} (hX : XF G A s) (hO : va_AO "OddColumns$State" s) (hK : va_K G.1 vwCl (tyG G) s) (hP : va_P G.1 vwCl ([(b, E)] ++ ws0) H) (hD : va_D A ([(b, E)] ++ ws0)) (hS : va_S A s.heap H locs) (hA : ∀ q : Nat, s.heap.size ≤ q → A q) : ∀ U : State, U.heap = H → s.WarmedH U.vm → PcN G [.ref b] [(b, E)] H.size ([.ref b] : List Value).toArray U := fun U hU hW => by
  obtain ⟨q0, q1, q2, q3, q4, q5⟩ := cl_pre (wc := [(b, E)]) hX hA hS hK hP hD [0] rfl rfl [.ref b] U hU hW
  exact ⟨q0, q1, q2, q3, q4, q5, hO.moved hW.alike⟩
theorem cl_N {S : Type} {b : Nat} {host : String} {E : va_E} {w1 : S → va_W} (F : CallFix p m c cc nL s args gtbl own)
    (hM : Met l y (.code y bytes maxL none :: gtbl) rm (PcN G [.ref b] [(b, E)] H.size) (QvN G (va_A [(b, E)] H.size) w1) mc ms (va_A [(b, E)] H.size)) (hy : ykN y bytes maxL) (hl : Cond.methodLinkNest own index y host ∈ nestL)
    (hrm : rm.cells = mc ∧ rm.slots = ms ∧ rm.frames + 1 ≤ R.frames ∧ 8 + (maxL + 11) + rm.locals ≤ R.locals) (hrc : cells + mc ≤ R.cells ∧ slots + ms ≤ R.slots)
    (hX : XF G A s) (hO : va_AO "OddColumns$State" s) (hK : va_K G.1 vwCl (tyG G) s) (hP : va_P G.1 vwCl (ws0 ++ [(b, E)]) H) (hD : va_D A (ws0 ++ [(b, E)])) (hS : va_S A s.heap H locs) (hA : ∀ q : Nat, s.heap.size ≤ q → A q)
    (hsize : ls.size = nL) (hrest : (rest.map fun v => v.category).sum ≤ 8) (hdg : decode cc pc = .ok (.invokespecial index, 3))
    (kk : ∀ (u : S) (H : Heap) (locs : List Loc), va_P G.1 vwCl (ws0 ++ w1 u) H → va_D A (ws0 ++ w1 u) → va_S A s.heap H locs → W p l e R s m args below meth c H locs (cells + mc) (slots + ms) Q (F0 m (pc + 3) ls rest)) : W p l e R s m args below meth c H locs cells slots Q (F0 m pc ls (.ref b :: rest)) := by
  have hP := hP.perm (List.perm_append_comm (l₁ := ws0) (l₂ := [(b, E)]))
  have hD := hD.perm (List.perm_append_comm (l₁ := ws0) (l₂ := [(b, E)]))
  have hF := va_free (wc := [(b, E)]) hD hS hA [0] rfl
  refine va_callv (va_runIN (As := []) (rest := rest) F hM ⟨va_cnB 0 F.2.2.2.2 (gd_code hy.2.2.1) rfl hrm.1 hrm.2.1 (hX.1 _ hl) (F.2.2.2.2 _ hy.2.1) hy.2.2.2.1 hrm.2.2, hy.2.2.2.2, F.2.2.2.2 _ hy.1⟩ ⟨PcN_blind, pre_N hX hO hK hP hD hS hA⟩ rfl rfl hsize rfl (lv_room hrest) hdg hrc) hS (fun q _ h => hF q h) hF (fun u t H1 locs1 ht hvm hw hB hz1 hk1 hS1 => ?_)
  obtain ⟨hP1, -, hD1⟩ := hB
  rw [ht] at hP1
  obtain ⟨hP2, hD2⟩ := va_joinQ (X := [(b, E)]) (cx := [(b, E)]) (wr := []) (pl := ws0) hP hD [0] [] rfl rfl rfl (fun i hi => by cases hi) hk1 hF hP1 hD1
  exact kk u H1 locs1 (hP2.perm (List.perm_append_comm (l₁ := [] ++ w1 u) (l₂ := ws0))) (hD2.perm (List.perm_append_comm (l₁ := [] ++ w1 u) (l₂ := ws0))) hS1
theorem cl_I {S : Type} {b : Nat} {E : va_E} {w1 : S → va_W} (F : CallFix p m c cc nL s args gtbl own)
    (hM : Met l y (.code y bytes maxL none :: gtbl) rm (PcN G [.ref b] [(b, E)] H.size) (QvN G (va_A [(b, E)] H.size) w1) mc ms (va_A [(b, E)] H.size)) (hy : ykN y bytes maxL) (hl : Cond.methodLink own index y ∈ gtbl)
    (hrm : rm.cells = mc ∧ rm.slots = ms ∧ rm.frames + 1 ≤ R.frames ∧ 8 + (maxL + 11) + rm.locals ≤ R.locals) (hrc : cells + mc ≤ R.cells ∧ slots + ms ≤ R.slots)
    (hX : XF G A s) (hO : va_AO "OddColumns$State" s) (hK : va_K G.1 vwCl (tyG G) s) (hP : va_P G.1 vwCl (ws0 ++ [(b, E)]) H) (hD : va_D A (ws0 ++ [(b, E)])) (hS : va_S A s.heap H locs) (hA : ∀ q : Nat, s.heap.size ≤ q → A q)
    (hsize : ls.size = nL) (hrest : (rest.map fun v => v.category).sum ≤ 8) (hdg : decode cc pc = .ok (.invokespecial index, 3))
    (kk : ∀ (u : S) (H : Heap) (locs : List Loc), va_P G.1 vwCl (ws0 ++ w1 u) H → va_D A (ws0 ++ w1 u) → va_S A s.heap H locs → W p l e R s m args below meth c H locs (cells + mc) (slots + ms) Q (F0 m (pc + 3) ls rest)) : W p l e R s m args below meth c H locs cells slots Q (F0 m pc ls (.ref b :: rest)) := by
  have hP := hP.perm (List.perm_append_comm (l₁ := ws0) (l₂ := [(b, E)]))
  have hD := hD.perm (List.perm_append_comm (l₁ := ws0) (l₂ := [(b, E)]))
  have hF := va_free (wc := [(b, E)]) hD hS hA [0] rfl
  refine va_callv (va_runI (As := []) (rest := rest) F hM ⟨callB_of 0 F.2.2.2.2 (gd_code hy.2.2.1) rfl hrm.1 hrm.2.1 (F.2.2.2.2 _ hy.2.1) (F.2.2.2.2 _ hl) hy.2.2.2.1 hrm.2.2, hy.2.2.2.2, F.2.2.2.2 _ hy.1⟩ ⟨PcN_blind, pre_N hX hO hK hP hD hS hA⟩ rfl rfl hsize rfl (lv_room hrest) hdg hrc) hS (fun q _ h => hF q h) hF (fun u t H1 locs1 ht hvm hw hB hz1 hk1 hS1 => ?_)
  obtain ⟨hP1, -, hD1⟩ := hB
  rw [ht] at hP1
  obtain ⟨hP2, hD2⟩ := va_joinQ (X := [(b, E)]) (cx := [(b, E)]) (wr := []) (pl := ws0) hP hD [0] [] rfl rfl rfl (fun i hi => by cases hi) hk1 hF hP1 hD1
  exact kk u H1 locs1 (hP2.perm (List.perm_append_comm (l₁ := [] ++ w1 u) (l₂ := ws0))) (hD2.perm (List.perm_append_comm (l₁ := [] ++ w1 u) (l₂ := ws0))) hS1
end MakeN
