/-! one form of contract for every method: a world of cells in, a world of cells out -/
abbrev GG : Type := va_G × ClassId × ClassId × ClassId × ClassId × (Nat → Nat) × (Nat → Nat) × List (Nat × Nat × Nat)
abbrev gK (G : GG) : Nat → Nat := G.2.2.2.2.2.1
abbrev gV (G : GG) : Nat → Nat := G.2.2.2.2.2.2.1
abbrev gS (G : GG) : List (Nat × Nat × Nat) := G.2.2.2.2.2.2.2
abbrev tyG (G : GG) : List (ClassId × FieldType) := [(G.2.1, .int), (G.2.2.1, .boolean), (G.2.2.2.1, .byte), (G.2.2.2.2.1, .object "OddColumns$State")]
def nestL : List Cond := [.methodLinkNest "OddColumns" 9 yX3_init "OddColumns", .methodLinkNest "OddColumns$Script" 11 yX7_init "OddColumns", .methodLinkNest "OddColumns$Script" 20 yX0_init "OddColumns", .methodLinkNest "OddColumns$Script" 27 yX1_init "OddColumns", .methodLinkNest "OddColumns$Timeline" 15 yX6_init "OddColumns", .methodLinkNest "OddColumns$State" 9 yX1_init "OddColumns", .methodLinkNest "OddColumns$State" 18 yX9_init "OddColumns", .methodLinkNest "OddColumns" 35 yX6_init "OddColumns", .methodLinkNest "OddColumns" 46 yX2_init "OddColumns", .methodLinkNest "OddColumns" 53 yX4_init "OddColumns", .methodLinkNest "OddColumns$Searcher" 20 yX1_init "OddColumns", .methodLinkNest "OddColumns$Searcher" 27 yX2_init "OddColumns", .methodLinkNest "OddColumns" 60 yX5_init "OddColumns", .methodLinkNest "OddColumns" 67 yX1_init "OddColumns", .methodLinkNest "OddColumns" 74 yX9_init "OddColumns", .methodLinkNest "OddColumns$Reading" 28 yX10_lowestPlace "OddColumns"]
def NW (U : State) : Prop := ∀ w ∈ nestL, va_Nw w U
/-- what the machine's start says of String constants -/
def ST (G : GG) (A : Nat → Prop) (U : State) : Prop := (∀ i : Nat, i < 9 → vk_R "OddColumns$Script" (kJS.getD i 0) (tJS.getD i "") (gK G i) U) ∧ vk_S 9 lenJS bytJS (gK G) (gV G) A U U.heap ∧ va_Z "java/lang/String" "COMPACT_STRINGS" "Z" (.int 1) A U U.heap ∧ va_Zq "jdk/internal/util/Preconditions" "SIOOBE_FORMATTER" "Ljava/util/function/BiFunction;" A U U.heap
/-- a State that never changes: its address, its code's, its words' -/
def SO (A : Nat → Prop) (U : State) (q : Nat × Nat × Nat) : Prop := va_O "OddColumns$State" q.1 A U U.heap ∧ va_OF "OddColumns$State" "code" "LOddColumns$Code;" (.ref q.2.1) q.1 A U U.heap ∧ va_OF "OddColumns$State" "words" "LOddColumns$Words;" (.ref q.2.2) q.1 A U U.heap
def XF (G : GG) (A : Nat → Prop) (U : State) : Prop := NW U ∧ ST G A U ∧ ∀ q ∈ gS G, SO A U q
theorem ST.move {G : GG} {A B : Nat → Prop} {s U : State} {H : Heap} (h : ST G A s) (hk : ∀ a : Nat, a < s.heap.size → ¬ A a → H[a]? = s.heap[a]?) (hF : ∀ q, B q → A q) (hU : U.heap = H) (hvm : s.vm.Alike U.vm) (hR : ∀ (i : Nat), i < 9 → vk_R "OddColumns$Script" (kJS.getD i 0) (tJS.getD i "") (gK G i) s → vk_R "OddColumns$Script" (kJS.getD i 0) (tJS.getD i "") (gK G i) U) : ST G B U := by
  subst hU
  exact ⟨fun i hi => hR i hi (h.1 i hi), ((h.2.1.kept hk).moved hvm).narrow hF, ((h.2.2.1.kept hk).moved hvm).narrow hF, ((h.2.2.2.kept hk).moved hvm).narrow hF⟩
theorem SO.move {A B : Nat → Prop} {s U : State} {H : Heap} {q : Nat × Nat × Nat} (h : SO A s q) (hk : ∀ a : Nat, a < s.heap.size → ¬ A a → H[a]? = s.heap[a]?) (hF : ∀ q, B q → A q) (hU : U.heap = H) (hvm : s.vm.Alike U.vm) : SO B U q := by
  subst hU
  exact ⟨((h.1.kept hk).moved hvm).narrow hF, ((h.2.1.kept hk).moved hvm).narrow hF, ((h.2.2.kept hk).moved hvm).narrow hF⟩
theorem SO.recv {A : Nat → Prop} {s : State} {H : Heap} {locs : List Loc} {q : Nat × Nat × Nat} (h : SO A s q) (hS : va_S A s.heap H locs) : ∃ cell : Cell, H[q.1]? = some cell ∧ cell.vm.isStatics = false ∧ s.vm.findClass "OddColumns$State" = some cell.cls := by
  obtain ⟨cell, h1, h2, h3, h4⟩ := h.1.kept (H1 := H) (fun a h1 h2 => hS.2.1 a h1 h2)
  exact ⟨cell, h1, h2, h3⟩
theorem NW.warm {s U : State} (hW : s.WarmedH U.vm) (h : NW s) : NW U := by
  intro w hw
  have h1 := h w hw
  simp only [nestL, List.mem_cons, List.not_mem_nil, or_false] at hw
  rcases hw with rfl | rfl | rfl | rfl | rfl | rfl | rfl | rfl | rfl | rfl | rfl | rfl | rfl | rfl | rfl | rfl <;> exact va_Nw.warmM hW h1
theorem NW.call {U : State} {g : JFrame} {mk : MethodId} {a : Array Value} (h : NW U) : NW (U.calling g mk a) := by
  intro w hw
  have h1 := h w hw
  simp only [nestL, List.mem_cons, List.not_mem_nil, or_false] at hw
  rcases hw with rfl | rfl | rfl | rfl | rfl | rfl | rfl | rfl | rfl | rfl | rfl | rfl | rfl | rfl | rfl | rfl <;> exact va_tabs (A := #[]) (u := U) rfl rfl h1
theorem XF.call {G : GG} {A : Nat → Prop} {U : State} {g : JFrame} {mk : MethodId} {a : Array Value} (h : XF G A U) : XF G A (U.calling g mk a) := ⟨h.1.call, h.2.1.move (H := U.heap) (fun _ _ _ => rfl) (fun _ h => h) rfl (Vm.Alike.refl U.vm) (fun i hi h => h.same rfl), fun q hq => (h.2.2 q hq).move (H := U.heap) (fun _ _ _ => rfl) (fun _ h => h) rfl (Vm.Alike.refl U.vm)⟩
theorem XF.pre {G : GG} {A B : Nat → Prop} {s U : State} {H : Heap} {locs : List Loc} (h : XF G A s) (hS : va_S A s.heap H locs) (hF : ∀ q, B q → A q) (hU : U.heap = H) (hW : s.WarmedH U.vm) : XF G B U := ⟨h.1.warm hW, h.2.1.move (fun a h1 h2 => hS.2.1 a h1 h2) hF hU hW.alike (fun i hi h => h.warm hW), fun q hq => (h.2.2 q hq).move (fun a h1 h2 => hS.2.1 a h1 h2) hF hU hW.alike⟩
def PcS (G : GG) (av : List Value) (wc : va_W) (sz : Nat) : Array Value → State → Prop := va_Pc av (fun U => U.heap.size = sz ∧ va_P G.1 vwCl wc U.heap ∧ va_K G.1 vwCl (tyG G) U ∧ va_D (fun _ => True) wc ∧ XF G (va_A wc sz) U)
def QiS (G : GG) (r0 : Int32) (A : Nat → Prop) (w1 : va_W) : Array Value → State → Outcome → State → Prop := va_Qi (fun (r : Int32) (_ : Unit) => r = r0) (fun _ t => va_P G.1 vwCl w1 t.heap ∧ va_K G.1 vwCl (tyG G) t ∧ va_D A w1) A
def QvS (G : GG) (A : Nat → Prop) (w1 : va_W) : Array Value → State → Outcome → State → Prop := va_Qv (fun (_ : Unit) => True) (fun _ t => va_P G.1 vwCl w1 t.heap ∧ va_K G.1 vwCl (tyG G) t ∧ va_D A w1) A
def QrS (G : GG) (a0 : Nat) (A : Nat → Prop) (w1 : va_W) : Array Value → State → Outcome → State → Prop := va_Qr (fun (_ : Unit) => True) (fun _ a t => a = a0 ∧ va_P G.1 vwCl w1 t.heap ∧ va_K G.1 vwCl (tyG G) t ∧ va_D A w1) A
theorem PcS_blind {G : GG} {av : List Value} {wc : va_W} {sz : Nat} : FrameBlind (PcS G av wc sz) := by
  intro a U g mk q
  obtain ⟨q0, q1, qP, qK, qD, qX⟩ := q
  exact ⟨q0, q1, qP, va_K.moved (u := U) (U := U.calling g mk a) (Vm.Alike.refl U.vm) qK, qD, qX.call⟩
theorem of_pos {α : Type} {c : Prop} [Decidable c] {a b r : α} (h : ite c a b = r) (hc : c) : a = r := by rwa [if_pos hc] at h
theorem of_neg {α : Type} {c : Prop} [Decidable c] {a b r : α} (h : ite c a b = r) (hc : ¬ c) : b = r := by rwa [if_neg hc] at h
theorem of_grd {α : Type} {c : Prop} [Decidable c] {X : Option α} {r : α} (h : ite c none X = some r) : ¬ c ∧ X = some r := by
  by_cases hc : c
  · rw [if_pos hc] at h; cases h
  · rw [if_neg hc] at h; exact ⟨hc, h⟩
theorem of_bnd {α β : Type} {o : Option α} {k : α → Option β} {r : β} (h : o.bind k = some r) : ∃ u, o = some u ∧ k u = some r := by
  cases o with
  | none => cases h
  | some u => exact ⟨u, rfl, h⟩
theorem fm_of_map {ws w : va_W} {is : List Nat} (h : is.map (fun i => ws[i]?) = w.map some) : is.filterMap (fun i => ws[i]?) = w := by
  have e : is.filterMap (fun i => ws[i]?) = (is.map (fun i => ws[i]?)).filterMap id := by rw [List.filterMap_map]; rfl
  rw [e, h, List.filterMap_map]
  simp
section Start
variable {l : Launch} {y : MethodName} {bytes : ByteArray} {maxL : Nat} {ret : Option FieldType} {rm : Room} {G : GG} {av : List Value} {wc : va_W} {sz : Nat} {Qc : Array Value → State → Outcome → State → Prop} {mc ms : Nat}
theorem met_start (hy : plainName y.cls = true) (hn : (lg_sl av).length ≤ maxL)
    (body : ∀ p e s m below meth c, CallFix p m c bytes maxL s av.toArray gtbl y.cls → meth.sig.returnType = ret → meth.locks = false → meth.name = y.name → va_K G.1 vwCl (tyG G) s → va_P G.1 vwCl wc s.heap → va_D (va_A wc sz) wc → (∀ q : Nat, s.heap.size ≤ q → va_A wc sz q) → va_S (va_A wc sz) s.heap s.heap [] → XF G (va_A wc sz) s → ∀ ls, lv_has ls maxL (lv_args 0 av) →
      W p l e rm s m av.toArray below meth c s.heap [] 0 0 (MQ below Qc av.toArray s mc ms (va_A wc sz)) (F0 m 0 ls [])) :
    Met l y (.code y bytes maxL ret :: gtbl) rm (PcS G av wc sz) Qc mc ms (va_A wc sz) := by
  refine Met.ofW (cc := bytes) (maxL := maxL) (ret := ret) hy rfl ?_
  intro p e s m args below meth c s₁ B hml hv
  obtain ⟨rfl, hsz, hP, hK, hD0, hX⟩ := hv
  have hts := atoms_spec (ws := .code y bytes maxL ret :: gtbl) B.pre
  have hown : s.vm.findClass y.cls = some m.cls := findClass_of_methodNamed B.named
  have hl := lv_entry av (n := maxL) hn
  rw [lg_entry_eq]
  exact body p e s m below meth c ⟨B.exec, B.bytes, hml, hown, fun w hw => hts w (List.mem_cons_of_mem _ hw)⟩ B.returns B.notSynchronized (name_of_methodNamed B.named B.method).1 hK hP hD0.self (fun q h => Or.inr (hsz ▸ h)) va_S.rf hX _ hl
end Start
section Ends
variable {p : Program} {l : Launch} {e : Env} {R : Room} {s : State} {m : MethodId} {args : Array Value} {below : List Frame} {meth : Method} {c : Code} {H : Heap} {locs : List Loc} {cells slots : Nat} {cc : ByteArray} {pc : Nat} {ls : Array Slot} {G : GG} {A : Nat → Prop} {w1 : va_W}
theorem ret_i {r0 : Int32} (hx : p.tables.exec = Jvm.exec) (hb : c.code = cc) (hr : meth.sig.returnType = some .int) (hlk : meth.locks = false) (hK : va_K G.1 vwCl (tyG G) s) (hP : va_P G.1 vwCl w1 H) (hD : va_D A w1) (hS : va_S A s.heap H locs) (hdg : decode cc pc = .ok (.ireturn, 1)) :
    W p l e R s m args below meth c H locs cells slots (MQ below (QiS G r0 A w1) args s cells slots A) (F0 m pc ls [.int r0]) :=
  W.iret hx hb hr (fun t ht hW => ⟨⟨r0, (), rfl, rfl, by rw [ht]; exact hP, va_K.moved hW.alike hK, hD⟩, hS.F ht⟩) hS.2.2 hdg hlk
theorem ret_z {r0 : Int32} (hx : p.tables.exec = Jvm.exec) (hb : c.code = cc) (hr : meth.sig.returnType = some .boolean) (hlk : meth.locks = false) (hK : va_K G.1 vwCl (tyG G) s) (hP : va_P G.1 vwCl w1 H) (hD : va_D A w1) (hS : va_S A s.heap H locs) (hz : r0 = 0 ∨ r0 = 1) (hdg : decode cc pc = .ok (.ireturn, 1)) :
    W p l e R s m args below meth c H locs cells slots (MQ below (QiS G r0 A w1) args s cells slots A) (F0 m pc ls [.int r0]) :=
  W.zret hx hb hr (by rcases hz with rfl | rfl <;> rfl) (fun t ht hW => ⟨⟨r0, (), rfl, rfl, by rw [ht]; exact hP, va_K.moved hW.alike hK, hD⟩, hS.F ht⟩) hS.2.2 hdg hlk
theorem ret_v (hx : p.tables.exec = Jvm.exec) (hb : c.code = cc) (hr : meth.sig.returnType = none) (hlk : meth.locks = false) (hK : va_K G.1 vwCl (tyG G) s) (hP : va_P G.1 vwCl w1 H) (hD : va_D A w1) (hS : va_S A s.heap H locs) (hdg : decode cc pc = .ok (.return_, 1)) :
    W p l e R s m args below meth c H locs cells slots (MQ below (QvS G A w1) args s cells slots A) (F0 m pc ls []) :=
  W.vret hx hb hr (fun t ht hW => ⟨⟨(), rfl, trivial, by rw [ht]; exact hP, va_K.moved hW.alike hK, hD⟩, hS.F ht⟩) hS.2.2 hdg hlk
theorem ret_r {a0 : Nat} {C : String} (hx : p.tables.exec = Jvm.exec) (hb : c.code = cc) (hr : meth.sig.returnType = some (.object C)) (hlk : meth.locks = false) (hK : va_K G.1 vwCl (tyG G) s) (hP : va_P G.1 vwCl w1 H) (hD : va_D A w1) (hS : va_S A s.heap H locs) (hdg : decode cc pc = .ok (.areturn, 1)) :
    W p l e R s m args below meth c H locs cells slots (MQ below (QrS G a0 A w1) args s cells slots A) (F0 m pc ls [.ref a0]) :=
  W.aret hx hb hr (Or.inl ⟨_, rfl⟩) (Or.inr ⟨_, rfl⟩) (fun t ht hW => ⟨⟨(), a0, rfl, trivial, rfl, by rw [ht]; exact hP, va_K.moved hW.alike hK, hD⟩, hS.F ht⟩) hS.2.2 hdg hlk
theorem ret_n {r0 : Int32} {ty : FieldType} (hx : p.tables.exec = Jvm.exec) (hb : c.code = cc) (hr : meth.sig.returnType = some ty) (hlk : meth.locks = false) (hK : va_K G.1 vwCl (tyG G) s) (hP : va_P G.1 vwCl w1 H) (hD : va_D A w1) (hS : va_S A s.heap H locs) (hz : narrow ty (.int r0) = .int r0) (hdg : decode cc pc = .ok (.ireturn, 1)) :
    W p l e R s m args below meth c H locs cells slots (MQ below (QiS G r0 A w1) args s cells slots A) (F0 m pc ls [.int r0]) :=
  W.zret hx hb hr hz (fun t ht hW => ⟨⟨r0, (), rfl, rfl, by rw [ht]; exact hP, va_K.moved hW.alike hK, hD⟩, hS.F ht⟩) hS.2.2 hdg hlk
end Ends
/-- what a call needs to know of a method that is called on an object, or on none -/
def ykV (y : MethodName) (C : String) (bytes : ByteArray) (maxL : Nat) (ret : Option FieldType) (n : Nat) : Prop := Cond.instanceMethod y ∈ gtbl ∧ Cond.selects C y y ∈ gtbl ∧ Cond.initialized C ∈ gtbl ∧ Cond.code y bytes maxL ret ∈ gtbl ∧ y.cls = C ∧ y.cls ≠ "java/lang/invoke/MethodHandle" ∧ y.cls ≠ "java/lang/invoke/VarHandle" ∧ (parseMethodDescriptor y.desc).map (fun d => d.parameters.length) = some n
def ykS (y : MethodName) (bytes : ByteArray) (maxL : Nat) (ret : Option FieldType) (n : Nat) : Prop := Cond.static y ∈ gtbl ∧ Cond.initialized y.cls ∈ gtbl ∧ Cond.code y bytes maxL ret ∈ gtbl ∧ y.cls ≠ "java/lang/invoke/MethodHandle" ∧ y.cls ≠ "java/lang/invoke/VarHandle" ∧ (parseMethodDescriptor y.desc).map (fun d => d.parameters.length) = some n
theorem good_gtbl {w : Cond} (h : w ∈ gtbl) : (w.onTables && w.keeps) = true ∨ ∃ ty, w = .arrayClass ty := good_of_word (gtbl_good h)
theorem gd_code {y : MethodName} {bytes : ByteArray} {maxL : Nat} {ret : Option FieldType} (h : Cond.code y bytes maxL ret ∈ gtbl) : GoodIn gtbl (.code y bytes maxL ret :: gtbl) := by
  intro w hw
  rcases List.mem_cons.mp hw with rfl | hw
  · exact ⟨h, good_gtbl h⟩
  · exact ⟨hw, good_gtbl hw⟩
theorem gd_V {own C : String} {index : Nat} {y : MethodName} {bytes : ByteArray} {maxL : Nat} {ret : Option FieldType} {n : Nat} (hy : ykV y C bytes maxL ret n) (hl : Cond.methodLink own index y ∈ gtbl) : GoodIn gtbl (wsV own index C y (.code y bytes maxL ret :: gtbl)) := by
  intro w hw
  rcases List.mem_append.mp hw with hw | hw
  · simp only [List.mem_cons, List.not_mem_nil, or_false] at hw
    rcases hw with rfl | rfl | rfl | rfl
    · exact ⟨hl, good_gtbl hl⟩
    · exact ⟨hy.1, good_gtbl hy.1⟩
    · exact ⟨hy.2.1, good_gtbl hy.2.1⟩
    · exact ⟨hy.2.2.1, good_gtbl hy.2.2.1⟩
  · exact gd_code hy.2.2.2.1 w hw
section Calls
variable {p : Program} {l : Launch} {e : Env} {R rm : Room} {s : State} {m : MethodId} {args : Array Value} {below : List Frame} {meth : Method} {c : Code} {H H0 : Heap} {locs : List Loc} {cells slots : Nat} {Q : State → Prop} {cc bytes : ByteArray} {pc : Nat} {ls : Array Slot} {G : GG} {A : Nat → Prop} {ws wc w1 w2 : va_W} {own C : String} {y : MethodName} {maxL n index nL : Nat} {ret : Option FieldType} {As rest st0 : List Value}
theorem cl_join (hP : va_P G.1 vwCl ws H) (hD : va_D A ws) (hS : va_S A H0 H locs) (hA : ∀ q : Nat, H0.size ≤ q → A q) (isC isR perm : List Nat)
    (hC : isC.map (fun i => ws[i]?) = wc.map some) (hR : isR.map (fun i => ws[i]?) = (isR.filterMap (fun i => ws[i]?)).map some) (hn : va_nd isR = true) (hdis : ∀ i ∈ isR, i ∉ isC) (hpn : va_nd perm = true) (hpm : perm.map (fun i => (isR.filterMap (fun i => ws[i]?) ++ w1)[i]?) = w2.map some)
    {H1 : Heap} (hk : ∀ q : Nat, q < H.size → ¬ va_A wc H.size q → H1[q]? = H[q]?) (hP1 : va_P G.1 vwCl w1 H1) (hD1 : va_D (va_A wc H.size) w1) : va_P G.1 vwCl w2 H1 ∧ va_D A w2 := by
  have hF := va_free hD hS hA isC hC
  obtain ⟨h1, h2⟩ := va_join hP hD isC isR hC hR hn hdis hk hF hP1 hD1
  exact ⟨h1.sub perm (fm_of_map hpm), h2.sub perm hpn hpm⟩
theorem cl_pre (hX : XF G A s) (hA : ∀ q : Nat, s.heap.size ≤ q → A q) (hS : va_S A s.heap H locs) (hK : va_K G.1 vwCl (tyG G) s) (hP : va_P G.1 vwCl ws H) (hD : va_D A ws) (isC : List Nat) (hcn : va_nd isC = true) (hC : isC.map (fun i => ws[i]?) = wc.map some) (av : List Value) : ∀ U : State, U.heap = H → s.WarmedH U.vm → PcS G av wc H.size av.toArray U := fun U hU hW =>
  ⟨rfl, by rw [hU], by rw [hU]; exact hP.sub isC (fm_of_map hC), va_K.moved hW.alike hK, (hD.sub isC hcn hC).weaken (fun _ _ _ _ => trivial), hX.pre hS (va_free hD hS hA isC hC) hU hW⟩
theorem cl_Vi {r0 : Int32} {b : Nat} (S : CallFix p m c cc nL s args gtbl own)
    (hM : Met l y (.code y bytes maxL ret :: gtbl) rm (PcS G (.ref b :: As) wc H.size) (QiS G r0 (va_A wc H.size) w1) 0 0 (va_A wc H.size)) (hy : ykV y C bytes maxL ret n) (hl : Cond.methodLink own index y ∈ gtbl)
    (hrm : rm.cells = 0 ∧ rm.slots = 0 ∧ rm.frames + 1 ≤ R.frames ∧ 8 + (maxL + 11) + rm.locals ≤ R.locals) (hrc : cells + 0 ≤ R.cells ∧ slots + 0 ≤ R.slots)
    (hX : XF G A s) (hK : va_K G.1 vwCl (tyG G) s) (hP : va_P G.1 vwCl ws H) (hD : va_D A ws) (hS : va_S A s.heap H locs) (hA : ∀ q : Nat, s.heap.size ≤ q → A q) (isC isR perm : List Nat) (hrv : ∃ cell : Cell, H[b]? = some cell ∧ cell.vm.isStatics = false ∧ s.vm.findClass C = some cell.cls)
    (hcn : va_nd isC = true) (hn : va_nd isR = true) (hdis : ∀ i ∈ isR, i ∉ isC) (hpn : va_nd perm = true) (hC : isC.map (fun i => ws[i]?) = wc.map some) (hR : isR.map (fun i => ws[i]?) = (isR.filterMap (fun i => ws[i]?)).map some) (hpm : perm.map (fun i => (isR.filterMap (fun i => ws[i]?) ++ w1)[i]?) = w2.map some)
    (hlen : As.length = n) (hsize : ls.size = nL) (hst : st0 = As.reverse ++ .ref b :: rest) (hrest : (rest.map fun v => v.category).sum ≤ 8) (hdg : decode cc pc = .ok (.invokevirtual index, 3))
    (kk : ∀ (H : Heap) (locs : List Loc), va_P G.1 vwCl w2 H → va_D A w2 → va_S A s.heap H locs → W p l e R s m args below meth c H locs cells slots Q (F0 m (pc + 3) ls (.int r0 :: rest))) : W p l e R s m args below meth c H locs cells slots Q (F0 m pc ls st0) := by
  have hF := va_free hD hS hA isC hC
  refine va_calli (va_runV (As := As) (rest := rest) S hM (cwV n S.2.2.2.2 (gd_V hy hl) rfl hrm.1 hrm.2.1 ⟨hy.2.2.2.2.1, hy.2.2.2.2.2⟩ hrm.2.2) ⟨PcS_blind, hrv, cl_pre hX hA hS hK hP hD isC hcn hC (.ref b :: As)⟩ rfl hlen hsize hst (lv_room hrest) hdg hrc) hS (fun q _ h => hF q h) hF (fun r u t H1 locs1 ht hvm hw hB hz1 hk1 hS1 => ?_)
  obtain ⟨hP1, -, hD1⟩ := hB
  rw [ht] at hP1
  obtain ⟨hP2, hD2⟩ := cl_join hP hD hS hA isC isR perm hC hR hn hdis hpn hpm hk1 hP1 hD1
  have hw : r = r0 := hw
  rw [hw]
  exact kk H1 locs1 hP2 hD2 hS1
theorem cl_Vv {b : Nat} (S : CallFix p m c cc nL s args gtbl own)
    (hM : Met l y (.code y bytes maxL ret :: gtbl) rm (PcS G (.ref b :: As) wc H.size) (QvS G (va_A wc H.size) w1) 0 0 (va_A wc H.size)) (hy : ykV y C bytes maxL ret n) (hl : Cond.methodLink own index y ∈ gtbl)
    (hrm : rm.cells = 0 ∧ rm.slots = 0 ∧ rm.frames + 1 ≤ R.frames ∧ 8 + (maxL + 11) + rm.locals ≤ R.locals) (hrc : cells + 0 ≤ R.cells ∧ slots + 0 ≤ R.slots)
    (hX : XF G A s) (hK : va_K G.1 vwCl (tyG G) s) (hP : va_P G.1 vwCl ws H) (hD : va_D A ws) (hS : va_S A s.heap H locs) (hA : ∀ q : Nat, s.heap.size ≤ q → A q) (isC isR perm : List Nat) (hrv : ∃ cell : Cell, H[b]? = some cell ∧ cell.vm.isStatics = false ∧ s.vm.findClass C = some cell.cls)
    (hcn : va_nd isC = true) (hn : va_nd isR = true) (hdis : ∀ i ∈ isR, i ∉ isC) (hpn : va_nd perm = true) (hC : isC.map (fun i => ws[i]?) = wc.map some) (hR : isR.map (fun i => ws[i]?) = (isR.filterMap (fun i => ws[i]?)).map some) (hpm : perm.map (fun i => (isR.filterMap (fun i => ws[i]?) ++ w1)[i]?) = w2.map some)
    (hlen : As.length = n) (hsize : ls.size = nL) (hst : st0 = As.reverse ++ .ref b :: rest) (hrest : (rest.map fun v => v.category).sum ≤ 8) (hdg : decode cc pc = .ok (.invokevirtual index, 3))
    (kk : ∀ (H : Heap) (locs : List Loc), va_P G.1 vwCl w2 H → va_D A w2 → va_S A s.heap H locs → W p l e R s m args below meth c H locs cells slots Q (F0 m (pc + 3) ls rest)) : W p l e R s m args below meth c H locs cells slots Q (F0 m pc ls st0) := by
  have hF := va_free hD hS hA isC hC
  refine va_callv (va_runV (As := As) (rest := rest) S hM (cwV n S.2.2.2.2 (gd_V hy hl) rfl hrm.1 hrm.2.1 ⟨hy.2.2.2.2.1, hy.2.2.2.2.2⟩ hrm.2.2) ⟨PcS_blind, hrv, cl_pre hX hA hS hK hP hD isC hcn hC (.ref b :: As)⟩ rfl hlen hsize hst (lv_room hrest) hdg hrc) hS (fun q _ h => hF q h) hF (fun u t H1 locs1 ht hvm hw hB hz1 hk1 hS1 => ?_)
  obtain ⟨hP1, -, hD1⟩ := hB
  rw [ht] at hP1
  obtain ⟨hP2, hD2⟩ := cl_join hP hD hS hA isC isR perm hC hR hn hdis hpn hpm hk1 hP1 hD1
  exact kk H1 locs1 hP2 hD2 hS1
theorem cl_Vr {a0 b : Nat} (S : CallFix p m c cc nL s args gtbl own)
    (hM : Met l y (.code y bytes maxL ret :: gtbl) rm (PcS G (.ref b :: As) wc H.size) (QrS G a0 (va_A wc H.size) w1) 0 0 (va_A wc H.size)) (hy : ykV y C bytes maxL ret n) (hl : Cond.methodLink own index y ∈ gtbl)
    (hrm : rm.cells = 0 ∧ rm.slots = 0 ∧ rm.frames + 1 ≤ R.frames ∧ 8 + (maxL + 11) + rm.locals ≤ R.locals) (hrc : cells + 0 ≤ R.cells ∧ slots + 0 ≤ R.slots)
    (hX : XF G A s) (hK : va_K G.1 vwCl (tyG G) s) (hP : va_P G.1 vwCl ws H) (hD : va_D A ws) (hS : va_S A s.heap H locs) (hA : ∀ q : Nat, s.heap.size ≤ q → A q) (isC isR perm : List Nat) (hrv : ∃ cell : Cell, H[b]? = some cell ∧ cell.vm.isStatics = false ∧ s.vm.findClass C = some cell.cls)
    (hcn : va_nd isC = true) (hn : va_nd isR = true) (hdis : ∀ i ∈ isR, i ∉ isC) (hpn : va_nd perm = true) (hC : isC.map (fun i => ws[i]?) = wc.map some) (hR : isR.map (fun i => ws[i]?) = (isR.filterMap (fun i => ws[i]?)).map some) (hpm : perm.map (fun i => (isR.filterMap (fun i => ws[i]?) ++ w1)[i]?) = w2.map some)
    (hlen : As.length = n) (hsize : ls.size = nL) (hst : st0 = As.reverse ++ .ref b :: rest) (hrest : (rest.map fun v => v.category).sum ≤ 8) (hdg : decode cc pc = .ok (.invokevirtual index, 3))
    (kk : ∀ (H : Heap) (locs : List Loc), va_P G.1 vwCl w2 H → va_D A w2 → va_S A s.heap H locs → W p l e R s m args below meth c H locs cells slots Q (F0 m (pc + 3) ls (.ref a0 :: rest))) : W p l e R s m args below meth c H locs cells slots Q (F0 m pc ls st0) := by
  have hF := va_free hD hS hA isC hC
  refine va_callr (va_runV (As := As) (rest := rest) S hM (cwV n S.2.2.2.2 (gd_V hy hl) rfl hrm.1 hrm.2.1 ⟨hy.2.2.2.2.1, hy.2.2.2.2.2⟩ hrm.2.2) ⟨PcS_blind, hrv, cl_pre hX hA hS hK hP hD isC hcn hC (.ref b :: As)⟩ rfl hlen hsize hst (lv_room hrest) hdg hrc) hS (fun q _ h => hF q h) hF (fun u a t H1 locs1 ht hvm hw hB hz1 hk1 hS1 => ?_)
  obtain ⟨rfl, hP1, -, hD1⟩ := hB
  rw [ht] at hP1
  obtain ⟨hP2, hD2⟩ := cl_join hP hD hS hA isC isR perm hC hR hn hdis hpn hpm hk1 hP1 hD1
  exact kk H1 locs1 hP2 hD2 hS1
theorem cl_Si {r0 : Int32} (S : CallFix p m c cc nL s args gtbl own)
    (hM : Met l y (.code y bytes maxL ret :: gtbl) rm (PcS G As wc H.size) (QiS G r0 (va_A wc H.size) w1) 0 0 (va_A wc H.size)) (hy : ykS y bytes maxL ret n) (hl : Cond.methodLink own index y ∈ gtbl)
    (hrm : rm.cells = 0 ∧ rm.slots = 0 ∧ rm.frames + 1 ≤ R.frames ∧ 8 + (maxL + 11) + rm.locals ≤ R.locals) (hrc : cells + 0 ≤ R.cells ∧ slots + 0 ≤ R.slots)
    (hX : XF G A s) (hK : va_K G.1 vwCl (tyG G) s) (hP : va_P G.1 vwCl ws H) (hD : va_D A ws) (hS : va_S A s.heap H locs) (hA : ∀ q : Nat, s.heap.size ≤ q → A q) (isC isR perm : List Nat)
    (hcn : va_nd isC = true) (hn : va_nd isR = true) (hdis : ∀ i ∈ isR, i ∉ isC) (hpn : va_nd perm = true) (hC : isC.map (fun i => ws[i]?) = wc.map some) (hR : isR.map (fun i => ws[i]?) = (isR.filterMap (fun i => ws[i]?)).map some) (hpm : perm.map (fun i => (isR.filterMap (fun i => ws[i]?) ++ w1)[i]?) = w2.map some)
    (hlen : As.length = n) (hsize : ls.size = nL) (hst : st0 = As.reverse ++ rest) (hrest : (rest.map fun v => v.category).sum ≤ 8) (hdg : decode cc pc = .ok (.invokestatic index, 3))
    (kk : ∀ (H : Heap) (locs : List Loc), va_P G.1 vwCl w2 H → va_D A w2 → va_S A s.heap H locs → W p l e R s m args below meth c H locs cells slots Q (F0 m (pc + 3) ls (.int r0 :: rest))) : W p l e R s m args below meth c H locs cells slots Q (F0 m pc ls st0) := by
  have hF := va_free hD hS hA isC hC
  refine va_calli (va_runS (As := As) (rest := rest) S hM ⟨callB_of n S.2.2.2.2 (gd_code hy.2.2.1) rfl hrm.1 hrm.2.1 (S.2.2.2.2 _ hy.2.1) (S.2.2.2.2 _ hl) hy.2.2.2 hrm.2.2, S.2.2.2.2 _ hy.1⟩ ⟨PcS_blind, cl_pre hX hA hS hK hP hD isC hcn hC As⟩ rfl hlen hsize hst (lv_room hrest) hdg hrc) hS (fun q _ h => hF q h) hF (fun r u t H1 locs1 ht hvm hw hB hz1 hk1 hS1 => ?_)
  obtain ⟨hP1, -, hD1⟩ := hB
  rw [ht] at hP1
  obtain ⟨hP2, hD2⟩ := cl_join hP hD hS hA isC isR perm hC hR hn hdis hpn hpm hk1 hP1 hD1
  have hw : r = r0 := hw
  rw [hw]
  exact kk H1 locs1 hP2 hD2 hS1
theorem cl_SNi {host : String} {r0 : Int32} (S : CallFix p m c cc nL s args gtbl own)
    (hM : Met l y (.code y bytes maxL ret :: gtbl) rm (PcS G As wc H.size) (QiS G r0 (va_A wc H.size) w1) 0 0 (va_A wc H.size)) (hy : ykS y bytes maxL ret n) (hl : Cond.methodLinkNest own index y host ∈ nestL)
    (hrm : rm.cells = 0 ∧ rm.slots = 0 ∧ rm.frames + 1 ≤ R.frames ∧ 8 + (maxL + 11) + rm.locals ≤ R.locals) (hrc : cells + 0 ≤ R.cells ∧ slots + 0 ≤ R.slots)
    (hX : XF G A s) (hK : va_K G.1 vwCl (tyG G) s) (hP : va_P G.1 vwCl ws H) (hD : va_D A ws) (hS : va_S A s.heap H locs) (hA : ∀ q : Nat, s.heap.size ≤ q → A q) (isC isR perm : List Nat)
    (hcn : va_nd isC = true) (hn : va_nd isR = true) (hdis : ∀ i ∈ isR, i ∉ isC) (hpn : va_nd perm = true) (hC : isC.map (fun i => ws[i]?) = wc.map some) (hR : isR.map (fun i => ws[i]?) = (isR.filterMap (fun i => ws[i]?)).map some) (hpm : perm.map (fun i => (isR.filterMap (fun i => ws[i]?) ++ w1)[i]?) = w2.map some)
    (hlen : As.length = n) (hsize : ls.size = nL) (hst : st0 = As.reverse ++ rest) (hrest : (rest.map fun v => v.category).sum ≤ 8) (hdg : decode cc pc = .ok (.invokestatic index, 3))
    (kk : ∀ (H : Heap) (locs : List Loc), va_P G.1 vwCl w2 H → va_D A w2 → va_S A s.heap H locs → W p l e R s m args below meth c H locs cells slots Q (F0 m (pc + 3) ls (.int r0 :: rest))) : W p l e R s m args below meth c H locs cells slots Q (F0 m pc ls st0) := by
  have hF := va_free hD hS hA isC hC
  refine va_calli (va_runSN (As := As) (rest := rest) S hM ⟨va_cnB n S.2.2.2.2 (gd_code hy.2.2.1) rfl hrm.1 hrm.2.1 (hX.1 _ hl) (S.2.2.2.2 _ hy.2.1) hy.2.2.2 hrm.2.2, S.2.2.2.2 _ hy.1, trivial⟩ ⟨PcS_blind, cl_pre hX hA hS hK hP hD isC hcn hC As⟩ rfl hlen hsize hst (lv_room hrest) hdg hrc) hS (fun q _ h => hF q h) hF (fun r u t H1 locs1 ht hvm hw hB hz1 hk1 hS1 => ?_)
  obtain ⟨hP1, -, hD1⟩ := hB
  rw [ht] at hP1
  obtain ⟨hP2, hD2⟩ := cl_join hP hD hS hA isC isR perm hC hR hn hdis hpn hpm hk1 hP1 hD1
  have hw : r = r0 := hw
  rw [hw]
  exact kk H1 locs1 hP2 hD2 hS1
theorem cl_Sv (S : CallFix p m c cc nL s args gtbl own)
    (hM : Met l y (.code y bytes maxL ret :: gtbl) rm (PcS G As wc H.size) (QvS G (va_A wc H.size) w1) 0 0 (va_A wc H.size)) (hy : ykS y bytes maxL ret n) (hl : Cond.methodLink own index y ∈ gtbl)
    (hrm : rm.cells = 0 ∧ rm.slots = 0 ∧ rm.frames + 1 ≤ R.frames ∧ 8 + (maxL + 11) + rm.locals ≤ R.locals) (hrc : cells + 0 ≤ R.cells ∧ slots + 0 ≤ R.slots)
    (hX : XF G A s) (hK : va_K G.1 vwCl (tyG G) s) (hP : va_P G.1 vwCl ws H) (hD : va_D A ws) (hS : va_S A s.heap H locs) (hA : ∀ q : Nat, s.heap.size ≤ q → A q) (isC isR perm : List Nat)
    (hcn : va_nd isC = true) (hn : va_nd isR = true) (hdis : ∀ i ∈ isR, i ∉ isC) (hpn : va_nd perm = true) (hC : isC.map (fun i => ws[i]?) = wc.map some) (hR : isR.map (fun i => ws[i]?) = (isR.filterMap (fun i => ws[i]?)).map some) (hpm : perm.map (fun i => (isR.filterMap (fun i => ws[i]?) ++ w1)[i]?) = w2.map some)
    (hlen : As.length = n) (hsize : ls.size = nL) (hst : st0 = As.reverse ++ rest) (hrest : (rest.map fun v => v.category).sum ≤ 8) (hdg : decode cc pc = .ok (.invokestatic index, 3))
    (kk : ∀ (H : Heap) (locs : List Loc), va_P G.1 vwCl w2 H → va_D A w2 → va_S A s.heap H locs → W p l e R s m args below meth c H locs cells slots Q (F0 m (pc + 3) ls rest)) : W p l e R s m args below meth c H locs cells slots Q (F0 m pc ls st0) := by
  have hF := va_free hD hS hA isC hC
  refine va_callv (va_runS (As := As) (rest := rest) S hM ⟨callB_of n S.2.2.2.2 (gd_code hy.2.2.1) rfl hrm.1 hrm.2.1 (S.2.2.2.2 _ hy.2.1) (S.2.2.2.2 _ hl) hy.2.2.2 hrm.2.2, S.2.2.2.2 _ hy.1⟩ ⟨PcS_blind, cl_pre hX hA hS hK hP hD isC hcn hC As⟩ rfl hlen hsize hst (lv_room hrest) hdg hrc) hS (fun q _ h => hF q h) hF (fun u t H1 locs1 ht hvm hw hB hz1 hk1 hS1 => ?_)
  obtain ⟨hP1, -, hD1⟩ := hB
  rw [ht] at hP1
  obtain ⟨hP2, hD2⟩ := cl_join hP hD hS hA isC isR perm hC hR hn hdis hpn hpm hk1 hP1 hD1
  exact kk H1 locs1 hP2 hD2 hS1
end Calls
theorem of_jlet {α β : Type} {e x : α} {k : α → β} {r : β} (h : jlet e k = r) (ex : x = e) : k x = r := by rw [ex]; exact h
theorem bz_n {v : Int32} (h : v = 0 ∨ v = 1) : narrow .boolean (.int v) = .int v := by rcases h with rfl | rfl <;> rfl
theorem bz_f {v : Int32} (h : v = 0 ∨ v = 1) : fits .boolean (.int v) = true := by rcases h with rfl | rfl <;> rfl
