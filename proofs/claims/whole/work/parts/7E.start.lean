/-! what is known at the law's entry -/
def tmJS : Nat → Term := fun i => .string "OddColumns$Script" (kJS.getD i 0)
theorem NW_start {args : Array Value} {s : State} (hts : ∀ w ∈ lw_tbl, w.before args s = true) : NW s :=
  List.forall_mem_cons.mpr ⟨va_Nw.of rfl (hts _ wn_157), List.forall_mem_cons.mpr ⟨va_Nw.of rfl (hts _ wn_163), List.forall_mem_cons.mpr ⟨va_Nw.of rfl (hts _ wn_179), List.forall_mem_cons.mpr ⟨va_Nw.of rfl (hts _ wn_205), List.forall_mem_cons.mpr ⟨va_Nw.of rfl (hts _ wn_308), List.forall_mem_cons.mpr ⟨va_Nw.of rfl (hts _ wn_313), List.forall_mem_cons.mpr ⟨va_Nw.of rfl (hts _ wn_316), List.forall_mem_cons.mpr ⟨va_Nw.of rfl (hts _ wn_363), List.forall_mem_cons.mpr ⟨va_Nw.of rfl (hts _ wn_366), List.forall_mem_cons.mpr ⟨va_Nw.of rfl (hts _ wn_387), List.forall_mem_cons.mpr ⟨va_Nw.of rfl (hts _ wn_392), List.forall_mem_cons.mpr ⟨va_Nw.of rfl (hts _ wn_394), List.forall_mem_cons.mpr ⟨va_Nw.of rfl (hts _ wn_422), List.forall_mem_cons.mpr ⟨va_Nw.of rfl (hts _ wn_455), List.forall_mem_cons.mpr ⟨va_Nw.of rfl (hts _ wn_457), List.forall_mem_cons.mpr ⟨va_Nw.of rfl (hts _ wn_834), fun _ h => absurd h List.not_mem_nil⟩⟩⟩⟩⟩⟩⟩⟩⟩⟩⟩⟩⟩⟩⟩⟩
theorem sj_ex : ∀ i : Nat, i < 9 → Cond.exactly (tmJS i) "java/lang/String" ∈ flatC (Jvm.Cond.and given_1 narrow_1) := by decide +kernel
theorem sj_co : ∀ i : Nat, i < 9 → Cond.eq (.field (tmJS i) "java/lang/String" "coder" "B") (.int 0) ∈ flatC (Jvm.Cond.and given_1 narrow_1) := by decide +kernel
theorem sj_ar : ∀ i : Nat, i < 9 → Cond.arrayOf (.field (tmJS i) "java/lang/String" "value" "[B") .byte ∈ flatC (Jvm.Cond.and given_1 narrow_1) := by decide +kernel
theorem sj_le : ∀ i : Nat, i < 9 → Cond.eq (.length (.field (tmJS i) "java/lang/String" "value" "[B")) (.int (Int32.ofNat (lenJS.getD i 0))) ∈ flatC (Jvm.Cond.and given_1 narrow_1) := by decide +kernel
theorem sj_el : ∀ i : Nat, i < 9 → ∀ j : Nat, j < lenJS.getD i 0 → Cond.eq (.elem (.field (tmJS i) "java/lang/String" "value" "[B") (.int (Int32.ofNat j))) (.int ((bytJS.getD i []).getD j 0)) ∈ flatC (Jvm.Cond.and given_1 narrow_1) := by decide +kernel
theorem sj_ne : ∀ i : Nat, i < 9 → ∀ j : Nat, j < 9 → i ≠ j → Cond.not (Cond.eq (tmJS i) (tmJS j)) ∈ flatC (Jvm.Cond.and given_1 narrow_1) ∨ Cond.not (Cond.eq (tmJS j) (tmJS i)) ∈ flatC (Jvm.Cond.and given_1 narrow_1) := by decide +kernel
theorem sj_c : Cond.eq (.static "java/lang/String" "COMPACT_STRINGS" "Z") (.int 1) ∈ flatC (Jvm.Cond.and given_1 narrow_1) := by decide +kernel
theorem sj_f : Cond.isRef (.static "jdk/internal/util/Preconditions" "SIOOBE_FORMATTER" "Ljava/util/function/BiFunction;") ∈ flatC (Jvm.Cond.and given_1 narrow_1) := by decide +kernel
theorem sj_n : ∀ i : Nat, i < 9 → lenJS.getD i 0 < 2 ^ 31 := by decide +kernel
theorem sj_r {args : Array Value} {s : State} (hts : ∀ w ∈ lw_tbl, w.before args s = true) : ∀ i : Nat, i < 9 → (Cond.stringRef "OddColumns$Script" (kJS.getD i 0) (tJS.getD i "")).before args s = true
  | 0, _ => hts _ wn_642
  | 1, _ => hts _ wn_695
  | 2, _ => hts _ wn_709
  | 3, _ => hts _ wn_714
  | 4, _ => hts _ wn_715
  | 5, _ => hts _ wn_716
  | 6, _ => hts _ wn_725
  | 7, _ => hts _ wn_726
  | 8, _ => hts _ wn_727
  | i + 9, h => absurd h (by omega)
theorem AT_start {args : Array Value} {s : State} {t : FieldType} (h : (Cond.arrayClass t).before args s = true) (hs : ∀ c, s.vm.findClass ("[" ++ t.toString) = some c → va_RA s c t) : ∃ c, ArrOfT s c t ∧ va_RA s c t := by
  obtain ⟨c, k, comp, h1, h2, h3⟩ := Cond.arrayClass_spec h
  exact ⟨c, fun N z => ⟨fun k h => (by cases h), k, h2, comp, h3⟩, hs c h1⟩
theorem known_start {args : Array Value} {s : State} (hts : ∀ w ∈ lw_tbl, w.before args s = true) (hgv : (Jvm.Cond.and given_1 narrow_1).before args s = true) : ∃ G : GG, gS G = [] ∧ va_K G.1 vwCl (tyG G) s ∧ ST G (fun q : Nat => s.heap.size ≤ q) s := by
  have ht0 : ∀ w ∈ gtbl, w.before args s = true := fun w hw => hts w (gtbl_sub hw)
  have hfl := flat_of_before _ hgv
  have hA : ∀ a : Nat, a < s.heap.size → ¬ (fun q : Nat => s.heap.size ≤ q) a := fun a h => Nat.not_le.mpr h
  obtain ⟨c0, i0, k0⟩ := u_known (C := RX0) (T := TX0) (N := 6) (n := 6) ht0 iX0 (ht0 _ wd_178)
  obtain ⟨c1, i1, k1⟩ := u_known (C := RX1) (T := TX1) (N := 6) (n := 6) ht0 iX1 (ht0 _ wd_204)
  obtain ⟨c2, i2, k2⟩ := u_known (C := RX2) (T := TX2) (N := 3) (n := 3) ht0 iX2 (ht0 _ wd_365)
  obtain ⟨c3, i3, k3⟩ := u_known (C := RX3) (T := TX3) (N := 15) (n := 15) ht0 iX3 (ht0 _ wd_156)
  obtain ⟨c4, i4, k4⟩ := u_known (C := RX4) (T := TX4) (N := 7) (n := 7) ht0 iX4 (ht0 _ wd_386)
  obtain ⟨c5, i5, k5⟩ := u_known (C := RX5) (T := TX5) (N := 9) (n := 9) ht0 iX5 (ht0 _ wd_421)
  obtain ⟨c6, i6, k6⟩ := u_known (C := RX6) (T := TX6) (N := 2) (n := 2) ht0 iX6 (ht0 _ wd_307)
  obtain ⟨c7, i7, k7⟩ := u_known (C := RX7) (T := TX7) (N := 2) (n := 2) ht0 iX7 (ht0 _ wd_162)
  obtain ⟨c8, i8, k8⟩ := u_known (C := RX8) (T := TX8) (N := 3) (n := 3) ht0 iX8 (ht0 _ wd_300)
  obtain ⟨c9, i9, k9⟩ := u_known (C := RX9) (T := TX9) (N := 5) (n := 5) ht0 iX9 (ht0 _ wd_315)
  obtain ⟨c10, i10, k10⟩ := u_known (C := RX10) (T := TX10) (N := 13) (n := 13) ht0 iX10 (ht0 _ wd_148)
  obtain ⟨c11, i11, k11⟩ := u_known (C := RX11) (T := TX11) (N := 51) (n := 51) ht0 iX11 (ht0 _ wd_1257)
  obtain ⟨D, hD⟩ : ∃ D : va_G, ∀ (k : Nat) (q : vw_C), vwCl[k]? = some q → u_Kn s q.1 q.2.1 q.2.2 (D.1 k) (D.2 k) := by
    refine ⟨(fun k => [c0, c1, c2, c3, c4, c5, c6, c7, c8, c9, c10, c11].getD k c0, fun k => [i0, i1, i2, i3, i4, i5, i6, i7, i8, i9, i10, i11].getD k i0), ?_⟩
    intro k q hq
    match k, hq with
    | 0, hq => cases hq; exact k0
    | 1, hq => cases hq; exact k1
    | 2, hq => cases hq; exact k2
    | 3, hq => cases hq; exact k3
    | 4, hq => cases hq; exact k4
    | 5, hq => cases hq; exact k5
    | 6, hq => cases hq; exact k6
    | 7, hq => cases hq; exact k7
    | 8, hq => cases hq; exact k8
    | 9, hq => cases hq; exact k9
    | 10, hq => cases hq; exact k10
    | 11, hq => cases hq; exact k11
    | k + 12, hq => cases hq
  obtain ⟨a0, ha0⟩ := AT_start (ht0 _ wd_176) (fun c h => h)
  obtain ⟨a1, ha1⟩ := AT_start (ht0 _ wd_202) (fun c h => h)
  obtain ⟨a2, ha2⟩ := AT_start (ht0 _ wd_782) (fun c h => h)
  obtain ⟨a3, ha3⟩ : ∃ c, ArrOfT s c (.object "OddColumns$State") ∧ va_RA s c (.object "OddColumns$State") := by
    obtain ⟨comp, c, k, h1, h2, h3, h4, h5⟩ := Cond.arrayOver_spec (hts _ wn_306)
    exact ⟨c, fun N z => ⟨fun k h => (by cases h), k, h3, comp, h4⟩, k, comp, h3, h4, h1, h5⟩
  obtain ⟨adK, adV, hs1, hs2⟩ := vk_Sof (N := 9) (tm := tmJS) (len := lenJS) (byt := bytJS) (args := args) (s := s) (A := fun q : Nat => s.heap.size ≤ q) sj_n (fun i hi => hfl _ (sj_ex i hi)) (fun i hi => hfl _ (sj_co i hi)) (fun i hi => hfl _ (sj_ar i hi)) (fun i hi => hfl _ (sj_le i hi)) (fun i hi j hj => hfl _ (sj_el i hi j hj)) (fun i j hi hj hne => (sj_ne i hi j hj hne).imp (hfl _) (hfl _)) hA
  refine ⟨(D, a0, a1, a2, a3, adK, adV, []), rfl, ⟨hD, fun k q hq => ?_⟩, fun i hi => vk_R.of (sj_r hts i hi) (hs2 i hi), hs1, ?_, ?_⟩
  · match k, hq with
    | 0, hq => cases hq; exact ha0
    | 1, hq => cases hq; exact ha1
    | 2, hq => cases hq; exact ha2
    | 3, hq => cases hq; exact ha3
    | k + 4, hq => cases hq
  · exact va_Zof (hts _ (tb_3 50 rfl)) (ht0 _ wd_143) (va_eqi (hfl _ sj_c)) hA
  · exact va_Zqof (hts _ (tb_3 66 rfl)) (ht0 _ wd_145) (hfl _ sj_f) hA
theorem AO_start {args : Array Value} {s : State} (hts : ∀ w ∈ lw_tbl, w.before args s = true) : va_AO "OddColumns$State" s := va_AO.of (hts _ wn_306)
