/-! clusters of States -/
def clu (G : GG) (x : tS) (v : Nx) : va_W := [(x.1, .inr (6, [.ref x.2.1, .ref x.2.2.2.1])),
  (x.2.1, .inr (1, [.int v.1, .int v.2.1, .int v.2.2.1, .ref x.2.2.1.1, .ref x.2.2.1.2.1, .ref x.2.2.1.2.2])), (x.2.2.1.1, .inl (G.2.1, 32, .inl v.2.2.2.1)), (x.2.2.1.2.1, .inl (G.2.1, 256, .inl v.2.2.2.2.1)), (x.2.2.1.2.2, .inl (G.2.1, 256, .inl v.2.2.2.2.2.1)),
  (x.2.2.2.1, .inr (9, [.ref x.2.2.2.2.1, .ref x.2.2.2.2.2.1, .ref x.2.2.2.2.2.2.1, .ref x.2.2.2.2.2.2.2.1, .ref x.2.2.2.2.2.2.2.2])), (x.2.2.2.2.1, .inl (G.2.1, 16, .inl v.2.2.2.2.2.2.1)), (x.2.2.2.2.2.1, .inl (G.2.1, 16, .inl v.2.2.2.2.2.2.2.1)), (x.2.2.2.2.2.2.1, .inl (G.2.1, 16, .inl v.2.2.2.2.2.2.2.2.1)), (x.2.2.2.2.2.2.2.1, .inl (G.2.1, 16, .inl v.2.2.2.2.2.2.2.2.2.1)), (x.2.2.2.2.2.2.2.2, .inl (G.2.1, 8, .inl v.2.2.2.2.2.2.2.2.2.2))]
def v0 : Nx := (8, 5, 0, zA, zA, zA, zA, zA, zA, zA, zA)
theorem wN_clu (G : GG) (x : tS) : wN_X6 G x.1 x.2 = clu G x v0 := rfl
def sk0 : Nat → Bool := fun _ => false
def skA (sk : Nat → Bool) (k : Nat) : Nat → Bool := fun i => sk i || decide (i = k)
def poolS (G : GG) (tl : Nat → tS) (sv : Nat → Nx) (sk : Nat → Bool) : Nat → va_W
  | 0 => []
  | i + 1 => poolS G tl sv sk i ++ (if sk i = true then [] else clu G (tl i) (sv i))
theorem poolN_S (G : GG) (tl : Nat → tS) : ∀ n, poolN G tl n = poolS G tl (fun _ => v0) sk0 n
  | 0 => rfl
  | n + 1 => by
    show poolN G tl n ++ wN_X6 G (tl n).1 (tl n).2 = poolS G tl (fun _ => v0) sk0 n ++ clu G (tl n) v0
    rw [poolN_S G tl n, wN_clu]
theorem poolS_cong {G : GG} {tl : Nat → tS} {sv sv' : Nat → Nx} {sk sk' : Nat → Bool} : ∀ {n : Nat}, (∀ i, i < n → sk' i = sk i ∧ (sk i = false → sv' i = sv i)) → poolS G tl sv' sk' n = poolS G tl sv sk n
  | 0, _ => rfl
  | n + 1, h => by
    show poolS G tl sv' sk' n ++ (if sk' n = true then [] else clu G (tl n) (sv' n)) = poolS G tl sv sk n ++ (if sk n = true then [] else clu G (tl n) (sv n))
    rw [poolS_cong (fun i hi => h i (by omega)), (h n (by omega)).1]
    cases e : sk n with
    | true => rfl
    | false => rw [(h n (by omega)).2 e]
theorem poolS_take {G : GG} {tl : Nat → tS} {sv : Nat → Nx} {sk : Nat → Bool} {k : Nat} (h : sk k = false) : ∀ {n : Nat}, k < n → (poolS G tl sv sk n).Perm (clu G (tl k) (sv k) ++ poolS G tl sv (skA sk k) n)
  | 0, hk => absurd hk (by omega)
  | n + 1, hk => by
    show (poolS G tl sv sk n ++ (if sk n = true then [] else clu G (tl n) (sv n))).Perm (clu G (tl k) (sv k) ++ (poolS G tl sv (skA sk k) n ++ (if skA sk k n = true then [] else clu G (tl n) (sv n))))
    by_cases e : k = n
    · subst e
      have e1 : poolS G tl sv (skA sk k) k = poolS G tl sv sk k := poolS_cong (fun i hi => ⟨by unfold skA; rw [decide_eq_false (by omega), Bool.or_false], fun _ => rfl⟩)
      have e2 : skA sk k k = true := by unfold skA; rw [decide_eq_true rfl, Bool.or_true]
      rw [e1, e2, h, if_pos rfl, if_neg (by decide), List.append_nil]
      exact List.perm_append_comm
    · have e2 : skA sk k n = sk n := by unfold skA; rw [decide_eq_false (by omega), Bool.or_false]
      rw [e2, ← List.append_assoc]
      exact (poolS_take h (by omega)).append_right _
/-- one cluster to the fore -/
theorem perm1 {a m pl x q : va_W} (h : pl.Perm (x ++ q)) : (a ++ m ++ pl).Perm ((a ++ x) ++ (m ++ q)) := by
  have h1 : (a ++ m ++ pl).Perm (a ++ m ++ (x ++ q)) := h.append_left _
  refine h1.trans ?_
  rw [List.append_assoc, List.append_assoc]
  refine List.Perm.append_left a ?_
  rw [← List.append_assoc, ← List.append_assoc]
  exact (List.perm_append_comm).append_right q
theorem perm2 {a m pl x y q : va_W} (h : pl.Perm (x ++ (y ++ q))) : (a ++ m ++ pl).Perm ((a ++ x ++ y) ++ (m ++ q)) := by
  have h0 : pl.Perm ((x ++ y) ++ q) := by rw [List.append_assoc]; exact h
  have h1 : (a ++ m ++ pl).Perm ((a ++ (x ++ y)) ++ (m ++ q)) := perm1 h0
  rw [← List.append_assoc a x y] at h1
  exact h1
theorem pool1 {G : GG} {tl : Nat → tS} {sv : Nat → Nx} {k : Nat} (hk : k < 15) (a m : va_W) : (a ++ m ++ poolS G tl sv sk0 15).Perm ((a ++ clu G (tl k) (sv k)) ++ (m ++ poolS G tl sv (skA sk0 k) 15)) := perm1 (poolS_take rfl hk)
theorem pool2 {G : GG} {tl : Nat → tS} {sv : Nat → Nx} {k j : Nat} (hk : k < 15) (hj : j < 15) (hne : k ≠ j) (a m : va_W) : (a ++ m ++ poolS G tl sv sk0 15).Perm ((a ++ clu G (tl k) (sv k) ++ clu G (tl j) (sv j)) ++ (m ++ poolS G tl sv (skA (skA sk0 k) j) 15)) :=
  perm2 ((poolS_take rfl hk).trans ((poolS_take (sk := skA sk0 k) (by unfold skA sk0; rw [decide_eq_false (Ne.symm hne)]; rfl) hj).append_left _))
/-- back again, with one cluster changed -/
theorem pool1_back {G : GG} {tl : Nat → tS} {sv : Nat → Nx} {k : Nat} (hk : k < 15) (v : Nx) (a m : va_W) : ((a ++ clu G (tl k) v) ++ (m ++ poolS G tl sv (skA sk0 k) 15)).Perm (a ++ m ++ poolS G tl (svU sv k v) sk0 15) := by
  have h := pool1 (G := G) (tl := tl) (sv := svU sv k v) hk a m
  rw [svU_at, poolS_cong (sv := sv) (sk := skA sk0 k) (fun i hi => ⟨rfl, fun e => svU_ne (fun q => by subst q; unfold skA at e; rw [decide_eq_true rfl, Bool.or_true] at e; cases e)⟩)] at h
  exact h.symm
theorem pool2_back {G : GG} {tl : Nat → tS} {sv : Nat → Nx} {k j : Nat} (hk : k < 15) (hj : j < 15) (hne : k ≠ j) (v w : Nx) (a m : va_W) : ((a ++ clu G (tl k) v ++ clu G (tl j) w) ++ (m ++ poolS G tl sv (skA (skA sk0 k) j) 15)).Perm (a ++ m ++ poolS G tl (svU (svU sv k v) j w) sk0 15) := by
  have h := pool2 (G := G) (tl := tl) (sv := svU (svU sv k v) j w) hk hj hne a m
  rw [svU_at, svU_ne hne, svU_at, poolS_cong (sv := sv) (sk := skA (skA sk0 k) j) (fun i hi => ⟨rfl, fun e => by
    have h1 : i ≠ j := fun q => by subst q; unfold skA at e; rw [decide_eq_true (rfl : i = i), Bool.or_true] at e; cases e
    have h2 : i ≠ k := fun q => by subst q; unfold skA at e; rw [decide_eq_true (rfl : i = i), Bool.or_true, Bool.true_or] at e; cases e
    rw [svU_ne h1, svU_ne h2]⟩)] at h
  exact h.symm
def triS (x : tS) : Nat × Nat × Nat := (x.1, x.2.1, x.2.2.2.1)
def allS (tl : Nat → tS) : List (Nat × Nat × Nat) := (List.range 15).map (fun i => triS (tl i))
theorem poolS_mem {G : GG} {tl : Nat → tS} {sv : Nat → Nx} {k : Nat} (hk : k < 15) : ((triS (tl k)).1, .inr (6, [.ref (triS (tl k)).2.1, .ref (triS (tl k)).2.2])) ∈ poolS G tl sv sk0 15 :=
  (poolS_take (sk := sk0) rfl hk).mem_iff.mpr (List.mem_append_left _ List.mem_cons_self)
def noSt (wc : va_W) : Bool := wc.all (fun x => match x.2 with | .inr (6, _) => false | _ => true)
/-- a State's own cell is none of the callee's -/
theorem notIn {D : va_G} {cl : List vw_C} {A : Nat → Prop} {ws wc : va_W} {H : Heap} {a : Nat} {fs : List Value} (hP : va_P D cl ws H) (hD : va_D A ws) (hsub : ∀ x ∈ wc, x ∈ ws) (hno : noSt wc = true) (hm : (a, .inr (6, fs)) ∈ ws) : ¬ va_A wc H.size a := by
  obtain ⟨i, hi⟩ := List.getElem?_of_mem hm
  rintro (⟨k, e, hk⟩ | h)
  · have hx := List.mem_of_getElem? hk
    obtain ⟨j, hj⟩ := List.getElem?_of_mem (hsub _ hx)
    have := hD.1 i j _ _ hi hj rfl
    subst this
    rw [hi] at hj
    cases hj
    have := List.all_eq_true.mp hno _ hx
    cases this
  · exact absurd (hP i _ hi).lt (by omega)
theorem allS_ok {D : va_G} {cl : List vw_C} {A : Nat → Prop} {G : GG} {tl : Nat → tS} {sv : Nat → Nx} {W0 ws wc : va_W} {H : Heap} (hp : (W0 ++ poolS G tl sv sk0 15).Perm ws) (hP : va_P D cl ws H) (hD : va_D A ws) (hsub : ∀ x ∈ wc, x ∈ ws) (hno : noSt wc = true) : ∀ q ∈ allS tl, (q.1, .inr (6, [.ref q.2.1, .ref q.2.2])) ∈ ws ∧ ¬ va_A wc H.size q.1 := fun q hq => by
  obtain ⟨i, hi, rfl⟩ := List.mem_map.mp hq
  have h1 : ((triS (tl i)).1, .inr (6, [.ref (triS (tl i)).2.1, .ref (triS (tl i)).2.2])) ∈ ws := hp.mem_iff.mp (List.mem_append_right _ (poolS_mem (List.mem_range.mp hi)))
  exact ⟨h1, notIn hP hD hsub hno h1⟩
