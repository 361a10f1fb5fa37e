/-! the order: unlike, by ones -/
def oN (k i : Nat) : Nat := (ordL k).getD i 0
def cN (k : Nat) : Nat := (ordL k).length
theorem oN_get {k i : Nat} (h : i < (ordL k).length) : oN k i = (ordL k)[i] := by
  unfold oN
  rw [List.getD_eq_getElem?_getD, List.getElem?_eq_getElem h, Option.getD_some]
theorem mem_lstO {o d v : Nat} (h : v ∈ lstO o d) : v < d ∧ pcn (nI v) = o := by
  unfold lstO at h
  rw [List.mem_filter, List.mem_range] at h
  exact ⟨h.1, of_decide_eq_true h.2⟩
theorem mem_ordL {k v : Nat} (h : v ∈ ordL k) : v < 2 ^ k ∧ (pcn (nI v) = 3 ∨ pcn (nI v) = 5 ∨ pcn (nI v) = 7) := by
  unfold ordL at h
  rw [List.mem_append, List.mem_append] at h
  rcases h with (h | h) | h
  · have := mem_lstO h; exact ⟨this.1, Or.inl this.2⟩
  · have := mem_lstO h; exact ⟨this.1, Or.inr (Or.inl this.2)⟩
  · have := mem_lstO h; exact ⟨this.1, Or.inr (Or.inr this.2)⟩
theorem oN_mem {k i : Nat} (h : i < cN k) : oN k i ∈ ordL k := by
  rw [oN_get h]
  exact List.getElem_mem h
theorem oN_lt {k i : Nat} (h : i < cN k) : oN k i < 2 ^ k := (mem_ordL (oN_mem h)).1
theorem oN_dcol {k i : Nat} (h : i < cN k) : DCol k (nI (oN k i)) := by
  obtain ⟨h1, h2⟩ := mem_ordL (oN_mem h)
  exact ⟨⟨_, h1, rfl⟩, by omega, by omega⟩
theorem lstO_pw {R : Nat → Nat → Prop} {o d : Nat} (hR : ∀ a b, a < b → pcn (nI a) = o → pcn (nI b) = o → R a b) : List.Pairwise R (lstO o d) := by
  induction d with
  | zero => exact List.Pairwise.nil
  | succ d ih =>
    rw [lstO_succ]
    by_cases h : onC o d = true
    · rw [if_pos h, List.pairwise_append]
      refine ⟨ih, List.pairwise_singleton _ _, fun a ha b hb => ?_⟩
      rw [List.mem_singleton] at hb
      subst hb
      have := mem_lstO ha
      exact hR a b this.1 this.2 (of_decide_eq_true h)
    · rw [if_neg h, List.append_nil]; exact ih
theorem ordL_pw {R : Nat → Nat → Prop} {k : Nat} (hR : ∀ a b, a < b → pcn (nI a) = pcn (nI b) → R a b) (hS : ∀ a b, pcn (nI a) < pcn (nI b) → R a b) : List.Pairwise R (ordL k) := by
  unfold ordL
  rw [List.pairwise_append, List.pairwise_append]
  refine ⟨⟨lstO_pw (fun a b h e1 e2 => hR a b h (e1.trans e2.symm)), lstO_pw (fun a b h e1 e2 => hR a b h (e1.trans e2.symm)), fun a ha b hb => hS a b ?_⟩, lstO_pw (fun a b h e1 e2 => hR a b h (e1.trans e2.symm)), fun a ha b hb => hS a b ?_⟩
  · rw [(mem_lstO ha).2, (mem_lstO hb).2]; decide
  · rw [List.mem_append] at ha
    rcases ha with ha | ha
    · rw [(mem_lstO ha).2, (mem_lstO hb).2]; decide
    · rw [(mem_lstO ha).2, (mem_lstO hb).2]; decide
theorem oN_ne {k i j : Nat} (hij : i < j) (hj : j < cN k) : oN k i ≠ oN k j := by
  have h := List.pairwise_iff_getElem.mp (ordL_pw (R := fun a b => a ≠ b) (k := k) (fun a b h _ => by omega) (fun a b h e => by subst e; omega)) i j (show i < (ordL k).length from Nat.lt_trans hij hj) hj hij
  rw [oN_get (Nat.lt_trans hij hj), oN_get hj]
  exact h
theorem oN_inj {k i j : Nat} (hi : i < cN k) (hj : j < cN k) (e : oN k i = oN k j) : i = j := by
  rcases Nat.lt_trichotomy i j with h | h | h
  · exact absurd e (oN_ne h hj)
  · exact h
  · exact absurd e.symm (oN_ne h hi)
theorem oN_sorted {k i j : Nat} (hij : i ≤ j) (hj : j < cN k) : pcn (nI (oN k i)) ≤ pcn (nI (oN k j)) := by
  rcases Nat.lt_or_ge i j with h | h
  · have q := List.pairwise_iff_getElem.mp (ordL_pw (R := fun a b => pcn (nI a) ≤ pcn (nI b)) (k := k) (fun a b _ e => by omega) (fun a b h => by omega)) i j (show i < (ordL k).length from Nat.lt_trans h hj) hj h
    rw [oN_get (Nat.lt_trans h hj), oN_get hj]
    exact q
  · have : i = j := by omega
    subst this; exact Nat.le_refl _
theorem cN_le {k : Nat} (h : k ≤ 8) : cN k ≤ 120 := ord_len h
theorem OA_at {k i : Nat} (a : Nat → Int32) (h : i < cN k) : OA (ordL k) a i = nI (oN k i) := if_pos h
/-- if fewer than all are chosen, one is left -/
theorem one_left {k p : Nat} {f : Nat → Nat} (h : p < cN k) : ∃ i, i < cN k ∧ ∀ q, q < p → f q ≠ oN k i := by
  by_cases hh : ∃ i, i < cN k ∧ ∀ q, q < p → f q ≠ oN k i
  · exact hh
  · exfalso
    have h1 : ∀ i, i < cN k → ∃ q, q < p ∧ f q = oN k i := fun i hi => by
      by_cases c : ∃ q, q < p ∧ f q = oN k i
      · exact c
      · exact absurd ⟨i, hi, fun q hq e => c ⟨q, hq, e⟩⟩ hh
    let w : Nat → Nat := fun i => if hi : i < cN k then (h1 i hi).choose else 0
    have hw : ∀ i, i < cN k → w i < p ∧ f (w i) = oN k i := fun i hi => by
      show (if hi : i < cN k then (h1 i hi).choose else 0) < p ∧ f (if hi : i < cN k then (h1 i hi).choose else 0) = oN k i
      rw [dif_pos hi]
      exact (h1 i hi).choose_spec
    have := fb_holes p (cN k) w (fun i hi => (hw i hi).1) (fun i j hij hj e => by
      have e1 := (hw i (by omega)).2
      have e2 := (hw j hj).2
      rw [e] at e1
      exact oN_ne hij hj (e1.symm.trans e2))
    omega
