/-! loops, once for all -/
theorem ixg {i N : Nat} (h : i < N) (hN : N < 2 ^ 31) : ¬ ixBad (nI i) N := vp_in_nI h hN
theorem nI_bad {x : Int32} {n : Nat} (h : ¬ ixBad x n) (hn : n < 2 ^ 31) : ∃ j, j < n ∧ x = nI j := vp_in_of h hn
/-- d steps, from i on -/
def fo {α : Type} (g : Nat → α → α) : Nat → Nat → α → α
  | 0, _, a => a
  | d + 1, i, a => fo g d (i + 1) (g i a)
theorem fo_succ {α : Type} (g : Nat → α → α) : ∀ (d i : Nat) (a : α), fo g (d + 1) i a = g (i + d) (fo g d i a)
  | 0, i, a => rfl
  | d + 1, i, a => by
    show fo g (d + 1) (i + 1) (g i a) = _
    rw [fo_succ g d (i + 1) (g i a), show i + 1 + d = i + (d + 1) by omega]
    rfl
theorem fo_inv {α : Type} {g : Nat → α → α} {I : Nat → α → Prop} {n : Nat} (hI : ∀ i a, i < n → I i a → I (i + 1) (g i a)) : ∀ (d i : Nat) (a : α), i + d ≤ n → I i a → I (i + d) (fo g d i a)
  | 0, i, a, _, h => h
  | d + 1, i, a, hn, h => by
    have := fo_inv hI d (i + 1) (g i a) (by omega) (hI i a (by omega) h)
    rw [show i + 1 + d = i + (d + 1) by omega] at this
    exact this
theorem fo_cong {α : Type} {g g' : Nat → α → α} : ∀ (d i : Nat) (a : α), (∀ j b, i ≤ j → j < i + d → g j b = g' j b) → fo g d i a = fo g' d i a
  | 0, _, _, _ => rfl
  | d + 1, i, a, h => by
    show fo g d (i + 1) (g i a) = fo g' d (i + 1) (g' i a)
    rw [h i a (by omega) (by omega)]
    exact fo_cong d (i + 1) _ (fun j b h1 h2 => h j b (by omega) (by omega))
theorem fold_loop {α β : Type} (L : Nat → α → Int32 → Option β) (k : α → Option β) (g : Nat → α → α) (I : Nat → α → Prop) (n : Nat)
    (hstep : ∀ fuel i a, i < n → I i a → L (fuel + 1) a (nI i) = L fuel (g i a) (nI (i + 1))) (hend : ∀ fuel a, I n a → L (fuel + 1) a (nI n) = k a) (hI : ∀ i a, i < n → I i a → I (i + 1) (g i a)) :
    ∀ (d i fuel : Nat) (a : α), i + d = n → d < fuel → I i a → L fuel a (nI i) = k (fo g d i a)
  | 0, i, 0, a, _, hf, _ => absurd hf (by omega)
  | 0, i, fuel + 1, a, hd, _, hi => by
    have e : i = n := by omega
    subst e
    exact hend fuel a hi
  | d + 1, i, 0, a, _, hf, _ => absurd hf (by omega)
  | d + 1, i, fuel + 1, a, hd, hf, hi => by
    rw [hstep fuel i a (by omega) hi]
    exact fold_loop L k g I n hstep hend hI d (i + 1) fuel (g i a) (by omega) (by omega) (hI i a (by omega) hi)
/-- the first place of n where p holds, or none -/
def fi (p : Nat → Bool) (n : Nat) : Int32 := if fa_first p n < n then nI (fa_first p n) else -1
theorem fa_first_eq {p : Nat → Bool} {n i : Nat} (hi : i < n) (hp : p i = true) (hno : ∀ j, j < i → p j = false) : fa_first p n = i := by
  have h1 : ¬ i < fa_first p n := fun h => by rw [fa_first_no p n i h] at hp; cases hp
  have h2 : ¬ fa_first p n < i := fun h => by
    have := fa_first_yes p n (by omega)
    rw [hno _ h] at this
    cases this
  omega
theorem fi_at {p : Nat → Bool} {n i : Nat} (hi : i < n) (hp : p i = true) (hno : ∀ j, j < i → p j = false) : fi p n = nI i := by
  rw [fi, fa_first_eq hi hp hno, if_pos hi]
theorem fi_none {p : Nat → Bool} {n : Nat} (hno : ∀ j, j < n → p j = false) : fi p n = -1 := by
  rw [fi, if_neg]
  intro h
  have := fa_first_yes p n h
  rw [hno _ h] at this
  cases this
theorem fi_cases (p : Nat → Bool) (n : Nat) : (∃ i, i < n ∧ p i = true ∧ (∀ j, j < i → p j = false) ∧ fi p n = nI i) ∨ ((∀ j, j < n → p j = false) ∧ fi p n = -1) := by
  by_cases h : fa_first p n < n
  · exact Or.inl ⟨fa_first p n, h, fa_first_yes p n h, fun j hj => fa_first_no p n j hj, by rw [fi, if_pos h]⟩
  · refine Or.inr ⟨fun j hj => fa_first_no p n j (by omega), by rw [fi, if_neg h]⟩
theorem fi_cong {p q : Nat → Bool} {n : Nat} (h : ∀ i, i < n → p i = q i) : fi p n = fi q n := by
  rcases fi_cases p n with ⟨i, h1, h2, h3, h4⟩ | ⟨h1, h2⟩
  · rw [h4, fi_at (p := q) h1 (by rw [← h i h1]; exact h2) (fun j hj => by rw [← h j (by omega)]; exact h3 j hj)]
  · rw [h2, fi_none (fun j hj => by rw [← h j hj]; exact h1 j hj)]
theorem nI_ne_m1 {i : Nat} (h : i < 2 ^ 31) : nI i ≠ -1 := by
  intro e
  have := congrArg Int32.toInt e
  rw [nI_toInt h] at this
  have h2 : (-1 : Int32).toInt = -1 := rfl
  omega
theorem nI_ge0 {i : Nat} (h : i < 2 ^ 31) : (0 : Int32) ≤ nI i := nI_pos' h
theorem fi_neg {p : Nat → Bool} {n : Nat} (hn : n < 2 ^ 31) : (fi p n = -1 ↔ ∀ j, j < n → p j = false) := by
  constructor
  · intro h
    rcases fi_cases p n with ⟨i, h1, h2, h3, h4⟩ | ⟨h1, _⟩
    · rw [h4] at h
      exact absurd h (nI_ne_m1 (by omega))
    · exact h1
  · exact fi_none
theorem search_loop (L : Nat → Int32 → Option Int32) (p : Nat → Bool) (n : Nat)
    (hL : ∀ fuel i, i < n → L (fuel + 1) (nI i) = if p i = true then some (nI i) else L fuel (nI (i + 1))) (hE : ∀ fuel, L (fuel + 1) (nI n) = some (-1)) :
    ∀ (d i fuel : Nat), i + d = n → d < fuel → (∀ j, j < i → p j = false) → L fuel (nI i) = some (fi p n)
  | 0, i, 0, _, hf, _ => absurd hf (by omega)
  | 0, i, fuel + 1, hd, _, hno => by
    have e : i = n := by omega
    subst e
    rw [hE, fi_none hno]
  | d + 1, i, 0, _, hf, _ => absurd hf (by omega)
  | d + 1, i, fuel + 1, hd, hf, hno => by
    rw [hL fuel i (by omega)]
    by_cases hp : p i = true
    · rw [if_pos hp, fi_at (by omega) hp hno]
    · rw [if_neg hp]
      refine search_loop L p n hL hE d (i + 1) fuel (by omega) (by omega) (fun j hj => ?_)
      by_cases e : j = i
      · subst e; exact ts_nt' hp
      · exact hno j (by omega)
where ts_nt' {b : Bool} (h : ¬ b = true) : b = false := by cases b <;> first | rfl | exact absurd rfl h
/-! Arrays.fill -/
theorem fill_eq (F N : Nat) (a : Nat → Int32) (v : Int32) (hN : N < 2 ^ 31) (hF : N < F) : p_J7_fill_53178 F N a v = some (fun j => if j < N then v else a j) := by
  have key := fold_loop (fun fuel (b : Nat → Int32) i => p_J7_fill_53178_L5 F N v (nI N) fuel i b) some (fun i b => upd b i v) (fun _ _ => True) N
    (fun fuel i b hi _ => by
      show p_J7_fill_53178_L5b F N v (nI N) _ (nI i) b = _
      unfold p_J7_fill_53178_L5b
      rw [if_neg (nI_ge hi hN), if_neg (ixg hi hN), nI_1, nI_clamp (by omega)])
    (fun fuel b _ => by
      show p_J7_fill_53178_L5b F N v (nI N) _ (nI N) b = _
      unfold p_J7_fill_53178_L5b
      rw [if_pos (nI_le (Nat.le_refl _) hN)]) (fun _ _ _ _ => trivial) N 0 F a (by omega) hF trivial
  refine Eq.trans key (congrArg some ?_)
  have h2 : ∀ d, fo (fun i (b : Nat → Int32) => upd b i v) d 0 a = fun j => if j < d then v else a j := by
    intro d
    induction d with
    | zero => funext j; rfl
    | succ d ih =>
      rw [fo_succ, ih]
      funext j
      show (if j = 0 + d then v else if j < d then v else a j) = if j < d + 1 then v else a j
      by_cases h1 : j = d
      · rw [if_pos (by omega), if_pos (by omega)]
      · rw [if_neg (by omega)]
        by_cases h3 : j < d
        · rw [if_pos h3, if_pos (by omega)]
        · rw [if_neg h3, if_neg (by omega)]
  exact h2 N
