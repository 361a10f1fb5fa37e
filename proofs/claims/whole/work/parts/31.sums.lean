/-! sums over twos, threes, fours of places -/
theorem fo_sum (f : Nat → Nat) : ∀ (d i : Nat) (a : Int32), fo (fun j a => a + nI (f j)) d i a = a + nI (fb_sm (fun t => f (i + t)) d)
  | 0, i, a => (Int32.add_zero a).symm
  | d + 1, i, a => by
    rw [fo_succ, fo_sum f d i a, fb_sm_succ, ← nI_add, Int32.add_assoc]
theorem sm_zero {f : Nat → Nat} : ∀ {n : Nat}, (∀ k, k < n → f k = 0) → fb_sm f n = 0
  | 0, _ => rfl
  | n + 1, h => by rw [fb_sm_succ, sm_zero (fun k hk => h k (by omega)), h n (by omega)]
theorem sm_from (f : Nat → Nat) {i N : Nat} (h : i ≤ N) : fb_sm (fun t => f (i + t)) (N - i) = fb_sm (fun j => if i ≤ j then f j else 0) N := by
  have e := fb_sm_split (fun j => if i ≤ j then f j else 0) i (N - i)
  rw [show i + (N - i) = N by omega] at e
  rw [e, sm_zero (fun k hk => if_neg (by omega)), Nat.zero_add]
  exact fb_sm_cong (fun k _ => (if_pos (by omega)).symm)
theorem fo_from (f : Nat → Nat) {i N : Nat} (h : i ≤ N) (a : Int32) : fo (fun j a => a + nI (f j)) (N - i) i a = a + nI (fb_sm (fun j => if i ≤ j then f j else 0) N) := by rw [fo_sum, sm_from f h]
theorem sm_ite (c : Prop) [Decidable c] (f : Nat → Nat) (n : Nat) : fb_sm (fun p => if c then f p else 0) n = if c then fb_sm f n else 0 := by
  by_cases h : c
  · simp only [h, ↓reduceIte]
  · simp only [h, ↓reduceIte]; exact sm_zero (fun _ _ => rfl)
theorem sm_swap (f : Nat → Nat → Nat) (m : Nat) : ∀ n, fb_sm (fun a => fb_sm (fun b => f a b) m) n = fb_sm (fun b => fb_sm (fun a => f a b) n) m
  | 0 => (sm_zero (fun _ _ => rfl)).symm
  | n + 1 => by
    rw [fb_sm_succ, sm_swap f m n, ← fb_sm_add]
    exact fb_sm_cong (fun k _ => rfl)
theorem sm_at (f : Nat → Nat) {p : Nat} : ∀ {n : Nat}, p < n → fb_sm (fun i => if i = p then f i else 0) n = f p
  | 0, h => absurd h (by omega)
  | n + 1, h => by
    rw [fb_sm_succ]
    by_cases e : n = p
    · subst e
      rw [if_pos rfl, sm_zero (fun k hk => if_neg (by omega)), Nat.zero_add]
    · rw [if_neg e, sm_at f (by omega), Nat.add_zero]
theorem sm_ct (p : Nat → Bool) : ∀ n, fb_sm (fun i => if p i = true then 1 else 0) n = fb_ct p n
  | 0 => rfl
  | n + 1 => by
    rw [fb_sm_succ, fb_ct_succ, sm_ct p n]
/-- all twos, all threes, with weights -/
def w2 (N : Nat) (f : Nat → Nat → Nat) : Nat := fb_sm (fun i => fb_sm (fun j => if i + 1 ≤ j then f i j else 0) N) N
def w3 (N : Nat) (f : Nat → Nat → Nat → Nat) : Nat := fb_sm (fun i => fb_sm (fun j => if i + 1 ≤ j then fb_sm (fun l => if j + 1 ≤ l then f i j l else 0) N else 0) N) N
def g2 {α : Type} (N : Nat) (h : Nat → Nat → α → α) (a : α) : α := fo (fun i a => fo (fun j a => h i j a) (N - (i + 1)) (i + 1) a) N 0 a
def g3 {α : Type} (N : Nat) (h : Nat → Nat → Nat → α → α) (a : α) : α := fo (fun i a => fo (fun j a => fo (fun l a => h i j l a) (N - (j + 1)) (j + 1) a) (N - (i + 1)) (i + 1) a) N 0 a
theorem g2_map {α β : Type} {N : Nat} {h : Nat → Nat → α → α} {h' : Nat → Nat → β → β} {f : α → β} (e : ∀ i j a, f (h i j a) = h' i j (f a)) (a : α) : f (g2 N h a) = g2 N h' (f a) :=
  fo_map (g := fun i a => fo (fun j a => h i j a) (N - (i + 1)) (i + 1) a) (g' := fun i a => fo (fun j a => h' i j a) (N - (i + 1)) (i + 1) a) (fun i a => fo_map (fun j a => e i j a) (N - (i + 1)) (i + 1) a) N 0 a
theorem g3_map {α β : Type} {N : Nat} {h : Nat → Nat → Nat → α → α} {h' : Nat → Nat → Nat → β → β} {f : α → β} (e : ∀ i j l a, f (h i j l a) = h' i j l (f a)) (a : α) : f (g3 N h a) = g3 N h' (f a) :=
  fo_map (g := fun i a => fo (fun j a => fo (fun l a => h i j l a) (N - (j + 1)) (j + 1) a) (N - (i + 1)) (i + 1) a) (g' := fun i a => fo (fun j a => fo (fun l a => h' i j l a) (N - (j + 1)) (j + 1) a) (N - (i + 1)) (i + 1) a) (fun i a => fo_map (g := fun j a => fo (fun l a => h i j l a) (N - (j + 1)) (j + 1) a) (g' := fun j a => fo (fun l a => h' i j l a) (N - (j + 1)) (j + 1) a) (fun j a => fo_map (fun l a => e i j l a) (N - (j + 1)) (j + 1) a) (N - (i + 1)) (i + 1) a) N 0 a
theorem g2_sum (N : Nat) (f : Nat → Nat → Nat) (a : Int32) : g2 N (fun i j a => a + nI (f i j)) a = a + nI (w2 N f) := by
  unfold g2 w2
  rw [fo_cong (g' := fun i a => a + nI (fb_sm (fun j => if i + 1 ≤ j then f i j else 0) N)) N 0 a (fun i c _ hi => fo_from (f i) (by omega) c)]
  have e := fo_sum (fun i => fb_sm (fun j => if i + 1 ≤ j then f i j else 0) N) N 0 a
  rw [e]
  congr 2
  exact fb_sm_cong (fun k _ => by rw [Nat.zero_add])
theorem g3_sum (N : Nat) (f : Nat → Nat → Nat → Nat) (a : Int32) : g3 N (fun i j l a => a + nI (f i j l)) a = a + nI (w3 N f) := by
  unfold g3 w3
  rw [fo_cong (g' := fun i a => a + nI (fb_sm (fun j => if i + 1 ≤ j then fb_sm (fun l => if j + 1 ≤ l then f i j l else 0) N else 0) N)) N 0 a (fun i c _ hi => by
    rw [fo_cong (g' := fun j a => a + nI (fb_sm (fun l => if j + 1 ≤ l then f i j l else 0) N)) (N - (i + 1)) (i + 1) c (fun j c' h1 h2 => fo_from (f i j) (by omega) c')]
    exact fo_from (fun j => fb_sm (fun l => if j + 1 ≤ l then f i j l else 0) N) (by omega) c)]
  have e := fo_sum (fun i => fb_sm (fun j => if i + 1 ≤ j then fb_sm (fun l => if j + 1 ≤ l then f i j l else 0) N else 0) N) N 0 a
  rw [e]
  congr 2
  exact fb_sm_cong (fun k _ => by rw [Nat.zero_add])
theorem w2_flat (N : Nat) (f : Nat → Nat → Nat) : w2 N f = fb_sm (fun i => fb_sm (fun j => if i < j then f i j else 0) N) N := rfl
theorem w3_flat (N : Nat) (f : Nat → Nat → Nat → Nat) : w3 N f = fb_sm (fun i => fb_sm (fun j => fb_sm (fun l => if i < j ∧ j < l then f i j l else 0) N) N) N := by
  unfold w3
  refine fb_sm_cong (fun i _ => fb_sm_cong (fun j _ => ?_))
  by_cases h : i + 1 ≤ j
  · rw [if_pos h]
    refine fb_sm_cong (fun l _ => ?_)
    by_cases h2 : j + 1 ≤ l
    · rw [if_pos h2, if_pos ⟨h, h2⟩]
    · rw [if_neg h2, if_neg (fun q => h2 q.2)]
  · rw [if_neg h, sm_zero (fun l _ => if_neg (fun q => h q.1))]
theorem w2_cong {N : Nat} {f g : Nat → Nat → Nat} (h : ∀ i j, i < j → j < N → f i j = g i j) : w2 N f = w2 N g := by
  refine fb_sm_cong (fun i _ => fb_sm_cong (fun j hj => ?_))
  by_cases c : i + 1 ≤ j
  · rw [if_pos c, if_pos c, h i j c hj]
  · rw [if_neg c, if_neg c]
theorem w3_cong {N : Nat} {f g : Nat → Nat → Nat → Nat} (h : ∀ i j l, i < j → j < l → l < N → f i j l = g i j l) : w3 N f = w3 N g := by
  rw [w3_flat, w3_flat]
  refine fb_sm_cong (fun i _ => fb_sm_cong (fun j _ => fb_sm_cong (fun l hl => ?_)))
  by_cases c : i < j ∧ j < l
  · rw [if_pos c, if_pos c, h i j l c.1 c.2 hl]
  · rw [if_neg c, if_neg c]
theorem w3_add (N : Nat) (f g : Nat → Nat → Nat → Nat) : w3 N (fun i j l => f i j l + g i j l) = w3 N f + w3 N g := by
  rw [w3_flat, w3_flat, w3_flat, ← fb_sm_add]
  refine fb_sm_cong (fun i _ => ?_)
  rw [← fb_sm_add]
  refine fb_sm_cong (fun j _ => ?_)
  rw [← fb_sm_add]
  refine fb_sm_cong (fun l _ => ?_)
  by_cases c : i < j ∧ j < l
  · rw [if_pos c, if_pos c, if_pos c]
  · rw [if_neg c, if_neg c, if_neg c]
theorem w3_sum (N m : Nat) (f : Nat → Nat → Nat → Nat → Nat) : fb_sm (fun p => w3 N (f p)) m = w3 N (fun i j l => fb_sm (fun p => f p i j l) m) := by
  rw [w3_flat, fb_sm_cong (fun p _ => w3_flat N (f p)), sm_swap]
  refine fb_sm_cong (fun i _ => ?_)
  rw [sm_swap]
  refine fb_sm_cong (fun j _ => ?_)
  rw [sm_swap]
  exact fb_sm_cong (fun l _ => sm_ite _ _ _)
theorem w3_bound {N : Nat} {f : Nat → Nat → Nat → Nat} (h : ∀ i j l, f i j l ≤ 1) (hN : N ≤ 32) : w3 N f ≤ 32768 := by
  rw [w3_flat]
  have h3 : ∀ i j, fb_sm (fun l => if i < j ∧ j < l then f i j l else 0) N ≤ N * 1 := fun i j => fb_sm_bound (fun l _ => by
    by_cases c : i < j ∧ j < l
    · rw [if_pos c]; exact h i j l
    · rw [if_neg c]; omega)
  have h2 : ∀ i, fb_sm (fun j => fb_sm (fun l => if i < j ∧ j < l then f i j l else 0) N) N ≤ N * (N * 1) := fun i => fb_sm_bound (fun j _ => h3 i j)
  have h1 := fb_sm_bound (n := N) (fun i _ => h2 i)
  have : N * (N * (N * 1)) ≤ 32 * (32 * (32 * 1)) := Nat.mul_le_mul hN (Nat.mul_le_mul hN (Nat.mul_le_mul hN (Nat.le_refl _)))
  omega
/-- fours -/
def s4 (N : Nat) (f : Nat → Nat → Nat → Nat → Nat) : Nat := fb_sm (fun p => fb_sm (fun a => fb_sm (fun b => fb_sm (fun c => f p a b c) N) N) N) N
theorem s4_12 (N : Nat) (f : Nat → Nat → Nat → Nat → Nat) : s4 N (fun p a b c => f a p b c) = s4 N f := sm_swap (fun p a => fb_sm (fun b => fb_sm (fun c => f a p b c) N) N) N N
theorem s4_23 (N : Nat) (f : Nat → Nat → Nat → Nat → Nat) : s4 N (fun p a b c => f p b a c) = s4 N f := fb_sm_cong (fun p _ => sm_swap (fun a b => fb_sm (fun c => f p b a c) N) N N)
theorem s4_34 (N : Nat) (f : Nat → Nat → Nat → Nat → Nat) : s4 N (fun p a b c => f p a c b) = s4 N f := fb_sm_cong (fun p _ => fb_sm_cong (fun a _ => sm_swap (fun b c => f p a c b) N N))
theorem s4_add (N : Nat) (f g : Nat → Nat → Nat → Nat → Nat) : s4 N (fun p a b c => f p a b c + g p a b c) = s4 N f + s4 N g := by
  unfold s4
  rw [← fb_sm_add]
  refine fb_sm_cong (fun p _ => ?_)
  rw [← fb_sm_add]
  refine fb_sm_cong (fun a _ => ?_)
  rw [← fb_sm_add]
  refine fb_sm_cong (fun b _ => ?_)
  rw [← fb_sm_add]
theorem s4_cong {N : Nat} {f g : Nat → Nat → Nat → Nat → Nat} (h : ∀ p a b c, p < N → a < N → b < N → c < N → f p a b c = g p a b c) : s4 N f = s4 N g :=
  fb_sm_cong (fun p hp => fb_sm_cong (fun a ha => fb_sm_cong (fun b hb => fb_sm_cong (fun c hc => h p a b c hp ha hb hc))))
/-! missed threes -/
def hit (col : Nat → Int32) (m : Nat) (x : Int32) : Nat := if plc col m x = -1 then 0 else 1
def x3 (col : Nat → Int32) (i j l : Nat) : Int32 := col i ^^^ col j ^^^ col l
def tw (col : Nat → Int32) (x : Int32) (i j : Nat) : Nat := if col i ^^^ col j = x then 1 else 0
def th (col : Nat → Int32) (x : Int32) (i j l : Nat) : Nat := if x3 col i j l = x then 1 else 0
def Inj (col : Nat → Int32) (m : Nat) : Prop := ∀ p q, p < m → q < m → col p = col q → p = q
theorem hit_sum {col : Nat → Int32} {m : Nat} (hm : m < 2 ^ 31) (h : Inj col m) (x : Int32) : fb_sm (fun p => if x = col p then 1 else 0) m = hit col m x := by
  unfold hit plc
  rcases fi_cases (fun p => decide (col p = x)) m with ⟨i, h1, h2, h3, h4⟩ | ⟨h1, h2⟩
  · have e : col i = x := of_decide_eq_true h2
    rw [h4, if_neg (nI_ne_m1 (by omega)), fb_sm_cong (g := fun p => if p = i then 1 else 0) (fun p hp => ?_), sm_at (fun _ => 1) h1]
    by_cases c : p = i
    · subst c; rw [if_pos e.symm, if_pos rfl]
    · rw [if_neg c, if_neg (fun q => c (h p i hp h1 (q.symm.trans e.symm)))]
  · rw [h2, if_pos rfl]
    exact sm_zero (fun p hp => if_neg (fun q => absurd q.symm (of_decide_eq_false (h1 p hp))))
theorem missed_sum {col : Nat → Int32} {m : Nat} (hm : m < 2 ^ 31) (h : Inj col m) : fb_sm (fun p => w3 m (th col (col p))) m = w3 m (fun i j l => hit col m (x3 col i j l)) := by
  rw [w3_sum]
  exact w3_cong (fun i j l _ _ _ => hit_sum hm h _)
def W4 (col : Nat → Int32) (a b c d : Nat) : Nat := if a < b ∧ b < c ∧ c < d then (if col a ^^^ col b ^^^ col c = col d then 1 else 0) else 0
theorem xo_l {a b c d : Int32} : (a ^^^ b ^^^ c = d) ↔ a ^^^ b ^^^ c ^^^ d = 0 := xo_eq0.symm
theorem four_eq {col : Nat → Int32} {m p a b c : Nat} (h : Inj col m) (hp : p < m) (ha : a < m) (hb : b < m) (hc : c < m) :
    (if a < b ∧ b < c then th col (col p) a b c else 0) = W4 col p a b c + W4 col a p b c + W4 col a b p c + W4 col a b c p := by
  unfold W4 th x3
  have e1 : (col p ^^^ col a ^^^ col b = col c) ↔ col a ^^^ col b ^^^ col c = col p := ⟨fun q => xo_eq0.mp ((show col a ^^^ col b ^^^ col c ^^^ col p = col p ^^^ col a ^^^ col b ^^^ col c by ac_rfl).trans (xo_eq0.mpr q)), fun q => xo_eq0.mp ((show col p ^^^ col a ^^^ col b ^^^ col c = col a ^^^ col b ^^^ col c ^^^ col p by ac_rfl).trans (xo_eq0.mpr q))⟩
  have e2 : (col a ^^^ col p ^^^ col b = col c) ↔ col a ^^^ col b ^^^ col c = col p := ⟨fun q => xo_eq0.mp ((show col a ^^^ col b ^^^ col c ^^^ col p = col a ^^^ col p ^^^ col b ^^^ col c by ac_rfl).trans (xo_eq0.mpr q)), fun q => xo_eq0.mp ((show col a ^^^ col p ^^^ col b ^^^ col c = col a ^^^ col b ^^^ col c ^^^ col p by ac_rfl).trans (xo_eq0.mpr q))⟩
  have e3 : (col a ^^^ col b ^^^ col p = col c) ↔ col a ^^^ col b ^^^ col c = col p := ⟨fun q => xo_eq0.mp ((show col a ^^^ col b ^^^ col c ^^^ col p = col a ^^^ col b ^^^ col p ^^^ col c by ac_rfl).trans (xo_eq0.mpr q)), fun q => xo_eq0.mp ((show col a ^^^ col b ^^^ col p ^^^ col c = col a ^^^ col b ^^^ col c ^^^ col p by ac_rfl).trans (xo_eq0.mpr q))⟩
  simp only [e1, e2, e3]
  by_cases c1 : a < b ∧ b < c
  · rw [if_pos c1]
    by_cases c2 : col a ^^^ col b ^^^ col c = col p
    · simp only [c2, ↓reduceIte]
      have n1 : p ≠ a := fun q => by
        subst q
        have : col p ^^^ (col b ^^^ col c) = col p ^^^ 0 := by rw [← xo_assoc, c2, xo_zero]
        have := h b c hb hc (xo_eq0.mp (xo_cancel this)); omega
      have n2 : p ≠ b := fun q => by
        subst q
        have : col p ^^^ (col a ^^^ col c) = col p ^^^ 0 := by rw [xo_zero]; exact (show col p ^^^ (col a ^^^ col c) = col a ^^^ col p ^^^ col c by ac_rfl).trans c2
        have := h a c ha hc (xo_eq0.mp (xo_cancel this)); omega
      have n3 : p ≠ c := fun q => by
        subst q
        have : col p ^^^ (col a ^^^ col b) = col p ^^^ 0 := by rw [xo_zero, xo_comm, c2]
        have := h a b ha hb (xo_eq0.mp (xo_cancel this)); omega
      by_cases d1 : p < a
      · rw [if_pos ⟨d1, c1.1, c1.2⟩, if_neg (by omega), if_neg (by omega), if_neg (by omega)]
      · by_cases d2 : p < b
        · rw [if_neg (by omega), if_pos (by omega), if_neg (by omega), if_neg (by omega)]
        · by_cases d3 : p < c
          · rw [if_neg (by omega), if_neg (by omega), if_pos (by omega), if_neg (by omega)]
          · rw [if_neg (by omega), if_neg (by omega), if_neg (by omega), if_pos (by omega)]
    · simp only [c2, ↓reduceIte, ite_self]
  · rw [if_neg c1, if_neg (fun q => c1 ⟨q.2.1, q.2.2⟩), if_neg (fun q => c1 ⟨by omega, by omega⟩), if_neg (fun q => c1 ⟨by omega, by omega⟩), if_neg (fun q => c1 ⟨by omega, by omega⟩)]
/-- the missed threes are four times the fours that aren't seen -/
theorem missed_four {col : Nat → Int32} {m : Nat} (h : Inj col m) : fb_sm (fun p => w3 m (th col (col p))) m = 4 * s4 m (W4 col) := by
  have e1 : fb_sm (fun p => w3 m (th col (col p))) m = s4 m (fun p a b c => if a < b ∧ b < c then th col (col p) a b c else 0) := fb_sm_cong (fun p _ => w3_flat m _)
  rw [e1, s4_cong (fun p a b c hp ha hb hc => four_eq h hp ha hb hc)]
  rw [s4_add m (fun p a b c => W4 col p a b c + W4 col a p b c + W4 col a b p c) (fun p a b c => W4 col a b c p), s4_add m (fun p a b c => W4 col p a b c + W4 col a p b c) (fun p a b c => W4 col a b p c), s4_add m (fun p a b c => W4 col p a b c) (fun p a b c => W4 col a p b c)]
  have q2 : s4 m (fun p a b c => W4 col a p b c) = s4 m (W4 col) := s4_12 m (W4 col)
  have q3 : s4 m (fun p a b c => W4 col a b p c) = s4 m (W4 col) := (s4_12 m (fun x y b c => W4 col x b y c)).trans (s4_23 m (W4 col))
  have q4 : s4 m (fun p a b c => W4 col a b c p) = s4 m (W4 col) := ((s4_12 m (fun x y b c => W4 col x b c y)).trans (s4_23 m (fun x y z c => W4 col x y c z))).trans (s4_34 m (W4 col))
  rw [q2, q3, q4]
  show s4 m (W4 col) + _ + _ + _ = _
  omega
/-! threes of other places -/
def ind (c : Prop) [Decidable c] : Nat := if c then 1 else 0
theorem beside {col : Nat → Int32} {m p : Nat} (hp : p < m) {x : Int32} (hx : ∀ q, q < m → q ≠ p → col q ≠ x) :
    w3 m (th col x) = w3 m (fun i j l => if i = p ∨ j = p ∨ l = p then 0 else th col x i j l) + w2 m (tw col (x ^^^ col p)) := by
  have e : w3 m (th col x) = w3 m (fun i j l => if i = p ∨ j = p ∨ l = p then 0 else th col x i j l) + w3 m (fun i j l => (if i = p then th col x i j l else 0) + ((if j = p then th col x i j l else 0) + (if l = p then th col x i j l else 0))) := by
    rw [← w3_add]
    refine w3_cong (fun i j l h1 h2 h3 => ?_)
    by_cases c1 : i = p
    · rw [if_pos (Or.inl c1), if_pos c1, if_neg (by omega), if_neg (by omega)]; omega
    · by_cases c2 : j = p
      · rw [if_pos (Or.inr (Or.inl c2)), if_neg c1, if_pos c2, if_neg (by omega)]; omega
      · by_cases c3 : l = p
        · rw [if_pos (Or.inr (Or.inr c3)), if_neg c1, if_neg c2, if_pos c3]; omega
        · rw [if_neg (by omega), if_neg c1, if_neg c2, if_neg c3]; omega
  rw [e, w3_add m (fun i j l => if i = p then th col x i j l else 0) (fun i j l => (if j = p then th col x i j l else 0) + (if l = p then th col x i j l else 0)), w3_add m (fun i j l => if j = p then th col x i j l else 0) (fun i j l => if l = p then th col x i j l else 0)]
  have z : ∀ u v, (x3 col p u v = x ↔ col u ^^^ col v = x ^^^ col p) ∧ (x3 col u p v = x ↔ col u ^^^ col v = x ^^^ col p) ∧ (x3 col u v p = x ↔ col u ^^^ col v = x ^^^ col p) := by
    intro u v
    unfold x3
    have k : ∀ s t y : Int32, (s ^^^ y = t) ↔ s = t ^^^ y := fun s t y => ⟨fun q => by rw [← q, xo_assoc, xo_self, xo_zero], fun q => by rw [q, xo_assoc, xo_self, xo_zero]⟩
    refine ⟨?_, ?_, ?_⟩
    · rw [← k, show col u ^^^ col v ^^^ col p = col p ^^^ col u ^^^ col v by ac_rfl]
    · rw [← k, show col u ^^^ col v ^^^ col p = col u ^^^ col p ^^^ col v by ac_rfl]
    · rw [← k]
  have t1 : w3 m (fun i j l => if i = p then th col x i j l else 0) = w2 m (fun u v => if p < u then tw col (x ^^^ col p) u v else 0) := by
    rw [w3_flat, w2_flat]
    rw [fb_sm_cong (g := fun i => if i = p then fb_sm (fun u => fb_sm (fun v => if u < v then (if p < u then tw col (x ^^^ col p) u v else 0) else 0) m) m else 0) (fun i _ => ?_), sm_at _ hp]
    by_cases c : i = p
    · subst c
      rw [if_pos rfl]
      refine fb_sm_cong (fun u _ => fb_sm_cong (fun v _ => ?_))
      by_cases c2 : u < v
      · by_cases c3 : i < u
        · simp only [c2, c3, and_self, ↓reduceIte, th, tw, (z u v).1]
        · simp only [c2, c3, false_and, ↓reduceIte]
      · simp only [c2, and_false, ↓reduceIte]
    · rw [if_neg c]
      exact sm_zero (fun u _ => sm_zero (fun v _ => by simp only [c, ↓reduceIte, ite_self]))
  have t2 : w3 m (fun i j l => if j = p then th col x i j l else 0) = w2 m (fun u v => if u < p ∧ p < v then tw col (x ^^^ col p) u v else 0) := by
    rw [w3_flat, w2_flat]
    refine fb_sm_cong (fun u _ => ?_)
    rw [fb_sm_cong (g := fun i => if i = p then fb_sm (fun v => if u < v then (if u < p ∧ p < v then tw col (x ^^^ col p) u v else 0) else 0) m else 0) (fun i _ => ?_), sm_at _ hp]
    by_cases c : i = p
    · subst c
      rw [if_pos rfl]
      refine fb_sm_cong (fun v _ => ?_)
      by_cases c2 : u < i ∧ i < v
      · have c3 : u < v := by omega
        simp only [c2, c3, and_self, ↓reduceIte, th, tw, (z u v).2.1]
      · simp only [c2, ↓reduceIte, ite_self]
    · rw [if_neg c]
      exact sm_zero (fun v _ => by simp only [c, ↓reduceIte, ite_self])
  have t3 : w3 m (fun i j l => if l = p then th col x i j l else 0) = w2 m (fun u v => if v < p then tw col (x ^^^ col p) u v else 0) := by
    rw [w3_flat, w2_flat]
    refine fb_sm_cong (fun u _ => fb_sm_cong (fun v _ => ?_))
    rw [fb_sm_cong (g := fun i => if i = p then (if u < v then (if v < p then tw col (x ^^^ col p) u v else 0) else 0) else 0) (fun i _ => ?_), sm_at _ hp]
    by_cases c : i = p
    · subst c
      rw [if_pos rfl]
      by_cases c2 : u < v
      · by_cases c3 : v < i
        · simp only [c2, c3, and_self, ↓reduceIte, th, tw, (z u v).2.2]
        · simp only [c2, c3, and_false, ↓reduceIte]
      · simp only [c2, false_and, ↓reduceIte]
    · rw [if_neg c]
      simp only [c, ↓reduceIte, ite_self]
  have w2a : ∀ f g : Nat → Nat → Nat, w2 m f + w2 m g = w2 m (fun i j => f i j + g i j) := fun f g => by
    rw [w2_flat, w2_flat, w2_flat, ← fb_sm_add]
    refine fb_sm_cong (fun i _ => ?_)
    rw [← fb_sm_add]
    refine fb_sm_cong (fun j _ => ?_)
    by_cases c : i < j
    · rw [if_pos c, if_pos c, if_pos c]
    · rw [if_neg c, if_neg c, if_neg c]
  rw [t1, t2, t3, w2a, w2a]
  congr 1
  refine w2_cong (fun u v h1 h2 => ?_)
  by_cases c1 : p < u
  · rw [if_pos c1, if_neg (by omega), if_neg (by omega)]; rfl
  · by_cases c2 : u < p ∧ p < v
    · rw [if_neg c1, if_pos c2, if_neg (by omega)]; omega
    · by_cases c3 : v < p
      · rw [if_neg c1, if_neg c2, if_pos c3]; omega
      · rw [if_neg c1, if_neg c2, if_neg c3]
        have hn : ¬ col u ^^^ col v = x ^^^ col p := by
          intro q
          rcases (show u = p ∨ v = p by omega) with r | r
          · subst r
            rw [xo_comm x] at q
            exact hx v h2 (by omega) (xo_cancel q)
          · subst r
            rw [xo_comm, xo_comm x] at q
            exact hx u (by omega) (by omega) (xo_cancel q)
        unfold tw
        rw [if_neg hn]
