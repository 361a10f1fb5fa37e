/-! threes and fours -/
theorem hitI {col : Nat → Int32} {m : Nat} {x : Int32} : (if plc col m x = -1 then (0 : Int32) else 1) = nI (hit col m x) := by
  unfold hit
  by_cases c : plc col m x = -1
  · rw [if_pos c, if_pos c]; rfl
  · rw [if_neg c, if_neg c]; rfl
theorem X4_countMissed {F N m : Nat} {col pl prT : Nat → Int32} (hF : 1000 < F) (hN : N ≤ m) (hm : m ≤ 32) (hB : ColB m col) (ht : TabOK m col pl prT) : p_X4_countMissed F col pl (nI N) = some (nI (w3 N (fun i j l => hit col m (x3 col i j l)))) := by
  have inner : ∀ (i j : Nat) (k5 k17 : Int32 → Int32 → Option Int32) (u : Int32), j < N → p_X4_countMissed_L46 F col pl (nI N) (nI i) (nI j) (col i ^^^ col j) k5 k17 F u (nI (j + 1)) = k17 (fo (fun l a => a + nI (hit col m (x3 col i j l))) (N - (j + 1)) (j + 1) u) (nI (j + 1)) := by
    intro i j k5 k17 u hj
    exact fold_loop (fun fuel a l => p_X4_countMissed_L46 F col pl (nI N) (nI i) (nI j) (col i ^^^ col j) k5 k17 fuel a l) (fun a => k17 a (nI (j + 1))) (fun l a => a + nI (hit col m (x3 col i j l))) (fun _ _ => True) N (fun fuel l a hl _ => by
      show p_X4_countMissed_L46b F col pl (nI N) (nI i) (nI j) (col i ^^^ col j) k5 k17 _ a (nI l) = _
      have g : ¬ ixBad (nI l) 32 := ixg (by omega) (by decide)
      have c : (nI l).toNatClampNeg = l := nI_clamp (by omega)
      unfold p_X4_countMissed_L46b p_X4_countMissed_J76
      rw [if_neg (nI_ge hl (by omega))]
      simp only [g, c, ↓reduceIte]
      rw [X1_placeWith hB ht]
      simp only [Option.bind_some, nI_1]
      show _ = p_X4_countMissed_L46 F col pl (nI N) (nI i) (nI j) (col i ^^^ col j) k5 k17 fuel (a + nI (hit col m (col i ^^^ col j ^^^ col l))) (nI (l + 1))
      rw [← hitI]
      by_cases e : plc col m (col i ^^^ col j ^^^ col l) = -1
      · rw [if_pos e, if_pos e]
      · rw [if_neg e, if_neg e]) (fun fuel a _ => by
      show p_X4_countMissed_L46b F col pl (nI N) (nI i) (nI j) (col i ^^^ col j) k5 k17 _ a (nI N) = _
      unfold p_X4_countMissed_L46b
      rw [if_pos (nI_le (Nat.le_refl _) (by omega)), nI_1]) (fun _ _ _ _ => trivial) (N - (j + 1)) (j + 1) F u (by omega) (by omega) trivial
  have middle : ∀ (i : Nat) (k5 : Int32 → Int32 → Option Int32) (u : Int32), i < N → p_X4_countMissed_L17 F col pl (nI N) (nI i) k5 F u (nI (i + 1)) = k5 (fo (fun j a => fo (fun l a => a + nI (hit col m (x3 col i j l))) (N - (j + 1)) (j + 1) a) (N - (i + 1)) (i + 1) u) (nI (i + 1)) := by
    intro i k5 u hi
    exact fold_loop (fun fuel a j => p_X4_countMissed_L17 F col pl (nI N) (nI i) k5 fuel a j) (fun a => k5 a (nI (i + 1))) (fun j a => fo (fun l a => a + nI (hit col m (x3 col i j l))) (N - (j + 1)) (j + 1) a) (fun _ _ => True) N (fun fuel j a hj _ => by
      show p_X4_countMissed_L17b F col pl (nI N) (nI i) k5 _ a (nI j) = _
      have g : ¬ ixBad (nI j) 32 := ixg (by omega) (by decide)
      have c : (nI j).toNatClampNeg = j := nI_clamp (by omega)
      have g2 : ¬ ixBad (nI i) 32 := ixg (by omega) (by decide)
      have c2 : (nI i).toNatClampNeg = i := nI_clamp (by omega)
      unfold p_X4_countMissed_L17b
      rw [if_neg (nI_ge hj (by omega))]
      simp only [g, c, g2, c2, ↓reduceIte, jlet_eq, nI_1]
      exact inner i j k5 _ a hj) (fun fuel a _ => by
      show p_X4_countMissed_L17b F col pl (nI N) (nI i) k5 _ a (nI N) = _
      unfold p_X4_countMissed_L17b
      rw [if_pos (nI_le (Nat.le_refl _) (by omega)), nI_1]) (fun _ _ _ _ => trivial) (N - (i + 1)) (i + 1) F u (by omega) (by omega) trivial
  have outer := fold_loop (fun fuel a i => p_X4_countMissed_L5 F col pl (nI N) fuel a i) some (fun i a => fo (fun j a => fo (fun l a => a + nI (hit col m (x3 col i j l))) (N - (j + 1)) (j + 1) a) (N - (i + 1)) (i + 1) a) (fun _ _ => True) N (fun fuel i a hi _ => by
      show p_X4_countMissed_L5b F col pl (nI N) _ a (nI i) = _
      unfold p_X4_countMissed_L5b
      rw [if_neg (nI_ge hi (by omega)), nI_1]
      exact middle i _ a hi) (fun fuel a _ => by
      show p_X4_countMissed_L5b F col pl (nI N) _ a (nI N) = _
      unfold p_X4_countMissed_L5b
      rw [if_pos (nI_le (Nat.le_refl _) (by omega))]) (fun _ _ _ _ => trivial) N 0 F (nI 0) (by omega) (by omega) trivial
  refine Eq.trans outer (congrArg some ?_)
  have := g3_sum N (fun i j l => hit col m (x3 col i j l)) (nI 0)
  unfold g3 at this
  rw [this]
  exact Int32.zero_add _
section Qry7
variable {F b n k g a : Nat} {dat chk : Nat → Int32} {pr : Int32} {col pl prT bits mea stk syn tal al : Nat → Int32} {st : Nat → Option Nat}
theorem M_missedOfData (hF : 1000 < F) (hb : MB b n k dat chk) (hmc : MC b n k al dat chk col pr) : p_X11_missedOfData F (nI b) al dat chk = some (nI (w3 n (fun i j l => hit col (n + k) (x3 col i j l)))) := by
  have hn : n ≤ 24 := hmc.2.2.2.2.1
  have hk : k ≤ 8 := hmc.2.2.2.2.2.2.1
  have inner : ∀ (i j : Nat) (k5 k17 : Int32 → Int32 → Option Int32) (u : Int32), i < n → j < n → p_X11_missedOfData_L29 F (nI b) al dat chk (nI i) (nI j) k5 k17 F u (nI (j + 1)) = k17 (fo (fun l a => a + nI (hit col (n + k) (x3 col i j l))) (n - (j + 1)) (j + 1) u) (nI (j + 1)) := by
    intro i j k5 k17 u hi hj
    exact fold_loop (fun fuel a l => p_X11_missedOfData_L29 F (nI b) al dat chk (nI i) (nI j) k5 k17 fuel a l) (fun a => k17 a (nI (j + 1))) (fun l a => a + nI (hit col (n + k) (x3 col i j l))) (fun _ _ => True) n (fun fuel l a hl _ => by
      show p_X11_missedOfData_L29b F (nI b) al dat chk (nI i) (nI j) k5 k17 _ a (nI l) = _
      unfold p_X11_missedOfData_L29b p_X11_missedOfData_J69
      rw [M_data hb.1 hb.2.1, hmc.col (by omega), hmc.col (by omega), hmc.col (by omega)]
      simp only [Option.bind_some]
      rw [if_neg (nI_ge hl (by omega)), hmc.place (by omega)]
      simp only [Option.bind_some, nI_1]
      show _ = p_X11_missedOfData_L29 F (nI b) al dat chk (nI i) (nI j) k5 k17 fuel (a + nI (hit col (n + k) (col i ^^^ col j ^^^ col l))) (nI (l + 1))
      rw [← hitI]
      rcases plc_cases col (n + k) (col i ^^^ col j ^^^ col l) with ⟨q, hq, _, e⟩ | e
      · rw [e, if_neg (nI_pos (by omega)), if_neg (nI_ne_m1 (by omega))]
      · rw [e, if_pos (by decide), if_pos rfl]) (fun fuel a _ => by
      show p_X11_missedOfData_L29b F (nI b) al dat chk (nI i) (nI j) k5 k17 _ a (nI n) = _
      unfold p_X11_missedOfData_L29b
      rw [M_data hb.1 hb.2.1]
      simp only [Option.bind_some]
      rw [if_pos (nI_le (Nat.le_refl _) (by omega)), nI_1]) (fun _ _ _ _ => trivial) (n - (j + 1)) (j + 1) F u (by omega) (by omega) trivial
  have middle : ∀ (i : Nat) (k5 : Int32 → Int32 → Option Int32) (u : Int32), i < n → p_X11_missedOfData_L16 F (nI b) al dat chk (nI i) k5 F u (nI (i + 1)) = k5 (fo (fun j a => fo (fun l a => a + nI (hit col (n + k) (x3 col i j l))) (n - (j + 1)) (j + 1) a) (n - (i + 1)) (i + 1) u) (nI (i + 1)) := by
    intro i k5 u hi
    exact fold_loop (fun fuel a j => p_X11_missedOfData_L16 F (nI b) al dat chk (nI i) k5 fuel a j) (fun a => k5 a (nI (i + 1))) (fun j a => fo (fun l a => a + nI (hit col (n + k) (x3 col i j l))) (n - (j + 1)) (j + 1) a) (fun _ _ => True) n (fun fuel j a hj _ => by
      show p_X11_missedOfData_L16b F (nI b) al dat chk (nI i) k5 _ a (nI j) = _
      unfold p_X11_missedOfData_L16b
      rw [M_data hb.1 hb.2.1]
      simp only [Option.bind_some]
      rw [if_neg (nI_ge hj (by omega)), nI_1]
      exact inner i j k5 _ a hi hj) (fun fuel a _ => by
      show p_X11_missedOfData_L16b F (nI b) al dat chk (nI i) k5 _ a (nI n) = _
      unfold p_X11_missedOfData_L16b
      rw [M_data hb.1 hb.2.1]
      simp only [Option.bind_some]
      rw [if_pos (nI_le (Nat.le_refl _) (by omega)), nI_1]) (fun _ _ _ _ => trivial) (n - (i + 1)) (i + 1) F u (by omega) (by omega) trivial
  have outer := fold_loop (fun fuel a i => p_X11_missedOfData_L4 F (nI b) al dat chk fuel a i) some (fun i a => fo (fun j a => fo (fun l a => a + nI (hit col (n + k) (x3 col i j l))) (n - (j + 1)) (j + 1) a) (n - (i + 1)) (i + 1) a) (fun _ _ => True) n (fun fuel i a hi _ => by
      show p_X11_missedOfData_L4b F (nI b) al dat chk _ a (nI i) = _
      unfold p_X11_missedOfData_L4b
      rw [M_data hb.1 hb.2.1]
      simp only [Option.bind_some]
      rw [if_neg (nI_ge hi (by omega)), nI_1]
      exact middle i _ a hi) (fun fuel a _ => by
      show p_X11_missedOfData_L4b F (nI b) al dat chk _ a (nI n) = _
      unfold p_X11_missedOfData_L4b
      rw [M_data hb.1 hb.2.1]
      simp only [Option.bind_some]
      rw [if_pos (nI_le (Nat.le_refl _) (by omega))]) (fun _ _ _ _ => trivial) n 0 F (nI 0) (by omega) (by omega) trivial
  refine Eq.trans outer (congrArg some ?_)
  have := g3_sum n (fun i j l => hit col (n + k) (x3 col i j l)) (nI 0)
  unfold g3 at this
  rw [this]
  exact Int32.zero_add _
/-- one more of what a number stands for -/
def bump (v : Nat) (a : Nat → Int32) : Nat → Int32 := upd a v (a v + 1)
theorem bump_at (v : Nat) (a : Nat → Int32) (x : Nat) : bump v a x = a x + nI (if v = x then 1 else 0) := by
  unfold bump
  rw [upd_at]
  by_cases e : x = v
  · subst e; rw [if_pos rfl, if_pos rfl]; rfl
  · rw [if_neg e, if_neg (fun h => e h.symm)]; exact (Int32.add_zero _).symm
/-- how many threes have this XOR, but for a place -/
def tb (col : Nat → Int32) (but i j l : Nat) (x : Nat) : Nat := if i = but ∨ j = but ∨ l = but then 0 else (if x3 col i j l = nI x then 1 else 0)
def tbS (col : Nat → Int32) (but i j l : Nat) (a : Nat → Int32) : Nat → Int32 := if i = but ∨ j = but ∨ l = but then a else bump (x3 col i j l).toNatClampNeg a
theorem ColB.x3 {col : Nat → Int32} {m i j l : Nat} (h : ColB m col) (hi : i < m) (hj : j < m) (hl : l < m) : ∃ v, v < 256 ∧ x3 col i j l = nI v := by
  obtain ⟨a, ha, ea⟩ := h i hi
  obtain ⟨b, hb, eb⟩ := h j hj
  obtain ⟨c, hc, ec⟩ := h l hl
  exact ⟨a ^^^ b ^^^ c, xor_256 (xor_256 ha hb) hc, by unfold _root_.Jvm.Pilot.COddColumnsLaw_law_r1472_7f996c.x3; rw [ea, eb, ec, nI_xor, nI_xor]⟩
theorem M_layThrees (hF : 1000 < F) (hb : MB b n k dat chk) (hc : CodeOK n k col) (hmc : MC b n k al dat chk col pr) (T : Nat → Int32) {bI : Int32} {but : Nat} (hbut : ∀ q, q < n + k → (nI q = bI ↔ q = but)) :
    ∃ T', p_X11_layThrees F (nI b) al dat chk T bI = some T' ∧ ∀ x, x < 256 → T' x = nI (w3 (n + k) (fun i j l => tb col but i j l x)) := by
  have hm := hc.hm
  have hB := hc.colB
  have inner : ∀ (i j : Nat) (k29 k39 : Int32 → (Nat → Int32) → Option (Nat → Int32)) (u : Nat → Int32), i < n + k → j < n + k → p_X11_layThrees_L51 F (nI b) al dat chk bI (nI (n + k)) (nI i) (nI j) k29 k39 F (nI (j + 1)) u = k39 (nI (j + 1)) (fo (fun l a => tbS col but i j l a) ((n + k) - (j + 1)) (j + 1) u) := by
    intro i j k29 k39 u hi hj
    exact fold_loop (fun fuel a l => p_X11_layThrees_L51 F (nI b) al dat chk bI (nI (n + k)) (nI i) (nI j) k29 k39 fuel l a) (fun a => k39 (nI (j + 1)) a) (fun l a => tbS col but i j l a) (fun _ _ => True) (n + k) (fun fuel l a hl _ => by
      show p_X11_layThrees_L51b F (nI b) al dat chk bI (nI (n + k)) (nI i) (nI j) k29 k39 _ (nI l) a = _
      obtain ⟨v, hv, ev⟩ := hB.x3 hi hj hl
      have g : ¬ ixBad (nI v) 256 := ixg hv (by decide)
      have c : (nI v).toNatClampNeg = v := nI_clamp (by omega)
      have ev' : col i ^^^ col j ^^^ col l = nI v := ev
      unfold p_X11_layThrees_L51b p_X11_layThrees_J102
      rw [if_neg (nI_ge hl (by omega)), hmc.col hi, hmc.col hj, hmc.col hl]
      simp only [Option.bind_some, ev', g, c, ↓reduceIte, nI_1, hbut i hi, hbut j hj, hbut l hl]
      unfold tbS
      by_cases c1 : i = but
      · simp only [c1, true_or, ↓reduceIte]
      · by_cases c2 : j = but
        · simp only [c1, c2, false_or, true_or, ↓reduceIte]
        · by_cases c3 : l = but
          · simp only [c1, c2, c3, false_or, ↓reduceIte]
          · simp only [c1, c2, c3, false_or, ↓reduceIte, ev, c]
            rfl) (fun fuel a _ => by
      show p_X11_layThrees_L51b F (nI b) al dat chk bI (nI (n + k)) (nI i) (nI j) k29 k39 _ (nI (n + k)) a = _
      unfold p_X11_layThrees_L51b
      rw [if_pos (nI_le (Nat.le_refl _) (by omega)), nI_1]) (fun _ _ _ _ => trivial) ((n + k) - (j + 1)) (j + 1) F u (by omega) (by omega) trivial
  have middle : ∀ (i : Nat) (k29 : Int32 → (Nat → Int32) → Option (Nat → Int32)) (u : Nat → Int32), i < n + k → p_X11_layThrees_L39 F (nI b) al dat chk bI (nI (n + k)) (nI i) k29 F (nI (i + 1)) u = k29 (nI (i + 1)) (fo (fun j a => fo (fun l a => tbS col but i j l a) ((n + k) - (j + 1)) (j + 1) a) ((n + k) - (i + 1)) (i + 1) u) := by
    intro i k29 u hi
    exact fold_loop (fun fuel a j => p_X11_layThrees_L39 F (nI b) al dat chk bI (nI (n + k)) (nI i) k29 fuel j a) (fun a => k29 (nI (i + 1)) a) (fun j a => fo (fun l a => tbS col but i j l a) ((n + k) - (j + 1)) (j + 1) a) (fun _ _ => True) (n + k) (fun fuel j a hj _ => by
      show p_X11_layThrees_L39b F (nI b) al dat chk bI (nI (n + k)) (nI i) k29 _ (nI j) a = _
      unfold p_X11_layThrees_L39b
      rw [if_neg (nI_ge hj (by omega)), nI_1]
      exact inner i j k29 _ a hi hj) (fun fuel a _ => by
      show p_X11_layThrees_L39b F (nI b) al dat chk bI (nI (n + k)) (nI i) k29 _ (nI (n + k)) a = _
      unfold p_X11_layThrees_L39b
      rw [if_pos (nI_le (Nat.le_refl _) (by omega)), nI_1]) (fun _ _ _ _ => trivial) ((n + k) - (i + 1)) (i + 1) F u (by omega) (by omega) trivial
  have outer : ∀ u : Nat → Int32, p_X11_layThrees_L29 F (nI b) al dat chk bI (nI (n + k)) F (nI 0) u = some (g3 (n + k) (tbS col but) u) := fun u => fold_loop (fun fuel a i => p_X11_layThrees_L29 F (nI b) al dat chk bI (nI (n + k)) fuel i a) some (fun i a => fo (fun j a => fo (fun l a => tbS col but i j l a) ((n + k) - (j + 1)) (j + 1) a) ((n + k) - (i + 1)) (i + 1) a) (fun _ _ => True) (n + k) (fun fuel i a hi _ => by
      show p_X11_layThrees_L29b F (nI b) al dat chk bI (nI (n + k)) _ (nI i) a = _
      unfold p_X11_layThrees_L29b
      rw [if_neg (nI_ge hi (by omega)), nI_1]
      exact middle i _ a hi) (fun fuel a _ => by
      show p_X11_layThrees_L29b F (nI b) al dat chk bI (nI (n + k)) _ (nI (n + k)) a = _
      unfold p_X11_layThrees_L29b
      rw [if_pos (nI_le (Nat.le_refl _) (by omega))]) (fun _ _ _ _ => trivial) (n + k) 0 F u (by omega) (by omega) trivial
  have fill := fold_loop (fun fuel (a : Nat → Int32) i => p_X11_layThrees_L2 F (nI b) al dat chk bI fuel i a) (fun a => p_X11_layThrees_L29 F (nI b) al dat chk bI (nI (n + k)) F (nI 0) a) (fun i a => upd a i ((fun _ => 0) i)) (fun _ _ => True) 256 (fun fuel i a hi _ => by
      show p_X11_layThrees_L2b F (nI b) al dat chk bI _ (nI i) a = _
      have g : ¬ ixBad (nI i) 256 := ixg hi (by decide)
      have c : (nI i).toNatClampNeg = i := nI_clamp (by omega)
      unfold p_X11_layThrees_L2b
      rw [if_neg (show ¬ (256 : Int32) ≤ nI i from nI_ge (b := 256) hi (by decide))]
      simp only [g, c, ↓reduceIte, nI_1]) (fun fuel a _ => by
      show p_X11_layThrees_L2b F (nI b) al dat chk bI _ (nI 256) a = _
      unfold p_X11_layThrees_L2b
      rw [if_pos (by decide), M_places hb.1 hb.2.1 hb.2.2]
      rfl) (fun _ _ _ _ => trivial) 256 0 F T (by omega) (by omega) trivial
  rw [cpy_fold, outer] at fill
  refine ⟨_, fill, fun x hx => ?_⟩
  have e : ∀ i j l (a : Nat → Int32), i < n + k → j < n + k → l < n + k → tbS col but i j l a x = a x + nI (tb col but i j l x) := by
    intro i j l a hi hj hl
    obtain ⟨v, hv, ev⟩ := hB.x3 hi hj hl
    unfold tbS tb
    by_cases c : i = but ∨ j = but ∨ l = but
    · rw [if_pos c, if_pos c]; exact (Int32.add_zero _).symm
    · rw [if_neg c, if_neg c, bump_at, ev, nI_clamp (by omega)]
      simp only [nI_eq (show v < 2 ^ 31 by omega) (show x < 2 ^ 31 by omega)]
  have e3 : ∀ (u : Nat → Int32), g3 (n + k) (tbS col but) u x = g3 (n + k) (fun i j l a => a + nI (tb col but i j l x)) (u x) := by
    intro u
    have key : ∀ (d i : Nat) (u : Nat → Int32), i + d ≤ n + k → (fo (fun i a => fo (fun j a => fo (fun l a => tbS col but i j l a) ((n + k) - (j + 1)) (j + 1) a) ((n + k) - (i + 1)) (i + 1) a) d i u) x = fo (fun i a => fo (fun j a => fo (fun l a => a + nI (tb col but i j l x)) ((n + k) - (j + 1)) (j + 1) a) ((n + k) - (i + 1)) (i + 1) a) d i (u x) := by
      have kl : ∀ (i j d l : Nat) (u : Nat → Int32), i < n + k → j < n + k → l + d ≤ n + k → (fo (fun l a => tbS col but i j l a) d l u) x = fo (fun l a => a + nI (tb col but i j l x)) d l (u x) := by
        intro i j d
        induction d with
        | zero => intros; rfl
        | succ d ih =>
          intro l u hi hj hl
          show (fo (fun l a => tbS col but i j l a) d (l + 1) (tbS col but i j l u)) x = fo (fun l a => a + nI (tb col but i j l x)) d (l + 1) (u x + nI (tb col but i j l x))
          rw [ih (l + 1) _ hi hj (by omega), e i j l u hi hj (by omega)]
      have kj : ∀ (i d j : Nat) (u : Nat → Int32), i < n + k → j + d ≤ n + k → (fo (fun j a => fo (fun l a => tbS col but i j l a) ((n + k) - (j + 1)) (j + 1) a) d j u) x = fo (fun j a => fo (fun l a => a + nI (tb col but i j l x)) ((n + k) - (j + 1)) (j + 1) a) d j (u x) := by
        intro i d
        induction d with
        | zero => intros; rfl
        | succ d ih =>
          intro j u hi hj
          show (fo (fun j a => fo (fun l a => tbS col but i j l a) ((n + k) - (j + 1)) (j + 1) a) d (j + 1) (fo (fun l a => tbS col but i j l a) ((n + k) - (j + 1)) (j + 1) u)) x = fo (fun j a => fo (fun l a => a + nI (tb col but i j l x)) ((n + k) - (j + 1)) (j + 1) a) d (j + 1) (fo (fun l a => a + nI (tb col but i j l x)) ((n + k) - (j + 1)) (j + 1) (u x))
          rw [ih (j + 1) _ hi (by omega), kl i j _ _ u hi (by omega) (by omega)]
      intro d
      induction d with
      | zero => intros; rfl
      | succ d ih =>
        intro i u hi
        show (fo (fun i a => fo (fun j a => fo (fun l a => tbS col but i j l a) ((n + k) - (j + 1)) (j + 1) a) ((n + k) - (i + 1)) (i + 1) a) d (i + 1) (fo (fun j a => fo (fun l a => tbS col but i j l a) ((n + k) - (j + 1)) (j + 1) a) ((n + k) - (i + 1)) (i + 1) u)) x = fo (fun i a => fo (fun j a => fo (fun l a => a + nI (tb col but i j l x)) ((n + k) - (j + 1)) (j + 1) a) ((n + k) - (i + 1)) (i + 1) a) d (i + 1) (fo (fun j a => fo (fun l a => a + nI (tb col but i j l x)) ((n + k) - (j + 1)) (j + 1) a) ((n + k) - (i + 1)) (i + 1) (u x))
        rw [ih (i + 1) _ (by omega), kj i _ _ u (by omega) (by omega)]
    exact key (n + k) 0 u (by omega)
  rw [e3, g3_sum]
  simp only [hx, ↓reduceIte]
  exact Int32.zero_add _
end Qry7
