/-! choosing columns, by every way -/
section Cho
variable {F n k : Nat}
theorem X0_freeAll (hF : 1000 < F) (a b : Nat → Int32) : p_X0_freeAll F a b = some ((fun j => if j < 256 then 0 else a j), (fun j => if j < 256 then 0 else b j)) := by
  have key := fold_loop (fun fuel (z : (Nat → Int32) × (Nat → Int32)) i => p_X0_freeAll_L2 F fuel i z.1 z.2) some (fun i (z : (Nat → Int32) × (Nat → Int32)) => (upd z.1 i ((fun _ => (0 : Int32)) i), upd z.2 i 0)) (fun _ _ => True) 256
    (fun fuel i z hi _ => by
      show p_X0_freeAll_L2b F _ (nI i) z.1 z.2 = _
      have g1 : ¬ ixBad (nI i) 256 := ixg hi (by decide)
      have c1 : (nI i).toNatClampNeg = i := nI_clamp (by omega)
      unfold p_X0_freeAll_L2b
      rw [if_neg (show ¬ (256 : Int32) ≤ nI i from nI_ge (b := 256) hi (by decide))]
      simp only [g1, c1, ↓reduceIte, nar0, nI_1])
    (fun fuel z _ => by
      show p_X0_freeAll_L2b F _ (nI 256) z.1 z.2 = _
      unfold p_X0_freeAll_L2b
      rw [if_pos (by decide)]) (fun _ _ _ _ => trivial) 256 0 F (a, b) (by omega) (by omega) trivial
  rw [fo_two] at key
  exact key
def pcA (n k : Nat) (a : Nat → Int32) : Nat → Int32 := fun j => if n ≤ j ∧ j < n + k then oh (j - n) else a j
theorem X1_placeChecks (hF : 1000 < F) (hm : n + k ≤ 32) (a : Nat → Int32) : p_X1_placeChecks F (nI n) (nI k) a = some (pcA n k a) := by
  have key := fold_loop (fun fuel (a : Nat → Int32) i => p_X1_placeChecks_L2 F (nI n) (nI k) fuel i a) some (fun i a => upd a (n + i) (oh i)) (fun _ _ => True) k
    (fun fuel i a hi _ => by
      show p_X1_placeChecks_L2b F (nI n) (nI k) _ (nI i) a = _
      have g1 : ¬ ixBad (nI (n + i)) 32 := ixg (by omega) (by decide)
      have c1 : (nI (n + i)).toNatClampNeg = n + i := nI_clamp (by omega)
      unfold p_X1_placeChecks_L2b
      rw [if_neg (nI_ge hi (by omega))]
      simp only [nI_add, g1, c1, ↓reduceIte, nI_1]
      rfl)
    (fun fuel a _ => by
      show p_X1_placeChecks_L2b F (nI n) (nI k) _ (nI k) a = _
      unfold p_X1_placeChecks_L2b
      rw [if_pos (nI_le (Nat.le_refl _) (by omega))]) (fun _ _ _ _ => trivial) k 0 F a (by omega) (by omega) trivial
  refine Eq.trans key (congrArg some ?_)
  have h2 : ∀ d, fo (fun i (a : Nat → Int32) => upd a (n + i) (oh i)) d 0 a = fun j => if n ≤ j ∧ j < n + d then oh (j - n) else a j := by
    intro d
    induction d with
    | zero => funext j; show a j = if n ≤ j ∧ j < n + 0 then _ else _; rw [if_neg (by omega)]
    | succ d ih =>
      rw [fo_succ, ih]
      funext j
      rw [upd_at]
      simp only [Nat.zero_add]
      by_cases h1 : j = n + d
      · rw [if_pos h1, if_pos (by omega), show j - n = d by omega]
      · rw [if_neg h1]
        by_cases h3 : n ≤ j ∧ j < n + d
        · rw [if_pos h3, if_pos (by omega)]
        · rw [if_neg h3, if_neg (by omega)]
  exact h2 k
theorem code_of {col mch : Nat → Int32} (hn4 : 4 ≤ n) (hn : n ≤ 24) (hk4 : 4 ≤ k) (hk : k ≤ 8) (h : ChO n k col mch) (hc : ∀ c, c < k → col (n + c) = oh c ∧ mch (n + c) = oh c) : CodeOK n k col ∧ ∀ p, p < n + k → mch p = col p := by
  refine ⟨⟨hn4, hn, hk4, hk, fun p hp => (h.1 p hp).1, fun c hc' => (hc c hc').1, fun p q hp hq e => ?_⟩, fun p hp => ?_⟩
  · rcases Nat.lt_trichotomy p q with q1 | q1 | q1
    · exact absurd e (h.2 p q q1 hq)
    · exact q1
    · exact absurd e.symm (h.2 q p q1 hp)
  · by_cases e : p < n
    · exact (h.1 p e).2
    · obtain ⟨e1, e2⟩ := hc (p - n) (by omega)
      rw [show n + (p - n) = p by omega] at e1 e2
      rw [e1, e2]
theorem M_choose (hF : 1000 < F) (hk4 : 4 ≤ k) (hk : k ≤ 8) (hn4 : 4 ≤ n) (hn : n ≤ 24) (w z27 z28 : Int32) (b1 b2 b3 b4 b5 b6 : Nat → Int32) :
    p_X11_choose F z27 z28 b1 b2 b3 b4 b5 b6 (nI n) (nI k) w = p_X11_choose_L41 F (nI n) (nI k) w 1 (nI 32) (nI (cN k)) z28 (OA (ordL k) b1) (fun j => if j < 32 then (if n ≤ j ∧ j < n + k then oh (j - n) else 0) else b2 j) b3 b4 (fun j => if j < 256 then 0 else b5 j) (fun j => if j < 256 then 0 else b6 j) := by
  unfold p_X11_choose
  rw [M_layOrdered hF hk4 hk]
  simp only [Option.bind_some]
  have key := fold_loop (fun fuel (z : (Nat → Int32) × (Nat → Int32)) i => p_X11_choose_L8 F (nI n) (nI k) w fuel i (nI (cN k)) z28 (OA (ordL k) b1) b2 b3 b4 z.1 z.2) (fun z => p_X11_choose_L41 F (nI n) (nI k) w F 0 (nI (cN k)) z28 (OA (ordL k) b1) b2 b3 b4 z.1 z.2) (fun i (z : (Nat → Int32) × (Nat → Int32)) => (upd z.1 i ((fun _ => (0 : Int32)) i), upd z.2 i 0)) (fun _ _ => True) 256
    (fun fuel i z hi _ => by
      show p_X11_choose_L8b F (nI n) (nI k) w _ (nI i) (nI (cN k)) z28 (OA (ordL k) b1) b2 b3 b4 z.1 z.2 = _
      have g1 : ¬ ixBad (nI i) 256 := ixg hi (by decide)
      have c1 : (nI i).toNatClampNeg = i := nI_clamp (by omega)
      unfold p_X11_choose_L8b
      rw [if_neg (show ¬ (256 : Int32) ≤ nI i from nI_ge (b := 256) hi (by decide))]
      simp only [g1, c1, ↓reduceIte, nar0, nI_1])
    (fun fuel z _ => by
      show p_X11_choose_L8b F (nI n) (nI k) w _ (nI 256) (nI (cN k)) z28 (OA (ordL k) b1) b2 b3 b4 z.1 z.2 = _
      unfold p_X11_choose_L8b
      rw [if_pos (by decide)]) (fun _ _ _ _ => trivial) 256 0 F (b5, b6) (by omega) (by omega) trivial
  rw [fo_two] at key
  refine Eq.trans key ?_
  have key2 := fold_loop (fun fuel (a : Nat → Int32) i => p_X11_choose_L41 F (nI n) (nI k) w fuel i (nI (cN k)) z28 (OA (ordL k) b1) a b3 b4 (fun j => if j < 256 then 0 else b5 j) (fun j => if j < 256 then 0 else b6 j)) (fun a => p_X11_choose_L41 F (nI n) (nI k) w 1 (nI 32) (nI (cN k)) z28 (OA (ordL k) b1) a b3 b4 (fun j => if j < 256 then 0 else b5 j) (fun j => if j < 256 then 0 else b6 j)) (fun i a => upd a i ((fun j => if n ≤ j ∧ j < n + k then oh (j - n) else (0 : Int32)) i)) (fun _ _ => True) 32
    (fun fuel i a hi _ => by
      show p_X11_choose_L41b F (nI n) (nI k) w _ (nI i) (nI (cN k)) z28 (OA (ordL k) b1) a b3 b4 _ _ = _
      have g1 : ¬ ixBad (nI i) 32 := ixg hi (by decide)
      have c1 : (nI i).toNatClampNeg = i := nI_clamp (by omega)
      have en : nI n + nI k - 1 = nI (n + k - 1) := by
        rw [nI_add]
        have := nI_pred (n + k - 1); rw [show n + k - 1 + 1 = n + k by omega] at this; exact this
      unfold p_X11_choose_L41b p_X11_choose_J78
      rw [if_neg (show ¬ (32 : Int32) ≤ nI i from nI_ge (b := 32) hi (by decide)), M_isIn, en]
      simp only [Option.bind_some, ite0, g1, c1, ↓reduceIte, nI_1]
      by_cases q : n ≤ i ∧ i < n + k
      · rw [if_pos (show nI n ≤ nI i ∧ nI i ≤ nI (n + k - 1) from ⟨nI_le q.1 (by omega), nI_le (by omega) (by omega)⟩), if_pos q, nI_sub q.1]
        rfl
      · rw [if_neg (show ¬ (nI n ≤ nI i ∧ nI i ≤ nI (n + k - 1)) from fun h => q ⟨(nI_leI (by omega) (by omega)).mp h.1, by have := (nI_leI (by omega) (by omega)).mp h.2; omega⟩), if_neg q])
    (fun fuel a _ => by
      show p_X11_choose_L41b F (nI n) (nI k) w _ (nI 32) (nI (cN k)) z28 (OA (ordL k) b1) a b3 b4 _ _ = p_X11_choose_L41b F (nI n) (nI k) w _ (nI 32) (nI (cN k)) z28 (OA (ordL k) b1) a b3 b4 _ _
      unfold p_X11_choose_L41b
      rw [if_pos (show (32 : Int32) ≤ nI 32 by decide), if_pos (show (32 : Int32) ≤ nI 32 by decide)]) (fun _ _ _ _ => trivial) 32 0 F b2 (by omega) (by omega) trivial
  rw [cpy_fold] at key2
  exact key2
theorem choose_both (hF : 3000000 < F) (hn4 : 4 ≤ n) (hn : n ≤ 24) (hk4 : 4 ≤ k) (hk : k ≤ 8) {w : Nat} (hw : w < 3) (x0 z27 z28 : Int32) (a1 a2 a3 a4 a5 a7 a8 a9 b1 b2 b3 b4 b5 b6 : Nat → Int32) :
    ∃ (r c1 m27 m28 : Int32) (A1 A2 A3 A4 A5 A7 A8 A9 B1 B2 B3 B4 B5 B6 : Nat → Int32), (r = 0 ∨ r = 1) ∧ (r = 1 → CodeOK n k A7 ∧ TabOK (n + k) A7 A8 A9 ∧ ∀ p, p < n + k → B2 p = A7 p) ∧
      p_X0_chooseColumns F x0 a1 a2 a3 a4 a5 (nI n) (nI k) a7 a8 a9 (nI w) = some (r, c1, A1, A2, A3, A4, A5, A7, A8, A9) ∧
      p_X11_choose F z27 z28 b1 b2 b3 b4 b5 b6 (nI n) (nI k) (nI w) = some (r, m27, m28, B1, B2, B3, B4, B5, B6) := by
  have hc := cN_le hk
  have hm : n + k ≤ 32 := by omega
  have hoX : ∀ i, i < cN k → OA (ordL k) a1 i = nI (oN k i) := fun i hi => OA_at a1 hi
  have hoM : ∀ i, i < cN k → OA (ordL k) b1 i = nI (oN k i) := fun i hi => OA_at b1 hi
  have hfin : ∀ col : Nat → Int32, CodeOK n k col → ∃ pl pr, TabOK (n + k) col pl pr ∧ ∀ (c1 : Int32) (A1 A2 A3 A4 A5 : Nat → Int32), p_X0_chooseColumns_J74 F (nI n) (nI k) c1 A1 A2 A3 A4 A5 col a8 a9 = some (1, c1, A1, A2, A3, A4, A5, col, pl, pr) := fun col hcol => by
    obtain ⟨pl, pr, e1, e2⟩ := X1_look (F := F) (a2 := a8) (a3 := a9) (by omega) hm hcol.colB
    refine ⟨pl, pr, e2, fun c1 A1 A2 A3 A4 A5 => ?_⟩
    unfold p_X0_chooseColumns_J74
    rw [e1]
    rfl
  rw [M_choose (by omega) hk4 hk hn4 hn]
  unfold p_X0_chooseColumns
  rw [X0_listInOrder (by omega) hk4 hk]
  simp only [Option.bind_some]
  have hM : ∀ (c2 : Nat → Int32), p_X11_choose_L41 F (nI n) (nI k) (nI w) 1 (nI 32) (nI (cN k)) z28 (OA (ordL k) b1) c2 b3 b4 (fun j => if j < 256 then 0 else b5 j) (fun j => if j < 256 then 0 else b6 j) = p_X11_choose_L41b F (nI n) (nI k) (nI w) (p_X11_choose_L41 F (nI n) (nI k) (nI w) 0) (nI 32) (nI (cN k)) z28 (OA (ordL k) b1) c2 b3 b4 (fun j => if j < 256 then 0 else b5 j) (fun j => if j < 256 then 0 else b6 j) := fun _ => rfl
  rw [hM]
  unfold p_X11_choose_L41b
  rw [if_pos (show (32 : Int32) ≤ nI 32 by decide)]
  show ∃ (r c1 m27 m28 : Int32) (A1 A2 A3 A4 A5 A7 A8 A9 B1 B2 B3 B4 B5 B6 : Nat → Int32), (r = 0 ∨ r = 1) ∧ (r = 1 → CodeOK n k A7 ∧ TabOK (n + k) A7 A8 A9 ∧ ∀ p, p < n + k → B2 p = A7 p) ∧ (if nI n ≤ nI (cN k) then _ else _) = _ ∧ _
  by_cases hcn : n ≤ cN k
  · rw [if_pos (nI_le hcn (by omega)), if_pos (nI_le hcn (by omega)), X0_freeAll (by omega), X1_placeChecks (by omega) hm]
    simp only [Option.bind_some]
    have E : PE F n k (OA (ordL k) a1) (OA (ordL k) b1) := ⟨hF, hn4, hn, hk4, hk, hcn, hoX, hoM⟩
    have chk : ∀ c, c < k → pcA n k a7 (n + c) = oh c ∧ (fun j => if j < 32 then (if n ≤ j ∧ j < n + k then oh (j - n) else (0 : Int32)) else b2 j) (n + c) = oh c := fun c hc' => by
      refine ⟨?_, ?_⟩
      · show (if n ≤ n + c ∧ n + c < n + k then oh (n + c - n) else a7 (n + c)) = _
        rw [if_pos (by omega), show n + c - n = c by omega]
      · show (if n + c < 32 then (if n ≤ n + c ∧ n + c < n + k then oh (n + c - n) else (0 : Int32)) else b2 (n + c)) = _
        rw [if_pos (by omega), if_pos (by omega), show n + c - n = c by omega]
    rcases (show w = 0 ∨ w = 1 ∨ w = 2 by omega) with rfl | rfl | rfl
    · -- first
      have g0 : ¬ ((0 : Int32) < 0 ∨ (0 : Int32) < 0 ∨ nI n < 0 ∨ 256 < (0 : Int32).toNatClampNeg + (nI n).toNatClampNeg ∨ 32 < (0 : Int32).toNatClampNeg + (nI n).toNatClampNeg) := by
        rw [nI_clamp (by omega), show (0 : Int32).toNatClampNeg = 0 from rfl]
        have := nI_pos (n := n) (by omega)
        have h00 : ¬ (0 : Int32) < 0 := by decide
        simp only [this, h00, false_or]
        omega
      rw [if_neg (show ¬ nI 0 = 2 by decide), if_neg (show ¬ nI 0 = 1 by decide), if_neg g0, if_neg (show ¬ nI 0 = 2 by decide), nI_clamp (by omega), show (0 : Int32).toNatClampNeg = 0 from rfl]
      have hL := fold_loop (fun fuel (a : Nat → Int32) i => p_X11_choose_L110 F (nI n) (nI k) (nI 0) fuel i (nI (cN k)) z28 (OA (ordL k) b1) a b3 b4 (fun j => if j < 256 then 0 else b5 j) (fun j => if j < 256 then 0 else b6 j)) (fun a => some (1, nI (cN k), z28, OA (ordL k) b1, a, b3, b4, (fun j => if j < 256 then 0 else b5 j), (fun j => if j < 256 then 0 else b6 j))) (fun i a => upd a i ((fun i => nI (oN k i)) i)) (fun _ _ => True) n
        (fun fuel i a hi _ => by
          show p_X11_choose_L110b F (nI n) (nI k) (nI 0) _ (nI i) (nI (cN k)) z28 (OA (ordL k) b1) a b3 b4 _ _ = _
          have g1 : ¬ ixBad (nI i) 32 := ixg (by omega) (by decide)
          have g2 : ¬ ixBad (nI i) 128 := ixg (by omega) (by decide)
          have c1 : (nI i).toNatClampNeg = i := nI_clamp (by omega)
          unfold p_X11_choose_L110b p_X11_choose_J141
          rw [if_neg (nI_ge hi (by omega)), if_pos (show nI 0 = 0 from rfl)]
          simp only [g1, g2, c1, ↓reduceIte, nI_1, hoM i (show i < cN k by omega)])
        (fun fuel a _ => by
          show p_X11_choose_L110b F (nI n) (nI k) (nI 0) _ (nI n) (nI (cN k)) z28 (OA (ordL k) b1) a b3 b4 _ _ = _
          unfold p_X11_choose_L110b
          rw [if_pos (nI_le (Nat.le_refl _) (by omega))]) (fun _ _ _ _ => trivial) n 0 F (fun j => if j < 32 then (if n ≤ j ∧ j < n + k then oh (j - n) else 0) else b2 j) (by omega) (by omega) trivial
      rw [cpy_fold] at hL
      have hch : ChO n k (va_cpy (OA (ordL k) a1) (pcA n k a7) 0 0 n) (fun j => if j < n then nI (oN k j) else if j < 32 then (if n ≤ j ∧ j < n + k then oh (j - n) else 0) else b2 j) := by
        refine ⟨fun q hq => ?_, fun q r hqr hr => ?_⟩
        · rw [cpy0 hq, hoX q (by omega)]
          exact ⟨oN_dcol (by omega), if_pos hq⟩
        · rw [cpy0 (by omega), cpy0 hr, hoX q (by omega), hoX r (by omega)]
          intro e
          have l1 := oN_lt (k := k) (show q < cN k by omega)
          have l2 := oN_lt (k := k) (show r < cN k by omega)
          have l3 := pow_le8 hk
          rw [nI_eq (by omega) (by omega)] at e
          exact oN_ne hqr (by omega) e
      obtain ⟨h1, h2⟩ := code_of hn4 hn hk4 hk hch (fun c hc' => by
        obtain ⟨q1, q2⟩ := chk c hc'
        refine ⟨?_, ?_⟩
        · rw [pk_cpy_out (Or.inr (by omega))]; exact q1
        · show (if n + c < n then nI (oN k (n + c)) else _) = _
          rw [if_neg (by omega)]; exact q2)
      obtain ⟨pl, pr, e1, e2⟩ := hfin _ h1
      exact ⟨1, _, _, _, _, _, _, _, _, _, _, _, _, _, _, _, _, _, Or.inr rfl, fun _ => ⟨h1, e1, h2⟩, e2 _ _ _ _ _ _, hL⟩
    · -- balanced
      rw [if_neg (show ¬ nI 1 = 2 by decide), if_pos (show nI 1 = 1 from rfl), if_neg (show ¬ nI 1 = 2 by decide)]
      unfold p_X0_chooseBalanced
      rw [fill_eq F 8 a5 0 (by decide) (by omega)]
      simp only [Option.bind_some]
      have hBI : BI k 0 (pcA n k a7) (fun j => if j < 256 then 0 else a2 j) (fun j => if j < 8 then 0 else a5 j) (fun j => if j < 32 then (if n ≤ j ∧ j < n + k then oh (j - n) else 0) else b2 j) (fun j => if j < 256 then 0 else b5 j) b4 := by
        refine ⟨fun c hc' => ?_, fun c hc' hne => ?_, fun q hq => absurd hq (by omega), fun q r _ hr => absurd hr (by omega), fun _ => 0, fun r hr => ⟨?_, Nat.zero_le _⟩, fun _ _ _ => rfl, fun h => absurd h (by omega), fun _ _ _ => rfl⟩
        · show (if c < 256 then (0 : Int32) else a2 c) = if c < 256 then 0 else b5 c
          rw [if_pos hc', if_pos hc']
        · exact absurd (if_pos hc') hne
        · exact if_pos hr
      obtain ⟨col', tk', wr', mch', mt', mw', q1, q2, q3, q4⟩ := bal_loop (F := F) (by omega) hk4 hk hn hcn hoX hoM z28 b3 (fun j => if j < 256 then 0 else b6 j) n 0 F F _ _ _ _ _ _ (by omega) (by omega) (by omega) hBI
      obtain ⟨h1, h2⟩ := code_of hn4 hn hk4 hk q1 (fun c hc' => by
        obtain ⟨s1, s2⟩ := chk c hc'
        obtain ⟨s3, s4⟩ := q2 (n + c) (by omega)
        rw [s3, s4]
        exact ⟨s1, s2⟩)
      obtain ⟨pl, pr, e1, e2⟩ := hfin _ h1
      refine ⟨1, nI (cN k), nI (cN k), z28, OA (ordL k) a1, tk', (fun j => if j < 256 then 0 else a3 j), a4, wr', col', pl, pr, OA (ordL k) b1, mch', b3, mw', mt', (fun j => if j < 256 then 0 else b6 j), Or.inr rfl, fun _ => ⟨h1, e1, h2⟩, ?_, q4⟩
      have q3' : p_X0_chooseBalanced_L10 F (nI (cN k)) (OA (ordL k) a1) (nI n) F 0 (fun j => if j < 256 then 0 else a2 j) (fun j => if j < 8 then 0 else a5 j) (pcA n k a7) = some (tk', wr', col') := q3
      show (p_X0_chooseBalanced_L10 F (nI (cN k)) (OA (ordL k) a1) (nI n) F 0 (fun j => if j < 256 then 0 else a2 j) (fun j => if j < 8 then 0 else a5 j) (pcA n k a7)).bind _ = _
      rw [q3']
      exact e2 _ _ _ _ _ _
    · -- paired
      rw [if_pos (show nI 2 = 2 from rfl), if_pos (show nI 2 = 2 from rfl)]
      obtain ⟨r, a2', a3', a4', a6', t', b2', b3', b4', b5', r1, r2, r3, r4⟩ := pair_both E z28 (fun j => if j < 256 then 0 else a2 j) (fun j => if j < 256 then 0 else a3 j) a4 (pcA n k a7) (fun j => if j < 32 then (if n ≤ j ∧ j < n + k then oh (j - n) else 0) else b2 j) b3 (fun j => if j < 256 then 0 else b5 j) (fun j => if j < 256 then 0 else b6 j) (fun c hc' => by
        refine ⟨if_pos hc', if_pos hc', ?_⟩
        show (if c < 256 then (0 : Int32) else a3 c) = if c < 256 then 0 else b6 c
        rw [if_pos hc', if_pos hc'])
      have r3' : p_X0_choosePaired F (nI (ordL k).length) (OA (ordL k) a1) (fun j => if j < 256 then 0 else a2 j) (fun j => if j < 256 then 0 else a3 j) a4 (nI n) (nI k) (pcA n k a7) = some (r, a2', a3', a4', a6') := r3
      rw [r3', r4]
      simp only [Option.bind_some]
      have nr : ¬ ¬ (r = 0 ∨ r = 1) := fun h => h r1
      rw [if_neg nr]
      rcases r1 with rfl | rfl
      · rw [if_pos rfl]
        exact ⟨0, _, _, _, _, _, _, _, _, _, _, _, _, _, _, _, _, _, Or.inl rfl, fun h => absurd h (by decide), rfl, rfl⟩
      · rw [if_neg i32_1_0]
        obtain ⟨q1, q2⟩ := r2 rfl
        obtain ⟨h1, h2⟩ := code_of hn4 hn hk4 hk q1 (fun c hc' => by
          obtain ⟨s1, s2⟩ := chk c hc'
          obtain ⟨s3, s4⟩ := q2 (n + c) (by omega)
          rw [s3, s4]
          exact ⟨s1, s2⟩)
        obtain ⟨pl, pr, e1, e2⟩ := hfin _ h1
        exact ⟨1, _, _, _, _, _, _, _, _, _, _, _, _, _, _, _, _, _, Or.inr rfl, fun _ => ⟨h1, e1, h2⟩, e2 _ _ _ _ _ _, rfl⟩
  · rw [if_neg (nI_ge (by omega) (by omega)), if_neg (nI_ge (by omega) (by omega))]
    exact ⟨0, _, _, _, _, _, _, _, _, _, _, _, _, _, _, _, _, _, Or.inl rfl, fun h => absurd h (by decide), rfl, rfl⟩
end Cho
