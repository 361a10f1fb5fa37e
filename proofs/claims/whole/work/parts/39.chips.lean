/-! sets of places of a chip -/
theorem fo_addI (f : Nat → Int32) : ∀ (d i : Nat) (a : Int32), fo (fun s a => a + f s) d i a = a + fo (fun s a => a + f s) d i 0
  | 0, _, a => (Int32.add_zero a).symm
  | d + 1, i, a => by
    show fo (fun s a => a + f s) d (i + 1) (a + f i) = a + fo (fun s a => a + f s) d (i + 1) (0 + f i)
    rw [fo_addI f d (i + 1) (a + f i), fo_addI f d (i + 1) (0 + f i), Int32.zero_add, Int32.add_assoc]
def xsC (col : Nat → Int32) (c s : Nat) : Int32 := sy (fun i => col (4 * c + i)) (nI s) 4
def srC (col : Nat → Int32) (m : Nat) (pr : Int32) (c s : Nat) : Int32 := jdS (rdS col m pr (xsC col c s) (-1) (-1)).1 (rdS col m pr (xsC col c s) (-1) (-1)).2.2 (nI s <<< (nI (4 * c) &&& 31))
def szC (m c : Nat) : Nat := min 4 (m - 4 * c)
def csC (col : Nat → Int32) (m : Nat) (pr : Int32) (w : Int32) (c : Nat) : Int32 := fo (fun s a => a + (if srC col m pr c s = w then 1 else 0)) (2 ^ szC m c - 1) 1 0
def alC (col : Nat → Int32) (m : Nat) (pr : Int32) (w : Int32) (c0 d : Nat) : Int32 := fo (fun c a => a + csC col m pr w c) d c0 0
theorem one_tab : ∀ p, p < 32 → ∀ c, c < 8 → ∀ s, s < 16 → (if (if (0 : Int32) ≤ nI p - nI (4 * c) ∧ nI p - nI (4 * c) ≤ 3 then (1 : Int32) else 0) = 0 then (2 : Int32) else if nI s = (1 : Int32) <<< ((nI p - nI (4 * c)) &&& 31) then 0 else 2) = if oh p = nI s <<< (nI (4 * c) &&& 31) then 0 else 2 := by decide +kernel
theorem two_tab : ∀ p, p < 31 → ∀ c, c < 8 → ∀ s, s < 16 → (if (if (0 : Int32) ≤ nI p - nI (4 * c) ∧ nI p - nI (4 * c) ≤ 2 then (1 : Int32) else 0) = 0 then (2 : Int32) else if nI s = (3 : Int32) <<< ((nI p - nI (4 * c)) &&& 31) then 0 else 2) = if (3 : Int32) <<< (nI p &&& 31) = nI s <<< (nI (4 * c) &&& 31) then 0 else 2 := by decide +kernel
theorem zero_tab : ∀ c, c < 8 → ∀ s, s < 16 → 1 ≤ s → ¬ (0 : Int32) = nI s <<< (nI (4 * c) &&& 31) := by decide +kernel
theorem bit_tab : ∀ z, z ≤ 4 → ∀ s, s < 2 ^ z → ∀ i, i < 4 → z ≤ i → bt (nI s) i = false := by decide +kernel
theorem pow_tab : ∀ z, z ≤ 4 → (1 : Int32) <<< (nI z &&& 31) = nI (2 ^ z) ∧ 2 ^ z ≤ 16 ∧ 1 ≤ 2 ^ z := by decide +kernel
section Chip
variable {F b n k g a : Nat} {dat chk : Nat → Int32} {pr : Int32} {col pl prT bits mea stk syn tal al : Nat → Int32} {st : Nat → Option Nat}
theorem srC_in (col : Nat → Int32) (m : Nat) (pr : Int32) (c s : Nat) : ∃ q, q < 3 ∧ srC col m pr c s = nI q := by
  unfold srC jdS
  split
  · exact ⟨1, by decide, rfl⟩
  · split
    · exact ⟨0, by decide, rfl⟩
    · exact ⟨2, by decide, rfl⟩
theorem stk_none (m : Nat) : Stk m 0 (-1) (-1) := Or.inl ⟨rfl, rfl, rfl⟩
theorem X4_xor {c s m : Nat} (hF : 1000 < F) (hm : m ≤ 32) (hs : s < 2 ^ szC m c) (hcm : 4 * c < m) : p_X4_xorOfSet F col (nI (4 * c)) (nI s) = some (xsC col c s) := by
  have hz : szC m c ≤ 4 := Nat.min_le_left _ _
  have key := fold_loop (fun fuel a i => p_X4_xorOfSet_L5 F col (nI (4 * c)) (nI s) fuel a i) some (fun i a => a ^^^ (if bt (nI s) i = true then col (4 * c + i) else 0)) (fun _ _ => True) 4
    (fun fuel i a hi _ => by
      show p_X4_xorOfSet_L5b F col (nI (4 * c)) (nI s) _ a (nI i) = _
      unfold p_X4_xorOfSet_L5b p_X4_xorOfSet_J33
      rw [if_neg (show ¬ (4 : Int32) ≤ nI i from nI_ge (b := 4) hi (by decide)), bit1u _ (by omega), nI_1]
      by_cases h : bt (nI s) i = true
      · have hi2 : i < szC m c := by
          rcases Nat.lt_or_ge i (szC m c) with q | q
          · exact q
          · rw [bit_tab _ hz s hs i hi q] at h; cases h
        have hi3 : 4 * c + i < 32 := by unfold szC at hi2; omega
        rw [if_pos h, if_pos rfl, nI_add, if_neg (ixg hi3 (by decide)), nI_clamp (by omega), jlet_eq, if_pos h]
      · rw [if_neg h, if_neg (by decide), if_neg h, xo_zero])
    (fun fuel a _ => by
      show p_X4_xorOfSet_L5b F col (nI (4 * c)) (nI s) _ a (nI 4) = _
      unfold p_X4_xorOfSet_L5b
      rw [if_pos (by decide)]) (fun _ _ _ _ => trivial) 4 0 F 0 (by omega) (by omega) trivial
  refine Eq.trans key (congrArg some ?_)
  rfl
theorem X4_sets {c w : Nat} (hF : 1000 < F) (hm : n + k ≤ 32) (hB : ColB (n + k) col) (ht : TabOK (n + k) col pl prT) (hpr : pr = 0 ∨ pr = 1) (hc : 4 * c < n + k) (y0 y1 y2 : Int32) :
    ∃ y, p_X4_countSets F y0 y1 y2 (nI n) (nI k) pr col pl prT (nI c) (nI w) = some (csC col (n + k) pr (nI w) c, y) := by
  have hz : szC (n + k) c ≤ 4 := Nat.min_le_left _ _
  obtain ⟨p1, p2, p3⟩ := pow_tab _ hz
  let gg : Nat → Int32 × (Int32 × Int32 × Int32) → Int32 × (Int32 × Int32 × Int32) := fun s z => (z.1 + (if srC col (n + k) pr c s = nI w then 1 else 0), rdS col (n + k) pr (xsC col c s) (-1) (-1))
  have key := fold_loop (fun fuel (z : Int32 × (Int32 × Int32 × Int32)) s => p_X4_countSets_L24 F (nI n) (nI k) pr col pl prT (nI w) (nI (4 * c)) (nI (szC (n + k) c)) fuel z.1 s z.2.1 z.2.2.1 z.2.2.2) some gg (fun _ _ => True) (2 ^ szC (n + k) c)
    (fun fuel s z hs _ => by
      show p_X4_countSets_L24b F (nI n) (nI k) pr col pl prT (nI w) (nI (4 * c)) (nI (szC (n + k) c)) _ z.1 (nI s) z.2.1 z.2.2.1 z.2.2.2 = p_X4_countSets_L24 F (nI n) (nI k) pr col pl prT (nI w) (nI (4 * c)) (nI (szC (n + k) c)) fuel (gg s z).1 (nI (s + 1)) (gg s z).2.1 (gg s z).2.2.1 (gg s z).2.2.2
      unfold p_X4_countSets_L24b p_X4_countSets_J77
      rw [p1, if_neg (nI_ge hs (by omega)), X4_xor hF hm hs hc]
      simp only [Option.bind_some]
      rw [X2_read (by omega) hm hB ht (stk_none (n + k)) hpr]
      simp only [Option.bind_some]
      rw [X2_judge]
      simp only [Option.bind_some, nI_1]
      show (if srC col (n + k) pr c s = nI w then _ else _) = _
      by_cases h : srC col (n + k) pr c s = nI w
      · simp only [gg, h, ↓reduceIte]
      · simp only [gg, h, ↓reduceIte])
    (fun fuel z _ => by
      show p_X4_countSets_L24b F (nI n) (nI k) pr col pl prT (nI w) (nI (4 * c)) (nI (szC (n + k) c)) _ z.1 (nI (2 ^ szC (n + k) c)) z.2.1 z.2.2.1 z.2.2.2 = _
      unfold p_X4_countSets_L24b
      rw [p1, if_pos (nI_le (Nat.le_refl _) (by omega))]) (fun _ _ _ _ => trivial) (2 ^ szC (n + k) c - 1) 1 F (0, y0, y1, y2) (by omega) (by omega) trivial
  refine ⟨(fo gg (2 ^ szC (n + k) c - 1) 1 (0, y0, y1, y2)).2, ?_⟩
  have e : (fo gg (2 ^ szC (n + k) c - 1) 1 (0, y0, y1, y2)).1 = csC col (n + k) pr (nI w) c := fo_fst (g1 := fun s a => a + (if srC col (n + k) pr c s = nI w then 1 else 0)) (fun _ _ => rfl) _ _ _
  rw [← e]
  unfold p_X4_countSets p_X1_places
  simp only [Option.bind_some, jlet_eq, nI_add]
  have e4 : nI c * (4 : Int32) = nI (4 * c) := by rw [show (4 : Int32) = nI 4 from rfl, pk_mul, Nat.mul_comm]
  rw [e4, nI_sub (by omega), show (4 : Int32) = nI 4 from rfl, nI_minL (by omega) (by omega)]
  exact key
theorem MC.sort {c s : Nat} (hF : 1000 < F) (hmc : MC b n k al dat chk col pr) (hpr : pr = 0 ∨ pr = 1) (hc : c < 8) (hs : s < 16) (h1 : 1 ≤ s) : p_X11_sortOf F (nI b) al dat chk (xsC col c s) (nI s) (nI (4 * c)) = some (srC col (n + k) pr c s) := by
  have hn32 : n + k ≤ 32 := by obtain ⟨hb, hd, hk, n1, n2, k1, k2, _⟩ := hmc; omega
  have hp32 : al 32 = pr := hmc.2.2.2.2.2.2.2.2.1
  unfold p_X11_sortOf srC rdS
  have m0 : ¬ (0 : Int32) ≤ -1 := by decide
  by_cases c0 : xsC col c s = 0
  · rw [if_pos c0, if_pos c0]
    unfold jdS
    rw [if_neg (by decide), if_neg (zero_tab c hc s hs h1)]
  · rw [if_neg c0, if_neg c0, hmc.place (by omega)]
    simp only [Option.bind_some, m0, false_and, ↓reduceIte]
    rcases plc_cases col (n + k) (xsC col c s) with ⟨p, hp, _, e⟩ | e
    · rw [e, if_neg (nI_pos (by omega)), M_isIn, if_pos (nI_ne_m1 (by omega))]
      simp only [Option.bind_some, ite_some]
      unfold jdS
      rw [one_tab p (by omega) c hc s hs, if_neg (show ¬ ((1 : Int32) = 3 ∨ (1 : Int32) = 4) by decide)]
      rfl
    · rw [e, if_pos (show (-1 : Int32) < 0 by decide), if_neg nn1]
      have c32 : (32 : Int32).toNatClampNeg = 32 := rfl
      simp only [c32, hp32]
      have last : ∀ q, (q = -1 ∨ ∃ f, f + 1 < n + k ∧ q = nI f) → p_X11_sortOf_J66 F (nI b) al dat chk (nI s) (nI (4 * c)) q = some (if ¬ q = -1 then (if (3 : Int32) <<< (q &&& 31) = nI s <<< (nI (4 * c) &&& 31) then 0 else 2) else 1) := by
        intro q hq
        unfold p_X11_sortOf_J66
        rcases hq with rfl | ⟨f, hf, rfl⟩
        · rw [if_neg (by decide), if_neg (fun h => h rfl)]
        · rw [if_pos (nI_ge0 (by omega)), M_isIn, if_pos (nI_ne_m1 (by omega))]
          simp only [Option.bind_some, ite_some]
          rw [two_tab f (by omega) c hc s hs]
      have fin : ∀ q, (if ¬ q = -1 then (if (3 : Int32) <<< (q &&& 31) = nI s <<< (nI (4 * c) &&& 31) then (0 : Int32) else 2) else 1) = if ¬ q = -1 then jdS 2 ((3 : Int32) <<< (q &&& 31)) (nI s <<< (nI (4 * c) &&& 31)) else 1 := by
        intro q
        by_cases h : q = -1
        · rw [if_neg (fun q => q h), if_neg (fun q => q h)]
        · rw [if_pos h, if_pos h]
          unfold jdS
          rw [if_neg (show ¬ ((2 : Int32) = 3 ∨ (2 : Int32) = 4) by decide)]
      have told : jdS (if pcn (xsC col c s) % 2 = 0 then 3 else 4) 0 (nI s <<< (nI (4 * c) &&& 31)) = 1 := by
        unfold jdS
        by_cases h : pcn (xsC col c s) % 2 = 0
        · rw [if_pos h, if_pos (by decide)]
        · rw [if_neg h, if_pos (by decide)]
      rcases hpr with h0 | h0
      · rw [h0, if_neg (show ¬ (0 : Int32) = 1 by decide), last (-1) (Or.inl rfl), if_neg nn1, if_neg (fun h => absurd h.1 (by decide))]
        exact congrArg some told.symm
      · rw [h0, if_pos (show (1 : Int32) = 1 from rfl), hmc.pair (by omega)]
        simp only [Option.bind_some]
        rcases prc_cases col (n + k) (xsC col c s) with ⟨f, hf, _, e2⟩ | e2
        · rw [e2, last _ (Or.inr ⟨f, hf, rfl⟩), fin, if_pos (nI_ne_m1 (by omega)), if_pos ⟨trivial, nI_ne_m1 (by omega)⟩]
        · rw [e2, last _ (Or.inl rfl), fin, if_neg nn1, if_neg (fun h => h.2 rfl)]
          exact congrArg some told.symm
theorem M_less (F : Nat) (x y : Int32) : p_X11_less F x y = some (if y ≤ x then y else x) := by
  unfold p_X11_less
  rw [ite_some]
def bm3 (q : Nat) (T : Nat → Int32) : Nat → Int32 := upd T q (T q + 1)
theorem M_addChip {c : Nat} (hF : 1000 < F) (hmc : MC b n k al dat chk col pr) (hpr : pr = 0 ∨ pr = 1) (hc : 4 * c < n + k) (T : Nat → Int32) :
    ∃ T', p_X11_addChip F (nI b) al dat chk T (nI c) = some T' ∧ ∀ w, w < 3 → T' w = T w + csC col (n + k) pr (nI w) c := by
  have hn32 : n + k ≤ 32 := by obtain ⟨hb, hd, hk, n1, n2, k1, k2, _⟩ := id hmc; omega
  have hz : szC (n + k) c ≤ 4 := Nat.min_le_left _ _
  obtain ⟨p1, p2, p3⟩ := pow_tab _ hz
  let gg : Nat → (Nat → Int32) → (Nat → Int32) := fun s T => bm3 (srC col (n + k) pr c s).toNatClampNeg T
  have inner : ∀ (s : Nat) (k18 : Int32 → (Nat → Int32) → Option (Nat → Int32)) (T : Nat → Int32), 1 ≤ s → s < 2 ^ szC (n + k) c → p_X11_addChip_L32 F (nI b) al dat chk (nI (4 * c)) (nI (szC (n + k) c)) (nI s) k18 F 0 0 T = k18 (nI (s + 1)) (gg s T) := by
    intro s k18 T h1 hs
    have key := fold_loop (fun fuel a i => p_X11_addChip_L32 F (nI b) al dat chk (nI (4 * c)) (nI (szC (n + k) c)) (nI s) k18 fuel a i T) (fun a => p_X11_addChip_L32 F (nI b) al dat chk (nI (4 * c)) (nI (szC (n + k) c)) (nI s) k18 1 a (nI (szC (n + k) c)) T) (fun i a => a ^^^ (if bt (nI s) i = true then col (4 * c + i) else 0)) (fun _ _ => True) (szC (n + k) c)
      (fun fuel i a hi _ => by
        show p_X11_addChip_L32b F (nI b) al dat chk (nI (4 * c)) (nI (szC (n + k) c)) (nI s) k18 _ a (nI i) T = _
        have hi3 : 4 * c + i < n + k := by unfold szC at hi; omega
        unfold p_X11_addChip_L32b p_X11_addChip_J62
        rw [if_neg (nI_ge hi (by omega)), bit1s _ (by omega), nI_1]
        by_cases h : bt (nI s) i = true
        · rw [if_pos h, if_pos rfl, nI_add, hmc.col hi3, if_pos h]
          rfl
        · rw [if_neg h, if_neg (by decide), if_neg h, xo_zero])
      (fun fuel a _ => by
        show p_X11_addChip_L32b F (nI b) al dat chk (nI (4 * c)) (nI (szC (n + k) c)) (nI s) k18 _ a (nI (szC (n + k) c)) T = p_X11_addChip_L32b F (nI b) al dat chk (nI (4 * c)) (nI (szC (n + k) c)) (nI s) k18 _ a (nI (szC (n + k) c)) T
        unfold p_X11_addChip_L32b
        rw [if_pos (nI_le (Nat.le_refl _) (by omega)), if_pos (nI_le (Nat.le_refl _) (by omega))]) (fun _ _ _ _ => trivial) (szC (n + k) c) 0 F 0 (by omega) (by omega) trivial
    have ex : fo (fun i a => a ^^^ (if bt (nI s) i = true then col (4 * c + i) else 0)) (szC (n + k) c) 0 0 = xsC col c s := by
      have h2 : ∀ d, fo (fun i a => a ^^^ (if bt (nI s) i = true then col (4 * c + i) else 0)) d 0 0 = sy (fun i => col (4 * c + i)) (nI s) d := by
        intro d
        induction d with
        | zero => rfl
        | succ d ih =>
          rw [fo_succ, ih]
          simp only [Nat.zero_add]
          rfl
      rw [h2]
      have h3 := sy_split (fun i => col (4 * c + i)) (nI s) (szC (n + k) c) (4 - szC (n + k) c) (fun p q1 q2 => bit_tab _ hz s hs p (by omega) q1)
      rw [show szC (n + k) c + (4 - szC (n + k) c) = 4 by omega] at h3
      exact h3.symm
    rw [ex] at key
    refine Eq.trans key ?_
    show p_X11_addChip_L32b F (nI b) al dat chk (nI (4 * c)) (nI (szC (n + k) c)) (nI s) k18 _ (xsC col c s) (nI (szC (n + k) c)) T = _
    unfold p_X11_addChip_L32b
    rw [if_pos (nI_le (Nat.le_refl _) (by omega)), hmc.sort hF hpr (by omega) (by omega) h1]
    obtain ⟨q, hq, eq⟩ := srC_in col (n + k) pr c s
    have g3 : ¬ ixBad (nI q) 3 := ixg hq (by decide)
    simp only [Option.bind_some, gg, eq, g3, ↓reduceIte, nI_1]
    rfl
  have outer := fold_loop (fun fuel (T : Nat → Int32) s => p_X11_addChip_L18 F (nI b) al dat chk (nI (4 * c)) (nI (szC (n + k) c)) fuel s T) some gg (fun s _ => 1 ≤ s) (2 ^ szC (n + k) c)
    (fun fuel s T hs h1 => by
      show p_X11_addChip_L18b F (nI b) al dat chk (nI (4 * c)) (nI (szC (n + k) c)) _ (nI s) T = _
      unfold p_X11_addChip_L18b
      rw [p1, if_neg (nI_ge hs (by omega))]
      exact inner s _ T h1 hs)
    (fun fuel T _ => by
      show p_X11_addChip_L18b F (nI b) al dat chk (nI (4 * c)) (nI (szC (n + k) c)) _ (nI (2 ^ szC (n + k) c)) T = _
      unfold p_X11_addChip_L18b
      rw [p1, if_pos (nI_le (Nat.le_refl _) (by omega))]) (fun _ _ _ h => by omega) (2 ^ szC (n + k) c - 1) 1 F T (by omega) (by omega) (Nat.le_refl _)
  refine ⟨fo gg (2 ^ szC (n + k) c - 1) 1 T, ?_, fun w hw => ?_⟩
  · unfold p_X11_addChip
    rw [M_places hmc.1 hmc.2.1 hmc.2.2.1]
    simp only [Option.bind_some]
    have e4 : (4 : Int32) * nI c = nI (4 * c) := by rw [show (4 : Int32) = nI 4 from rfl, pk_mul]
    rw [e4, M_less, nI_sub (by omega), show (4 : Int32) = nI 4 from rfl, nI_minM (by omega) (by omega)]
    exact outer
  · rw [fo_map (f := fun T : Nat → Int32 => T w) (g' := fun s a => a + (if srC col (n + k) pr c s = nI w then 1 else 0)) (fun s T => by
      obtain ⟨q, hq, eq⟩ := srC_in col (n + k) pr c s
      simp only [gg, bm3, upd_at, eq, nI_clamp (show q < 2 ^ 31 by omega), nI_eq (show q < 2 ^ 31 by omega) (show w < 2 ^ 31 by omega)]
      by_cases e : w = q
      · subst e; simp
      · have e' : ¬ q = w := fun h => e h.symm
        simp [e, e'])]
    exact fo_addI _ _ _ _
theorem M_layChips {c0 d : Nat} (hF : 1000 < F) (hmc : MC b n k al dat chk col pr) (hpr : pr = 0 ∨ pr = 1) (hc : ∀ c, c < c0 + d → 4 * c < n + k) (T : Nat → Int32) :
    ∃ T', p_X11_layChips F (nI b) al dat chk T (nI c0) (nI (c0 + d)) = some T' ∧ ∀ w, w < 3 → T' w = alC col (n + k) pr (nI w) c0 d := by
  have hn32 : n + k ≤ 32 := by obtain ⟨hb, hd, hk, n1, n2, k1, k2, _⟩ := id hmc; omega
  have hle : c0 + d ≤ 8 := by
    rcases Nat.lt_or_ge 8 (c0 + d) with q | q
    · have := hc 8 q; omega
    · exact q
  have loop : ∀ (e c fuel : Nat) (T : Nat → Int32), c + e = c0 + d → e < fuel → ∃ T', p_X11_layChips_L22 F (nI b) al dat chk (nI (c0 + d)) fuel (nI c) T = some T' ∧ ∀ w, w < 3 → T' w = T w + alC col (n + k) pr (nI w) c e := by
    intro e
    induction e with
    | zero =>
      intro c fuel T he hf
      obtain ⟨fuel, rfl⟩ : ∃ q, fuel = q + 1 := ⟨fuel - 1, by omega⟩
      refine ⟨T, ?_, fun w _ => (Int32.add_zero _).symm⟩
      show p_X11_layChips_L22b F (nI b) al dat chk (nI (c0 + d)) _ (nI c) T = _
      unfold p_X11_layChips_L22b
      rw [if_pos (nI_le (by omega) (by omega))]
    | succ e ih =>
      intro c fuel T he hf
      obtain ⟨fuel, rfl⟩ : ∃ q, fuel = q + 1 := ⟨fuel - 1, by omega⟩
      obtain ⟨T1, t1, t2⟩ := M_addChip hF hmc hpr (hc c (by omega)) T
      obtain ⟨T2, t3, t4⟩ := ih (c + 1) fuel T1 (by omega) (by omega)
      refine ⟨T2, ?_, fun w hw => ?_⟩
      · rw [← t3]
        show p_X11_layChips_L22b F (nI b) al dat chk (nI (c0 + d)) _ (nI c) T = _
        unfold p_X11_layChips_L22b
        rw [if_neg (nI_ge (by omega) (by omega)), t1]
        simp only [Option.bind_some, nI_1]
      · rw [t4 w hw, t2 w hw]
        show _ = T w + fo (fun c a => a + csC col (n + k) pr (nI w) c) e (c + 1) (0 + csC col (n + k) pr (nI w) c)
        rw [fo_addI (fun c => csC col (n + k) pr (nI w) c) e (c + 1), Int32.zero_add, Int32.add_assoc]
        rfl
  obtain ⟨T1, t1, t2⟩ := loop d c0 F (fun j => if j < 3 then 0 else T j) rfl (by omega)
  refine ⟨T1, ?_, fun w hw => by rw [t2 w hw]; show (if w < 3 then (0 : Int32) else T w) + _ = _; rw [if_pos hw, Int32.zero_add]⟩
  have clr := fold_loop (fun fuel (a : Nat → Int32) i => p_X11_layChips_L2 F (nI b) al dat chk (nI c0) (nI (c0 + d)) fuel i a) (fun a => p_X11_layChips_L22 F (nI b) al dat chk (nI (c0 + d)) F (nI c0) a) (fun i a => upd a i ((fun _ => (0 : Int32)) i)) (fun _ _ => True) 3
    (fun fuel i a hi _ => by
      show p_X11_layChips_L2b F (nI b) al dat chk (nI c0) (nI (c0 + d)) _ (nI i) a = _
      have g1 : ¬ ixBad (nI i) 3 := ixg (by omega) (by decide)
      have c1 : (nI i).toNatClampNeg = i := nI_clamp (by omega)
      unfold p_X11_layChips_L2b
      rw [if_neg (show ¬ (3 : Int32) ≤ nI i from nI_ge (b := 3) hi (by decide))]
      simp only [g1, c1, ↓reduceIte, nI_1])
    (fun fuel a _ => by
      show p_X11_layChips_L2b F (nI b) al dat chk (nI c0) (nI (c0 + d)) _ (nI 3) a = _
      unfold p_X11_layChips_L2b
      rw [if_pos (by decide)]) (fun _ _ _ _ => trivial) 3 0 F T (by omega) (by omega) trivial
  rw [cpy_fold] at clr
  exact Eq.trans clr t1
def chN (m : Nat) : Nat := (m + 3) / 4
theorem chN_lt {m c : Nat} (h : c < chN m) : 4 * c < m := by unfold chN at h; omega
theorem X1_chips (hm : n + k ≤ 32) : p_X1_chips F (nI n) (nI k) = some (nI (chN (n + k))) := by
  unfold p_X1_chips p_X1_places
  simp only [Option.bind_some, nI_add]
  have e : nI (n + k) + 4 - 1 = nI (n + k + 3) := by
    rw [show (4 : Int32) = nI 4 from rfl, nI_add]
    exact nI_pred (n + k + 3)
  rw [e, show (4 : Int32) = nI 4 from rfl, pk_div (by omega) (by decide) (by decide)]
  rfl
theorem M_chips (hmc : MC b n k al dat chk col pr) : p_X11_chipMany F (nI b) dat chk = some (nI (chN (n + k))) := by
  have hn32 : n + k ≤ 32 := by obtain ⟨hb, hd, hk, n1, n2, k1, k2, _⟩ := id hmc; omega
  unfold p_X11_chipMany
  rw [M_places hmc.1 hmc.2.1 hmc.2.2.1]
  simp only [Option.bind_some]
  rw [show (3 : Int32) = nI 3 from rfl, nI_add, show (4 : Int32) = nI 4 from rfl, pk_div (by omega) (by decide) (by decide)]
  rfl
theorem X4_all {w : Nat} (hF : 1000 < F) (hm : n + k ≤ 32) (hB : ColB (n + k) col) (ht : TabOK (n + k) col pl prT) (hpr : pr = 0 ∨ pr = 1) (y0 y1 y2 : Int32) :
    ∃ y, p_X4_countAllSets F y0 y1 y2 (nI n) (nI k) pr col pl prT (nI w) = some (alC col (n + k) pr (nI w) 0 (chN (n + k)), y) := by
  have hch : chN (n + k) ≤ 8 := by unfold chN; omega
  have loop : ∀ (e c fuel : Nat) (S y0 y1 y2 : Int32), c + e = chN (n + k) → e < fuel → ∃ y, p_X4_countAllSets_L5 F (nI n) (nI k) pr col pl prT (nI w) fuel S (nI c) y0 y1 y2 = some (S + alC col (n + k) pr (nI w) c e, y) := by
    intro e
    induction e with
    | zero =>
      intro c fuel S y0 y1 y2 he hf
      obtain ⟨fuel, rfl⟩ : ∃ q, fuel = q + 1 := ⟨fuel - 1, by omega⟩
      refine ⟨(y0, y1, y2), ?_⟩
      show p_X4_countAllSets_L5b F (nI n) (nI k) pr col pl prT (nI w) _ S (nI c) y0 y1 y2 = _
      unfold p_X4_countAllSets_L5b
      rw [X1_chips hm]
      simp only [Option.bind_some]
      rw [if_pos (nI_le (by omega) (by omega))]
      exact congrArg (fun q => some (q, y0, y1, y2)) (Int32.add_zero _).symm
    | succ e ih =>
      intro c fuel S y0 y1 y2 he hf
      obtain ⟨fuel, rfl⟩ : ∃ q, fuel = q + 1 := ⟨fuel - 1, by omega⟩
      obtain ⟨y, t1⟩ := X4_sets (w := w) hF hm hB ht hpr (chN_lt (show c < chN (n + k) by omega)) y0 y1 y2
      obtain ⟨y', t2⟩ := ih (c + 1) fuel (S + csC col (n + k) pr (nI w) c) y.1 y.2.1 y.2.2 (by omega) (by omega)
      refine ⟨y', ?_⟩
      have e2 : S + csC col (n + k) pr (nI w) c + alC col (n + k) pr (nI w) (c + 1) e = S + alC col (n + k) pr (nI w) c (e + 1) := by
        show _ = S + fo (fun c a => a + csC col (n + k) pr (nI w) c) e (c + 1) (0 + csC col (n + k) pr (nI w) c)
        rw [fo_addI (fun c => csC col (n + k) pr (nI w) c) e (c + 1), Int32.zero_add, Int32.add_assoc]
        rfl
      rw [← e2, ← t2]
      show p_X4_countAllSets_L5b F (nI n) (nI k) pr col pl prT (nI w) _ S (nI c) y0 y1 y2 = _
      unfold p_X4_countAllSets_L5b
      rw [X1_chips hm]
      simp only [Option.bind_some]
      rw [if_neg (nI_ge (by omega) (by omega)), t1]
      simp only [Option.bind_some, nI_1]
  obtain ⟨y, t⟩ := loop (chN (n + k)) 0 F 0 y0 y1 y2 (by omega) (by omega)
  exact ⟨y, by rw [Int32.zero_add] at t; exact t⟩
theorem Q_chip (hF : 1000 < F) (ha : a < 13) (hs : st a = some g) (hb : MB b n k dat chk) (h : SR n k pr col pl prT bits mea stk syn tal al) (y0 y1 y2 : Int32) (T : Nat → Int32) (v w : Int32) :
    ∃ r y z, p_X10_chip F g (nI a) st y0 y1 y2 (nI n) (nI k) pr col pl prT v w = some (r, y) ∧ p_X11_chip F (nI b) al dat chk T v w = some (r, z) := by
  obtain ⟨h1, hc, ht, ⟨ab, hR⟩, hW, hI⟩ := h
  have hm := hc.hm
  have hmc := hR.mc (hc.bc hb)
  have hn4 := hc.1
  have hch : chN (n + k) ≤ 8 ∧ 1 ≤ chN (n + k) := by unfold chN; omega
  unfold p_X10_chip p_X11_chip
  rw [now_eq ha hs, X1_chips hm, M_chips hmc]
  simp only [Option.bind_some]
  rcases rng w (N := 3) (by decide) with ⟨q, hq, rfl⟩ | hv
  · rw [if_neg (nI_pos (by omega)), if_neg (show ¬ (2 : Int32) < nI q from nI_nlt (b := q) (a := 2) (by omega) (by decide)), isIn_inL 3 2 rfl hq (by decide)]
    simp only [Option.bind_some]
    rw [if_neg i32_1_0, M_isIn]
    simp only [Option.bind_some, ite0]
    have g3 : ¬ ixBad (nI q) 3 := ixg hq (by decide)
    have c3 : (nI q).toNatClampNeg = q := nI_clamp (by omega)
    have epr : nI (chN (n + k)) - 1 = nI (chN (n + k) - 1) := by have := nI_pred (chN (n + k) - 1); rw [show chN (n + k) - 1 + 1 = chN (n + k) by omega] at this; exact this
    rw [epr]
    rcases rng v (N := chN (n + k)) (by omega) with ⟨c, hcc, rfl⟩ | ho
    · rw [if_neg (show ¬ nI c < (-1 : Int32) from fun h => by rw [fa_lt, nI_toInt (by omega)] at h; have h2 : (-1 : Int32).toInt = -1 := rfl; omega), if_pos (nI_lt hcc (by omega)), if_neg (nI_ne_m1 (by omega)), if_pos (show (-1 : Int32) ≤ nI c ∧ nI c ≤ nI (chN (n + k) - 1) from ⟨by rw [fa_le, nI_toInt (by omega)]; have h2 : (-1 : Int32).toInt = -1 := rfl; omega, nI_le (by omega) (by omega)⟩), if_pos (nI_ge0 (by omega))]
      unfold p_X11_chip_J35 p_X11_chip_J49
      rw [if_pos (nI_ge0 (by omega)), nI_1]
      obtain ⟨y, t1⟩ := X4_sets (w := q) hF hm hc.colB ht h1 (chN_lt hcc) y0 y1 y2
      obtain ⟨T', t2, t3⟩ := M_layChips (c0 := c) (d := 1) hF hmc h1 (fun c' h' => chN_lt (by omega)) T
      rw [t1, t2]
      simp only [Option.bind_some, g3, c3, ↓reduceIte]
      rw [t3 q hq]
      have e1 : alC col (n + k) pr (nI q) c 1 = csC col (n + k) pr (nI q) c := Int32.zero_add _
      rw [e1]
      exact ⟨_, _, _, rfl, rfl⟩
    · by_cases cm : v = -1
      · subst cm
        rw [if_neg (by decide), if_pos (show (-1 : Int32) < nI (chN (n + k)) by rw [fa_lt, nI_toInt (by omega)]; have h2 : (-1 : Int32).toInt = -1 := rfl; omega), if_pos rfl, if_pos (show (-1 : Int32) ≤ -1 ∧ (-1 : Int32) ≤ nI (chN (n + k) - 1) from ⟨by decide, by rw [fa_le, nI_toInt (by omega)]; have h2 : (-1 : Int32).toInt = -1 := rfl; omega⟩), if_neg (by decide)]
        unfold p_X11_chip_J35 p_X11_chip_J49
        rw [if_neg (by decide), M_chips hmc]
        obtain ⟨y, t1⟩ := X4_all (w := q) hF hm hc.colB ht h1 y0 y1 y2
        obtain ⟨T', t2, t3⟩ := M_layChips (c0 := 0) (d := chN (n + k)) hF hmc h1 (fun c' h' => chN_lt (by omega)) T
        rw [Nat.zero_add] at t2
        have t2' : p_X11_layChips F (nI b) al dat chk T 0 (nI (chN (n + k))) = some T' := t2
        simp only [Option.bind_some]
        rw [t1, t2']
        simp only [Option.bind_some, g3, c3, ↓reduceIte]
        rw [t3 q hq]
        exact ⟨_, _, _, rfl, rfl⟩
      · have no : ¬ ((-1 : Int32) ≤ v ∧ v ≤ nI (chN (n + k) - 1)) := by
          rintro ⟨q1, q2⟩
          rw [fa_le] at q1
          rw [fa_le, nI_toInt (by omega)] at q2
          have h2 : (-1 : Int32).toInt = -1 := rfl
          rcases ho with ho | ho
          · rw [fa_lt] at ho
            have h3 : (0 : Int32).toInt = 0 := rfl
            exact cm (Int32.toInt_inj.mp (by omega))
          · rw [fa_le, nI_toInt (by omega)] at ho
            omega
        rw [if_neg no]
        by_cases c1 : v < (-1 : Int32)
        · rw [if_pos c1]
          exact ⟨-1, _, _, rfl, rfl⟩
        · rw [if_neg c1, if_neg]
          · exact ⟨-1, _, _, rfl, rfl⟩
          · intro h
            rcases ho with ho | ho
            · rw [fa_lt] at ho c1
              have h3 : (0 : Int32).toInt = 0 := rfl
              have h2 : (-1 : Int32).toInt = -1 := rfl
              exact cm (Int32.toInt_inj.mp (by omega))
            · exact absurd h (i32_nlt.mpr ho)
  · rw [isIn_outL 3 2 rfl (by decide) (by decide) hv]
    simp only [Option.bind_some]
    rcases hv with hv | hv
    · rw [if_pos hv]; exact ⟨-1, _, _, rfl, rfl⟩
    · have c1 : ¬ w < 0 := fun h => by rw [fa_lt] at h; rw [fa_le, nI_toInt (by omega)] at hv; have h3 : (0 : Int32).toInt = 0 := rfl; omega
      have c2 : (2 : Int32) < w := by rw [fa_lt]; rw [fa_le, nI_toInt (by omega)] at hv; have h3 : (2 : Int32).toInt = 2 := rfl; omega
      rw [if_neg c1, if_pos c2]; exact ⟨-1, _, _, rfl, rfl⟩
end Chip
