/-! what betters a code -/
theorem fo_fst {α β : Type} {g : Nat → α × β → α × β} {g1 : Nat → α → α} (h : ∀ i z, (g i z).1 = g1 i z.1) (d i : Nat) (z : α × β) : (fo g d i z).1 = fo g1 d i z.1 := fo_map (f := Prod.fst) h d i z
theorem fo_snd {α β : Type} {g : Nat → α × β → α × β} {g1 : Nat → β → β} (h : ∀ i z, (g i z).2 = g1 i z.2) (d i : Nat) (z : α × β) : (fo g d i z).2 = fo g1 d i z.2 := fo_map (f := Prod.snd) h d i z
section Chg
variable {F b n k g a : Nat} {dat chk : Nat → Int32} {pr : Int32} {col pl prT bits mea stk syn tal al : Nat → Int32} {st : Nat → Option Nat}
theorem ColB.x2 {m i j : Nat} (h : ColB m col) (hi : i < m) (hj : j < m) : ∃ v, v < 256 ∧ col i ^^^ col j = nI v := by
  obtain ⟨a, ha, ea⟩ := h i hi
  obtain ⟨b, hb, eb⟩ := h j hj
  exact ⟨a ^^^ b, xor_256 ha hb, by rw [ea, eb, nI_xor]⟩
theorem X4_countXors (hF : 1000 < F) (hc : CodeOK n k col) (A1 A2 : Nat → Int32) : ∃ A1' A2', p_X4_countXors F A1 A2 (nI n) (nI k) col = some (A1', A2') ∧ ∀ x, x < 256 → A1' x = nI (w3 (n + k) (th col (nI x))) ∧ A2' x = nI (w2 (n + k) (tw col (nI x))) := by
  have hm := hc.hm
  have hB := hc.colB
  have inner : ∀ (i j : Nat) (k23 k33 : Int32 → (Nat → Int32) → (Nat → Int32) → Option ((Nat → Int32) × (Nat → Int32))) (u w : Nat → Int32), i < n + k → j < n + k → p_X4_countXors_L72 F (nI n) (nI k) col (nI (n + k)) (nI i) (nI j) (col i ^^^ col j) k23 k33 F (nI (j + 1)) u w = k33 (nI (j + 1)) (fo (fun l a => bump (x3 col i j l).toNatClampNeg a) ((n + k) - (j + 1)) (j + 1) u) w := by
    intro i j k23 k33 u w hi hj
    exact fold_loop (fun fuel a l => p_X4_countXors_L72 F (nI n) (nI k) col (nI (n + k)) (nI i) (nI j) (col i ^^^ col j) k23 k33 fuel l a w) (fun a => k33 (nI (j + 1)) a w) (fun l a => bump (x3 col i j l).toNatClampNeg a) (fun _ _ => True) (n + k) (fun fuel l a hl _ => by
      show p_X4_countXors_L72b F (nI n) (nI k) col (nI (n + k)) (nI i) (nI j) (col i ^^^ col j) k23 k33 _ (nI l) a w = _
      obtain ⟨v, hv, ev⟩ := hB.x3 hi hj hl
      have g1 : ¬ ixBad (nI v) 256 := ixg hv (by decide)
      have g : ¬ ixBad (nI l) 32 := ixg (by omega) (by decide)
      have c : (nI l).toNatClampNeg = l := nI_clamp (by omega)
      have ev' : col i ^^^ col j ^^^ col l = nI v := ev
      unfold p_X4_countXors_L72b
      rw [if_neg (nI_ge hl (by omega))]
      simp only [g, c, ev', g1, ↓reduceIte, nI_1, ev]
      rfl) (fun fuel a _ => by
      show p_X4_countXors_L72b F (nI n) (nI k) col (nI (n + k)) (nI i) (nI j) (col i ^^^ col j) k23 k33 _ (nI (n + k)) a w = _
      unfold p_X4_countXors_L72b
      rw [if_pos (nI_le (Nat.le_refl _) (by omega)), nI_1]) (fun _ _ _ _ => trivial) ((n + k) - (j + 1)) (j + 1) F u (by omega) (by omega) trivial
  let gm := fun (i j : Nat) (z : (Nat → Int32) × (Nat → Int32)) => ((fo (fun l a => bump (x3 col i j l).toNatClampNeg a) ((n + k) - (j + 1)) (j + 1) z.1, bump (col i ^^^ col j).toNatClampNeg z.2) : (Nat → Int32) × (Nat → Int32))
  have middle : ∀ (i : Nat) (k23 : Int32 → (Nat → Int32) → (Nat → Int32) → Option ((Nat → Int32) × (Nat → Int32))) (z : (Nat → Int32) × (Nat → Int32)), i < n + k → p_X4_countXors_L33 F (nI n) (nI k) col (nI (n + k)) (nI i) k23 F (nI (i + 1)) z.1 z.2 = k23 (nI (i + 1)) (fo (gm i) ((n + k) - (i + 1)) (i + 1) z).1 (fo (gm i) ((n + k) - (i + 1)) (i + 1) z).2 := by
    intro i k23 z hi
    exact fold_loop (fun fuel (z : (Nat → Int32) × (Nat → Int32)) j => p_X4_countXors_L33 F (nI n) (nI k) col (nI (n + k)) (nI i) k23 fuel j z.1 z.2) (fun z => k23 (nI (i + 1)) z.1 z.2) (gm i) (fun _ _ => True) (n + k) (fun fuel j z hj _ => by
      show p_X4_countXors_L33b F (nI n) (nI k) col (nI (n + k)) (nI i) k23 _ (nI j) z.1 z.2 = _
      obtain ⟨v, hv, ev⟩ := hB.x2 hi hj
      have g1 : ¬ ixBad (nI v) 256 := ixg hv (by decide)
      have g : ¬ ixBad (nI j) 32 := ixg (by omega) (by decide)
      have c : (nI j).toNatClampNeg = j := nI_clamp (by omega)
      have g' : ¬ ixBad (nI i) 32 := ixg (by omega) (by decide)
      have c' : (nI i).toNatClampNeg = i := nI_clamp (by omega)
      unfold p_X4_countXors_L33b
      rw [if_neg (nI_ge hj (by omega))]
      simp only [g, c, g', c', ↓reduceIte, nI_1, jlet_eq]
      have gv : ¬ ixBad (col i ^^^ col j) 256 := by rw [ev]; exact g1
      simp only [gv, ↓reduceIte]
      exact inner i j k23 _ z.1 _ hi hj) (fun fuel z _ => by
      show p_X4_countXors_L33b F (nI n) (nI k) col (nI (n + k)) (nI i) k23 _ (nI (n + k)) z.1 z.2 = _
      unfold p_X4_countXors_L33b
      rw [if_pos (nI_le (Nat.le_refl _) (by omega)), nI_1]) (fun _ _ _ _ => trivial) ((n + k) - (i + 1)) (i + 1) F z (by omega) (by omega) trivial
  have outer : ∀ z : (Nat → Int32) × (Nat → Int32), p_X4_countXors_L23 F (nI n) (nI k) col (nI (n + k)) F (nI 0) z.1 z.2 = some (fo (fun i z => fo (gm i) ((n + k) - (i + 1)) (i + 1) z) (n + k) 0 z) := fun z =>
    fold_loop (fun fuel (z : (Nat → Int32) × (Nat → Int32)) i => p_X4_countXors_L23 F (nI n) (nI k) col (nI (n + k)) fuel i z.1 z.2) some (fun i z => fo (gm i) ((n + k) - (i + 1)) (i + 1) z) (fun _ _ => True) (n + k) (fun fuel i z hi _ => by
      show p_X4_countXors_L23b F (nI n) (nI k) col (nI (n + k)) _ (nI i) z.1 z.2 = _
      unfold p_X4_countXors_L23b
      rw [if_neg (nI_ge hi (by omega)), nI_1]
      exact middle i _ z hi) (fun fuel z _ => by
      show p_X4_countXors_L23b F (nI n) (nI k) col (nI (n + k)) _ (nI (n + k)) z.1 z.2 = _
      unfold p_X4_countXors_L23b
      rw [if_pos (nI_le (Nat.le_refl _) (by omega))]) (fun _ _ _ _ => trivial) (n + k) 0 F z (by omega) (by omega) trivial
  have h1 : ∀ z, (fo (fun i z => fo (gm i) ((n + k) - (i + 1)) (i + 1) z) (n + k) 0 z).1 = g3 (n + k) (fun i j l a => bump (x3 col i j l).toNatClampNeg a) z.1 := fun z =>
    fo_fst (g1 := fun i a => fo (fun j a => fo (fun l a => bump (x3 col i j l).toNatClampNeg a) ((n + k) - (j + 1)) (j + 1) a) ((n + k) - (i + 1)) (i + 1) a) (fun i z => fo_fst (fun j z => rfl) _ _ z) _ _ z
  have h2 : ∀ z, (fo (fun i z => fo (gm i) ((n + k) - (i + 1)) (i + 1) z) (n + k) 0 z).2 = g2 (n + k) (fun i j a => bump (col i ^^^ col j).toNatClampNeg a) z.2 := fun z =>
    fo_snd (g1 := fun i a => fo (fun j a => bump (col i ^^^ col j).toNatClampNeg a) ((n + k) - (i + 1)) (i + 1) a) (fun i z => fo_snd (fun j z => rfl) _ _ z) _ _ z
  refine ⟨(fo (fun i z => fo (gm i) ((n + k) - (i + 1)) (i + 1) z) (n + k) 0 (fun j => if j < 256 then 0 else A1 j, fun j => if j < 256 then 0 else A2 j)).1, (fo (fun i z => fo (gm i) ((n + k) - (i + 1)) (i + 1) z) (n + k) 0 (fun j => if j < 256 then 0 else A1 j, fun j => if j < 256 then 0 else A2 j)).2, ?_, fun x hx => ⟨?_, ?_⟩⟩
  rotate_left
  · exact (congrFun (h1 (fun j => if j < 256 then 0 else A1 j, fun j => if j < 256 then 0 else A2 j)) x).trans (by
      rw [g3_map (f := fun a : Nat → Int32 => a x) (h' := fun i j l a => a + nI (if (x3 col i j l).toNatClampNeg = x then 1 else 0)) (fun i j l a => bump_at _ a x), g3_sum]
      simp only [hx, ↓reduceIte]
      rw [Int32.zero_add]
      congr 1
      refine w3_cong (fun i j l q1 q2 q3 => ?_)
      obtain ⟨v, hv, ev⟩ := hB.x3 (i := i) (j := j) (l := l) (by omega) (by omega) (by omega)
      unfold th
      rw [ev, nI_clamp (by omega)]
      simp only [nI_eq (show v < 2 ^ 31 by omega) (show x < 2 ^ 31 by omega)])
  · exact (congrFun (h2 (fun j => if j < 256 then 0 else A1 j, fun j => if j < 256 then 0 else A2 j)) x).trans (by
      rw [g2_map (f := fun a : Nat → Int32 => a x) (h' := fun i j a => a + nI (if (col i ^^^ col j).toNatClampNeg = x then 1 else 0)) (fun i j a => bump_at _ a x), g2_sum]
      simp only [hx, ↓reduceIte]
      rw [Int32.zero_add]
      congr 1
      refine w2_cong (fun i j q1 q2 => ?_)
      obtain ⟨v, hv, ev⟩ := hB.x2 (i := i) (j := j) (by omega) (by omega)
      unfold tw
      rw [ev, nI_clamp (by omega)]
      simp only [nI_eq (show v < 2 ^ 31 by omega) (show x < 2 ^ 31 by omega)])
  · unfold p_X4_countXors p_X1_places
    rw [fill_eq F 256 A2 0 (by decide) (by omega), fill_eq F 256 A1 0 (by decide) (by omega)]
    simp only [Option.bind_some, nI_add]
    exact outer (fun j => if j < 256 then 0 else A1 j, fun j => if j < 256 then 0 else A2 j)
/-- threes of places but p, with this XOR -/
def tbN (col : Nat → Int32) (m p : Nat) (x : Nat) : Nat := w3 m (fun i j l => tb col p i j l x)
theorem tbN_le (hm : n + k ≤ 32) (p x : Nat) : tbN col (n + k) p x ≤ 32768 := w3_bound (fun i j l => by
  unfold tb
  by_cases c : i = p ∨ j = p ∨ l = p
  · rw [if_pos c]; omega
  · rw [if_neg c]; by_cases e : x3 col i j l = nI x
    · rw [if_pos e]; omega
    · rw [if_neg e]; omega) hm
theorem X4_beside {A1 A2 : Nat → Int32} (hc : CodeOK n k col) (hA : ∀ x, x < 256 → A1 x = nI (w3 (n + k) (th col (nI x))) ∧ A2 x = nI (w2 (n + k) (tw col (nI x)))) {p c : Nat} (hp : p < n + k) (hcc : c < 256) (hx : ∀ q, q < n + k → q ≠ p → col q ≠ nI c) :
    p_X4_threesBeside F A1 A2 col (nI p) (nI c) = some (nI (tbN col (n + k) p c)) := by
  have hm := hc.hm
  obtain ⟨v, hv, ev⟩ := hc.colB p hp
  have g1 : ¬ ixBad (nI c) 256 := ixg hcc (by decide)
  have c1 : (nI c).toNatClampNeg = c := nI_clamp (by omega)
  have g2 : ¬ ixBad (nI p) 32 := ixg (by omega) (by decide)
  have c2 : (nI p).toNatClampNeg = p := nI_clamp (by omega)
  have hxor : c ^^^ v < 256 := xor_256 hcc hv
  have e : nI c ^^^ nI v = nI (c ^^^ v) := nI_xor c v
  have g3 : ¬ ixBad (nI (c ^^^ v)) 256 := ixg hxor (by decide)
  have c3 : (nI (c ^^^ v)).toNatClampNeg = c ^^^ v := nI_clamp (by omega)
  unfold p_X4_threesBeside
  simp only [g1, c1, g2, c2, ev, e, g3, c3, ↓reduceIte]
  rw [(hA c hcc).1, (hA _ hxor).2, ← e, ← ev, beside hp hx, ← nI_add]
  have : w3 (n + k) (fun i j l => if i = p ∨ j = p ∨ l = p then 0 else th col (nI c) i j l) = tbN col (n + k) p c := rfl
  rw [this]
  congr 1
  grind
/-- what was found: nothing, or a place and a free column -/
def CRel (n k : Nat) (col : Nat → Int32) (fz bp bo bc cp cc cl : Int32) : Prop :=
  (fz.toInt * 4 = cl.toInt ∧ -100000 ≤ fz.toInt ∧ fz.toInt ≤ 100000) ∧
    ((bp = -1 ∧ bo = -1 ∧ bc = -1 ∧ cp = -1) ∨ ∃ p c, p < n ∧ c < 2 ^ k ∧ DCp k (nI c) ∧ plc col (n + k) (nI c) = -1 ∧ bp = nI p ∧ cp = nI p ∧ bo = nI c ∧ cc = nI c ∧ bc = cl)
theorem M_isFree (hF : 40 < F) (hb : MB b n k dat chk) (hmc : MC b n k al dat chk col pr) (v : Int32) : p_X11_isFreeColumn F (nI b) al dat chk v = some (if DCp k v ∧ plc col (n + k) v = -1 then 1 else 0) := by
  have hk : k ≤ 8 := hmc.2.2.2.2.2.2.1
  have hn : n ≤ 24 := hmc.2.2.2.2.1
  unfold p_X11_isFreeColumn
  rw [M_chk hb.1 hb.2.2]
  simp only [Option.bind_some]
  rw [M_isOfData_eq hF hk, hmc.place hF]
  simp only [Option.bind_some, ite0]
  by_cases c1 : DCp k v
  · rw [if_pos c1]
    rcases plc_cases col (n + k) v with ⟨q, hq, _, e⟩ | e
    · rw [e, if_pos (nI_ge0 (by omega)), if_neg (fun h => nI_ne_m1 (by omega) h.2)]
    · rw [e, if_neg (by decide), if_pos ⟨c1, rfl⟩]
  · rw [if_neg c1, if_neg (fun h => c1 h.1)]
theorem change_inner (hF : 1000 < F) (hb : MB b n k dat chk) (hc : CodeOK n k col) (ht : TabOK (n + k) col pl prT) (hmc : MC b n k al dat chk col pr) {A1 A2 T : Nat → Int32} (hA : ∀ x, x < 256 → A1 x = nI (w3 (n + k) (th col (nI x))) ∧ A2 x = nI (w2 (n + k) (tw col (nI x)))) {p : Nat} (hp : p < n) (hT : ∀ x, x < 256 → T x = nI (tbN col (n + k) p x)) {S h : Nat} (hS : S ≤ 32768) (hh : h ≤ 32768) (U om : Int32) (ord : Nat → Int32)
    (k23 : Int32 → Int32 → Int32 → Int32 → Int32 → (Nat → Int32) → (Nat → Int32) → Option (Int32 × Int32 × Int32 × (Nat → Int32) × (Nat → Int32))) (k25 : Int32 → Int32 → Int32 → Int32 → Int32 → (Nat → Int32) → (Nat → Int32) → Option (Int32 × Int32 × Int32 × Int32 × Int32 × (Nat → Int32) × (Nat → Int32))) :
    ∀ (d c fuel : Nat) (fz bp bo bc cp cc cl : Int32), c + d = 2 ^ k → d < fuel → CRel n k col fz bp bo bc cp cc cl →
      ∃ fz' bp' bo' bc' cp' cc' cl', CRel n k col fz' bp' bo' bc' cp' cc' cl' ∧
        p_X4_seekChange_L53 F (nI n) (nI k) col pl U (nI p) (nI S - nI h) k23 fuel fz (nI c) bp bo bc A1 A2 = k23 fz' (nI (p + 1)) bp' bo' bc' A1 A2 ∧
        p_X11_layChange_L52 F (nI b) al dat chk (nI (4 * S)) (nI p) (nI h) k25 fuel (nI c) om cp cc cl ord T = k25 (nI (p + 1)) om cp' cc' cl' ord T := by
  have hm := hc.hm
  have hk : k ≤ 8 := hc.2.2.2.1
  have hn := hc.2.1
  have h2 := pow_le8 hk
  intro d
  induction d with
  | zero =>
    intro c fuel fz bp bo bc cp cc cl hd hf hr
    cases fuel with
    | zero => exact absurd hf (by omega)
    | succ fuel =>
      have e : c = 2 ^ k := by omega
      subst e
      refine ⟨fz, bp, bo, bc, cp, cc, cl, hr, ?_, ?_⟩
      · show p_X4_seekChange_L53b F (nI n) (nI k) col pl U (nI p) (nI S - nI h) k23 _ fz (nI (2 ^ k)) bp bo bc A1 A2 = _
        unfold p_X4_seekChange_L53b
        rw [oh_val8 k hk, if_pos (nI_le (Nat.le_refl _) (by omega)), nI_1]
      · show p_X11_layChange_L52b F (nI b) al dat chk (nI (4 * S)) (nI p) (nI h) k25 _ (nI (2 ^ k)) om cp cc cl ord T = _
        unfold p_X11_layChange_L52b
        rw [M_chk hb.1 hb.2.2]
        simp only [Option.bind_some]
        rw [oh_val8 k hk, if_pos (nI_le (Nat.le_refl _) (by omega)), nI_1]
  | succ d ih =>
    intro c fuel fz bp bo bc cp cc cl hd hf hr
    cases fuel with
    | zero => exact absurd hf (by omega)
    | succ fuel =>
      have hcc : c < 2 ^ k := by omega
      have step : ∃ fz' bp' bo' bc' cp' cc' cl', CRel n k col fz' bp' bo' bc' cp' cc' cl' ∧
          p_X4_seekChange_L53 F (nI n) (nI k) col pl U (nI p) (nI S - nI h) k23 (fuel + 1) fz (nI c) bp bo bc A1 A2 = p_X4_seekChange_L53 F (nI n) (nI k) col pl U (nI p) (nI S - nI h) k23 fuel fz' (nI (c + 1)) bp' bo' bc' A1 A2 ∧
          p_X11_layChange_L52 F (nI b) al dat chk (nI (4 * S)) (nI p) (nI h) k25 (fuel + 1) (nI c) om cp cc cl ord T = p_X11_layChange_L52 F (nI b) al dat chk (nI (4 * S)) (nI p) (nI h) k25 fuel (nI (c + 1)) om cp' cc' cl' ord T := by
        show ∃ fz' bp' bo' bc' cp' cc' cl', CRel n k col fz' bp' bo' bc' cp' cc' cl' ∧
          p_X4_seekChange_L53b F (nI n) (nI k) col pl U (nI p) (nI S - nI h) k23 (p_X4_seekChange_L53 F (nI n) (nI k) col pl U (nI p) (nI S - nI h) k23 fuel) fz (nI c) bp bo bc A1 A2 = _ ∧
          p_X11_layChange_L52b F (nI b) al dat chk (nI (4 * S)) (nI p) (nI h) k25 (p_X11_layChange_L52 F (nI b) al dat chk (nI (4 * S)) (nI p) (nI h) k25 fuel) (nI c) om cp cc cl ord T = _
        unfold p_X4_seekChange_L53b p_X11_layChange_L52b p_X4_seekChange_J121 p_X11_layChange_J119
        rw [M_chk hb.1 hb.2.2]
        simp only [Option.bind_some]
        rw [oh_val8 k hk, if_neg (nI_ge hcc (by omega)), if_neg (nI_ge hcc (by omega)), X1_isDataColumn_eq hk, M_isFree (by omega) hb hmc, X1_placeWith hc.colB ht]
        simp only [Option.bind_some, ite0, nI_1]
        by_cases c1 : DCp k (nI c)
        · by_cases c2 : plc col (n + k) (nI c) = -1
          · have hfree := (fi_neg (show n + k < 2 ^ 31 by omega)).mp c2
            rw [if_pos c1, if_pos c2, if_pos ⟨c1, c2⟩, X4_beside hc hA (show p < n + k by omega) (show c < 256 by omega) (fun q hq _ => of_decide_eq_false (hfree q hq))]
            have g1 : ¬ ixBad (nI c) 256 := ixg (by omega) (by decide)
            have cc1 : (nI c).toNatClampNeg = c := nI_clamp (by omega)
            have ht1 := tbN_le (col := col) hm p c
            simp only [Option.bind_some, g1, cc1, ↓reduceIte, jlet_eq, hT c (show c < 256 by omega)]
            generalize tbN col (n + k) p c = t at ht1
            have i1 : (nI S).toInt = S := nI_toInt (by omega)
            have i2 : (nI h).toInt = h := nI_toInt (by omega)
            have i3 : (nI t).toInt = t := nI_toInt (by omega)
            have i4 : (nI (4 * S)).toInt = ((4 * S : Nat) : Int) := nI_toInt (by omega)
            have i5 : (4 : Int32).toInt = 4 := rfl
            have s1 : (nI S - nI h).toInt = S - h := by rw [fb_subI (by omega) (by omega), i1, i2]
            have s2 : (nI S - nI h + nI t).toInt = S - h + t := by rw [fb_addI (by omega) (by omega), s1, i3]
            have s3 : (nI t - nI h).toInt = t - h := by rw [fb_subI (by omega) (by omega), i3, i2]
            have s4 : ((4 : Int32) * (nI t - nI h)).toInt = 4 * (t - h) := by rw [fb_mulI (by rw [i5, s3]; omega) (by rw [i5, s3]; omega), i5, s3]
            have s5 : (nI (4 * S) + (4 : Int32) * (nI t - nI h)).toInt = 4 * (S - h + t) := by rw [fb_addI (by omega) (by omega), i4, s4]; omega
            have s6 : (nI S - nI h + nI t) * 4 = nI (4 * S) + (4 : Int32) * (nI t - nI h) := by
              apply Int32.toInt_inj.mp
              rw [fb_mulI (by rw [s2, i5]; omega) (by rw [s2, i5]; omega), s2, s5, i5]; omega
            obtain ⟨⟨r1, r2, r3⟩, r4⟩ := hr
            by_cases c3 : fz ≤ nI S - nI h + nI t
            · have c3' := (fa_le _ _).mp c3
              have c4 : ¬ nI (4 * S) + (4 : Int32) * (nI t - nI h) < cl := fun q => by have := (fa_lt _ _).mp q; omega
              rw [if_pos c3, if_neg c4]
              exact ⟨fz, bp, bo, bc, cp, cc, cl, ⟨⟨r1, r2, r3⟩, r4⟩, rfl, rfl⟩
            · have c3' := (fa_lt _ _).mp (i32_nle.mp c3)
              have c4 : nI (4 * S) + (4 : Int32) * (nI t - nI h) < cl := (fa_lt _ _).mpr (by omega)
              rw [if_neg c3, if_pos c4]
              unfold p_X4_settleBest
              simp only [Option.bind_some]
              refine ⟨nI S - nI h + nI t, nI p, nI c, (nI S - nI h + nI t) * 4, nI p, nI c, _, ⟨⟨?_, ?_, ?_⟩, Or.inr ⟨p, c, hp, hcc, c1, c2, rfl, rfl, rfl, rfl, s6⟩⟩, rfl, rfl⟩
              · rw [s2, s5]; omega
              · omega
              · omega
          · rw [if_pos c1, if_neg c2, if_neg (fun q => c2 q.2)]
            exact ⟨fz, bp, bo, bc, cp, cc, cl, hr, rfl, rfl⟩
        · rw [if_neg c1, if_neg (fun q => c1 q.1)]
          exact ⟨fz, bp, bo, bc, cp, cc, cl, hr, rfl, rfl⟩
      obtain ⟨fz', bp', bo', bc', cp', cc', cl', hr', e1, e2⟩ := step
      obtain ⟨fz2, bp2, bo2, bc2, cp2, cc2, cl2, hr2, e3, e4⟩ := ih (c + 1) fuel fz' bp' bo' bc' cp' cc' cl' (by omega) (by omega) hr'
      exact ⟨fz2, bp2, bo2, bc2, cp2, cc2, cl2, hr2, e1.trans e3, e2.trans e4⟩
theorem change_outer (hF : 1000 < F) (hb : MB b n k dat chk) (hc : CodeOK n k col) (ht : TabOK (n + k) col pl prT) (hmc : MC b n k al dat chk col pr) {A1 A2 : Nat → Int32} (hA : ∀ x, x < 256 → A1 x = nI (w3 (n + k) (th col (nI x))) ∧ A2 x = nI (w2 (n + k) (tw col (nI x)))) {S : Nat} (hS : S ≤ 32768) (om : Int32) (ord : Nat → Int32) :
    ∀ (d p fuel : Nat) (T : Nat → Int32) (fz bp bo bc cp cc cl : Int32), p + d = n → d < fuel → CRel n k col fz bp bo bc cp cc cl →
      ∃ fz' bp' bo' bc' cp' cc' cl' T', CRel n k col fz' bp' bo' bc' cp' cc' cl' ∧
        p_X4_seekChange_L23 F (nI n) (nI k) col pl (nI S) fuel fz (nI p) bp bo bc A1 A2 = some (bp', bo', bc', A1, A2) ∧
        p_X11_layChange_L25 F (nI b) al dat chk (nI (4 * S)) fuel (nI p) om cp cc cl ord T = some ((if cp' < 0 then 0 else 1), om, cp', cc', cl', ord, T') := by
  have hm := hc.hm
  have hn := hc.2.1
  intro d
  induction d with
  | zero =>
    intro p fuel T fz bp bo bc cp cc cl hd hf hr
    cases fuel with
    | zero => exact absurd hf (by omega)
    | succ fuel =>
      have e : p = n := by omega
      subst e
      refine ⟨fz, bp, bo, bc, cp, cc, cl, T, hr, ?_, ?_⟩
      · show p_X4_seekChange_L23b F (nI p) (nI k) col pl (nI S) _ fz (nI p) bp bo bc A1 A2 = _
        unfold p_X4_seekChange_L23b
        rw [if_pos (nI_le (Nat.le_refl _) (by omega))]
      · show p_X11_layChange_L25b F (nI b) al dat chk (nI (4 * S)) _ (nI p) om cp cc cl ord T = _
        unfold p_X11_layChange_L25b
        rw [M_data hb.1 hb.2.1]
        simp only [Option.bind_some]
        rw [if_pos (nI_le (Nat.le_refl _) (by omega))]
        by_cases c : cp < 0
        · rw [if_pos c, if_pos c]
        · rw [if_neg c, if_neg c]
  | succ d ih =>
    intro p fuel T fz bp bo bc cp cc cl hd hf hr
    cases fuel with
    | zero => exact absurd hf (by omega)
    | succ fuel =>
      have hp : p < n := by omega
      obtain ⟨v, hv, ev⟩ := hc.colB p (by omega)
      have hinj := hc.Inj
      have hbes : p_X4_threesBeside F A1 A2 col (nI p) (col p) = some (nI (tbN col (n + k) p v)) := by
        rw [ev]
        exact X4_beside hc hA (by omega) hv (fun q hq hne e => hne (hinj q p hq (by omega) (e.trans ev.symm)))
      obtain ⟨T', hT1, hT2⟩ := M_layThrees hF hb hc hmc T (bI := nI p) (but := p) (fun q hq => nI_eq (by omega) (by omega))
      have g1 : ¬ ixBad (nI v) 256 := ixg hv (by decide)
      have c1 : (nI v).toNatClampNeg = v := nI_clamp (by omega)
      have g2 : ¬ ixBad (nI p) 32 := ixg (by omega) (by decide)
      have c2 : (nI p).toNatClampNeg = p := nI_clamp (by omega)
      obtain ⟨fz', bp', bo', bc', cp', cc', cl', hr', e1, e2⟩ := change_inner hF hb hc ht hmc hA hp (T := T') hT2 hS (tbN_le hm p v) (nI S) om ord (p_X4_seekChange_L23 F (nI n) (nI k) col pl (nI S) fuel) (p_X11_layChange_L25 F (nI b) al dat chk (nI (4 * S)) fuel) (2 ^ k) 0 F fz bp bo bc cp cc cl (by omega) (by have := pow_le8 hc.2.2.2.1; omega) hr
      obtain ⟨fz2, bp2, bo2, bc2, cp2, cc2, cl2, T2, hr2, e3, e4⟩ := ih (p + 1) fuel T' fz' bp' bo' bc' cp' cc' cl' (by omega) (by omega) hr'
      refine ⟨fz2, bp2, bo2, bc2, cp2, cc2, cl2, T2, hr2, ?_, ?_⟩
      · show p_X4_seekChange_L23b F (nI n) (nI k) col pl (nI S) _ fz (nI p) bp bo bc A1 A2 = _
        unfold p_X4_seekChange_L23b
        rw [if_neg (nI_ge hp (by omega))]
        simp only [g2, c2, ↓reduceIte, hbes, Option.bind_some]
        exact e1.trans e3
      · show p_X11_layChange_L25b F (nI b) al dat chk (nI (4 * S)) _ (nI p) om cp cc cl ord T = _
        unfold p_X11_layChange_L25b
        rw [M_data hb.1 hb.2.1, hmc.col (show p < n + k by omega), hT1]
        simp only [Option.bind_some]
        rw [if_neg (nI_ge hp (by omega)), ev]
        simp only [g1, c1, ↓reduceIte, hT2 v hv]
        exact e2.trans e4
theorem seek_change (hF : 1000 < F) (hb : MB b n k dat chk) (hc : CodeOK n k col) (ht : TabOK (n + k) col pl prT) (hmc : MC b n k al dat chk col pr) (y0 y1 y2 : Int32) (A1 A2 : Nat → Int32) (om cp cc cl : Int32) (ord T : Nat → Int32) :
    ∃ bp' bo' bc' A1' A2' om' cp' cc' cl' ord' T', ((bp' = -1 ∧ bo' = -1 ∧ bc' = -1 ∧ cp' = -1) ∨ ∃ p c, p < n ∧ c < 2 ^ k ∧ DCp k (nI c) ∧ plc col (n + k) (nI c) = -1 ∧ bp' = nI p ∧ cp' = nI p ∧ bo' = nI c ∧ cc' = nI c ∧ bc' = cl') ∧
      p_X4_seekChange F y0 y1 y2 A1 A2 (nI n) (nI k) col pl = some (bp', bo', bc', A1', A2') ∧
      p_X11_layChange F (nI b) om cp cc cl al dat chk ord T = some ((if cp' < 0 then 0 else 1), om', cp', cc', cl', ord', T') := by
  have hm := hc.hm
  have hk := hc.2.2.2.1
  obtain ⟨A1', A2', hA0, hA⟩ := X4_countXors hF hc A1 A2
  obtain ⟨T', hM⟩ := M_missed hF hb hc hmc T
  have h4 : w3 (n + k) (fun i j l => hit col (n + k) (x3 col i j l)) = 4 * s4 (n + k) (W4 col) := by rw [← missed_sum (by omega) hc.Inj, missed_four hc.Inj]
  have hbd : w3 (n + k) (fun i j l => hit col (n + k) (x3 col i j l)) ≤ 32768 := w3_bound (fun i j l => by unfold hit; by_cases c : plc col (n + k) (x3 col i j l) = -1 <;> simp [c]) hm
  have hU := X4_countUnseen hF hc ht
  rw [h4] at hM hU hbd
  rw [show (4 : Int32) = nI 4 from rfl, pk_div (by omega) (by decide) (by decide), Nat.mul_div_cancel_left _ (by decide)] at hU
  have hS : s4 (n + k) (W4 col) ≤ 32768 := by omega
  generalize s4 (n + k) (W4 col) = S at *
  obtain ⟨fz2, bp2, bo2, bc2, cp2, cc2, cl2, T2, hr2, e3, e4⟩ := change_outer hF hb hc ht hmc hA hS (nI (ordL k).length) (OA (ordL k) ord) n 0 F T' (nI S) (-1) (-1) (-1) (-1) cc (nI (4 * S)) (by omega) (by have := hc.2.1; omega) ⟨⟨by rw [nI_toInt (by omega), nI_toInt (by omega)]; omega, by rw [nI_toInt (by omega)]; omega, by rw [nI_toInt (by omega)]; omega⟩, Or.inl ⟨rfl, rfl, rfl, rfl⟩⟩
  refine ⟨bp2, bo2, bc2, A1', A2', nI (ordL k).length, cp2, cc2, cl2, OA (ordL k) ord, T2, hr2.2, ?_, ?_⟩
  · unfold p_X4_seekChange p_X4_settleBest
    simp only [Option.bind_some]
    rw [hA0]
    simp only [Option.bind_some]
    rw [hU]
    exact e3
  · unfold p_X11_layChange
    rw [M_chk hb.1 hb.2.2]
    simp only [Option.bind_some]
    rw [M_layOrdered hF hc.2.2.1 hk, hM]
    exact e4
theorem Q_change (hF : 1000 < F) (ha : a < 13) (hs : st a = some g) (hb : MB b n k dat chk) (h : SR n k pr col pl prT bits mea stk syn tal al) (y0 y1 y2 : Int32) (A1 A2 : Nat → Int32) (om cp cc cl : Int32) (ord T : Nat → Int32) (v : Int32) :
    ∃ r y z, p_X10_change F g (nI a) st y0 y1 y2 A1 A2 (nI n) (nI k) col pl v = some (r, y) ∧ p_X11_change F (nI b) om cp cc cl al dat chk ord T v = some (r, z) := by
  obtain ⟨h1, hc, ht, ⟨ab, hR⟩, hW, hI⟩ := h
  have hn := hc.2.1
  obtain ⟨bp', bo', bc', A1', A2', om', cp', cc', cl', ord', T', hr, e1, e2⟩ := seek_change hF hb hc ht (hR.mc (hc.bc hb)) y0 y1 y2 A1 A2 om cp cc cl ord T
  unfold p_X10_change p_X11_change
  rcases rng v (N := 3) (by decide) with ⟨q, hq, rfl⟩ | hv
  · rw [cls_in 3 2 rfl hq (by decide), isIn_inL 3 2 rfl hq (by decide), now_eq ha hs]
    simp only [Option.bind_some]
    rw [if_neg i32_1_0, e1, e2]
    unfold p_X4_best
    simp only [Option.bind_some, ite_some]
    rcases hr with ⟨r1, r2, r3, r4⟩ | ⟨p, c, hp, hc2, _, _, r1, r2, r3, r4, r5⟩
    · subst r1 r2 r3 r4
      refine ⟨-1, (-1, -1, -1, A1', A2'), (om', -1, cc', cl', ord', T'), ?_, ?_⟩
      · simp
      · rw [if_pos (by decide)]
    · subst r1 r2 r3 r4 r5
      rw [if_neg (nI_pos (by omega)), if_neg i32_1_0]
      refine ⟨if nI q = 0 then nI p else if nI q = 1 then nI c else bc', (nI p, nI c, bc', A1', A2'), (om', nI p, nI c, bc', ord', T'), rfl, ?_⟩
      · rcases (show q = 0 ∨ q = 1 ∨ q = 2 by omega) with rfl | rfl | rfl <;> rfl
  · rw [cls_out 3 2 rfl (by decide) (by decide) hv, isIn_outL 3 2 rfl (by decide) (by decide) hv]
    exact ⟨-1, _, _, rfl, rfl⟩
end Chg
