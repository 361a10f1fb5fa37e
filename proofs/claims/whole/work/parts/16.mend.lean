/-! mending, scrubbing, storms of the class -/
abbrev A3 : Type := (Nat → Int32) × (Nat → Int32) × (Nat → Int32)
theorem fo_map {α β : Type} {g : Nat → α → α} {g' : Nat → β → β} {f : α → β} (h : ∀ i a, f (g i a) = g' i (f a)) : ∀ (d i : Nat) (a : α), f (fo g d i a) = fo g' d i (f a)
  | 0, _, _ => rfl
  | d + 1, i, a => by
    show f (fo g d (i + 1) (g i a)) = fo g' d (i + 1) (g' i (f a))
    rw [fo_map h d (i + 1) (g i a), h]
/-- one word is mended: bits, syndromes, tallies -/
def mdS (col : Nat → Int32) (m : Nat) (pr : Int32) (stk mea : Nat → Int32) (ab : Nat → Int32 × Int32) (w : Nat) (z : A3) : A3 :=
  (upd z.1 w (z.1 w ^^^ turnM (stk w) (rdS col m pr (z.2.1 w) (ab w).1 (ab w).2).2.2), upd z.2.1 w (z.2.1 w ^^^ sy col (turnM (stk w) (rdS col m pr (z.2.1 w) (ab w).1 (ab w).2).2.2) m), tl1 z.2.2 (rdS col m pr (z.2.1 w) (ab w).1 (ab w).2).1 (rdS col m pr (z.2.1 w) (ab w).1 (ab w).2).2.2 (z.1 w ^^^ mea w))
def StkA (m : Nat) (stk : Nat → Int32) (ab : Nat → Int32 × Int32) : Prop := ∀ w, w < 16 → Stk m (stk w) (ab w).1 (ab w).2
theorem X9_mend {F n k w : Nat} {col pl prT bits mea stk syn tal : Nat → Int32} {pr : Int32} {ab : Nat → Int32 × Int32} (hF : 40 < F) (hm : n + k ≤ 32) (hB : ColB (n + k) col) (ht : TabOK (n + k) col pl prT) (hpr : pr = 0 ∨ pr = 1) (hS : StkA (n + k) stk ab) (hw : w < 16) (y0 y1 y2 : Int32) :
    p_X9_mendWord F bits mea stk syn tal (nI n) (nI k) pr col pl prT y0 y1 y2 (nI w) = some ((rdS col (n + k) pr (syn w) (ab w).1 (ab w).2).1, (mdS col (n + k) pr stk mea ab w (bits, syn, tal)).1, (mdS col (n + k) pr stk mea ab w (bits, syn, tal)).2.1, (mdS col (n + k) pr stk mea ab w (bits, syn, tal)).2.2, rdS col (n + k) pr (syn w) (ab w).1 (ab w).2) := by
  have g : ¬ ixBad (nI w) 16 := ixg hw (by decide)
  have c : (nI w).toNatClampNeg = w := nI_clamp (by omega)
  obtain ⟨q, hq, eq⟩ := rdS_kind col (n + k) pr (syn w) (ab w).1 (ab w).2
  have g8 : ¬ ixBad (rdS col (n + k) pr (syn w) (ab w).1 (ab w).2).1 8 := by rw [eq]; exact ixg (by omega) (by decide)
  unfold p_X9_mendWord
  simp only [g, c, ↓reduceIte]
  rw [X2_read hF hm hB ht (hS w hw) hpr]
  simp only [Option.bind_some]
  rw [X9_countReading hw g8]
  simp only [Option.bind_some]
  rw [X9_turn hF hm hw]
  rfl
def cntK (kd : Int32) : Int32 := if kd = 0 ∨ kd = 3 ∨ kd = 4 then 0 else 1
def maS (col : Nat → Int32) (m : Nat) (pr : Int32) (stk mea : Nat → Int32) (ab : Nat → Int32 × Int32) (w : Nat) (z : Int32 × A3) : Int32 × A3 :=
  (z.1 + cntK (rdS col m pr (z.2.2.1 w) (ab w).1 (ab w).2).1, mdS col m pr stk mea ab w z.2)
theorem rdS_0 (col : Nat → Int32) (m : Nat) (pr a b : Int32) : rdS col m pr 0 a b = (0, -1, 0) := by unfold rdS; rw [if_pos rfl]
theorem turnM_0 (stk : Int32) : turnM stk 0 = 0 := b_ext fun i _ => by rw [turnM, b_and, b_0]; rfl
theorem rdS_k0 {col : Nat → Int32} {m : Nat} {pr s a b : Int32} (h : s ≠ 0) : ¬ (rdS col m pr s a b).1 = 0 := by
  unfold rdS
  rw [if_neg h]
  repeat' split
  all_goals (first | decide | skip)
  all_goals (dsimp only; decide)
theorem X9_mendAll {F n k : Nat} {col pl prT bits mea stk syn tal : Nat → Int32} {pr : Int32} {ab : Nat → Int32 × Int32} (hF : 40 < F) (hm : n + k ≤ 32) (hB : ColB (n + k) col) (ht : TabOK (n + k) col pl prT) (hpr : pr = 0 ∨ pr = 1) (hS : StkA (n + k) stk ab) (y0 y1 y2 : Int32) :
    ∃ y : Int32 × Int32 × Int32, p_X9_mendAll F bits mea stk syn tal (nI n) (nI k) pr col pl prT y0 y1 y2 = some ((fo (maS col (n + k) pr stk mea ab) 16 0 (0, bits, syn, tal)).1, (fo (maS col (n + k) pr stk mea ab) 16 0 (0, bits, syn, tal)).2.1, (fo (maS col (n + k) pr stk mea ab) 16 0 (0, bits, syn, tal)).2.2.1, (fo (maS col (n + k) pr stk mea ab) 16 0 (0, bits, syn, tal)).2.2.2, y) := by
  let st : Nat → (Int32 × A3) × (Int32 × Int32 × Int32) → (Int32 × A3) × (Int32 × Int32 × Int32) := fun w z => (maS col (n + k) pr stk mea ab w z.1, if z.1.2.2.1 w = 0 then z.2 else rdS col (n + k) pr (z.1.2.2.1 w) (ab w).1 (ab w).2)
  have key := fold_loop (fun fuel (z : (Int32 × A3) × (Int32 × Int32 × Int32)) i => p_X9_mendAll_L5 F mea stk (nI n) (nI k) pr col pl prT fuel z.1.1 i z.1.2.1 z.1.2.2.1 z.1.2.2.2 z.2.1 z.2.2.1 z.2.2.2) (fun z => some (z.1.1, z.1.2.1, z.1.2.2.1, z.1.2.2.2, z.2)) st (fun _ _ => True) 16
    (fun fuel i z hi _ => by
      show p_X9_mendAll_L5b F mea stk (nI n) (nI k) pr col pl prT _ z.1.1 (nI i) z.1.2.1 z.1.2.2.1 z.1.2.2.2 z.2.1 z.2.2.1 z.2.2.2 = p_X9_mendAll_L5 F mea stk (nI n) (nI k) pr col pl prT fuel (st i z).1.1 (nI (i + 1)) (st i z).1.2.1 (st i z).1.2.2.1 (st i z).1.2.2.2 (st i z).2.1 (st i z).2.2.1 (st i z).2.2.2
      have g : ¬ ixBad (nI i) 16 := ixg hi (by decide)
      have c : (nI i).toNatClampNeg = i := nI_clamp (by omega)
      unfold p_X9_mendAll_L5b
      rw [if_neg (show ¬ (16 : Int32) ≤ nI i from nI_ge (b := 16) hi (by decide))]
      simp only [g, c, ↓reduceIte]
      by_cases h : z.1.2.2.1 i = 0
      · rw [if_pos h, X9_countClean hi]
        simp only [Option.bind_some]
        unfold p_X9_mendAll_J55
        simp only [st, maS, mdS, h, rdS_0, turnM_0, ↓reduceIte, nI_1]
        rw [sy_zero col (fun p _ => b_0 p), xo_zero, xo_zero, upd_same, show cntK 0 = 0 by decide, show z.1.1 + 0 = z.1.1 from Int32.add_zero _]
        congr 1
        conv => lhs; rw [← upd_same (f := z.1.2.2.1) (i := i), h]
      · rw [if_neg h, X9_mend hF hm hB ht hpr hS hi]
        simp only [Option.bind_some]
        rw [X2_told]
        simp only [Option.bind_some]
        unfold p_X9_mendAll_J53 p_X9_mendAll_J55
        simp only [st, maS, h, ↓reduceIte, nI_1]
        have hk0 := rdS_k0 (col := col) (m := n + k) (pr := pr) (a := (ab i).1) (b := (ab i).2) h
        by_cases h2 : (rdS col (n + k) pr (z.1.2.2.1 i) (ab i).1 (ab i).2).1 = 3 ∨ (rdS col (n + k) pr (z.1.2.2.1 i) (ab i).1 (ab i).2).1 = 4
        · rw [if_pos h2, if_neg (by decide), show cntK (rdS col (n + k) pr (z.1.2.2.1 i) (ab i).1 (ab i).2).1 = 0 from if_pos (Or.inr h2)]
        · rw [if_neg h2, if_pos rfl, show cntK (rdS col (n + k) pr (z.1.2.2.1 i) (ab i).1 (ab i).2).1 = 1 from if_neg (fun h3 => h3.elim hk0 h2)])
    (fun fuel z _ => by
      show p_X9_mendAll_L5b F mea stk (nI n) (nI k) pr col pl prT _ z.1.1 (nI 16) z.1.2.1 z.1.2.2.1 z.1.2.2.2 z.2.1 z.2.2.1 z.2.2.2 = _
      unfold p_X9_mendAll_L5b
      rw [if_pos (by decide)]) (fun _ _ _ _ => trivial) 16 0 F ((0, bits, syn, tal), (y0, y1, y2)) rfl (by omega) trivial
  refine ⟨(fo st 16 0 ((0, bits, syn, tal), (y0, y1, y2))).2, ?_⟩
  refine Eq.trans key ?_
  have hp := fo_map (g := st) (g' := maS col (n + k) pr stk mea ab) (f := fun z => z.1) (fun i a => rfl) 16 0 ((0, bits, syn, tal), (y0, y1, y2))
  simp only at hp
  rw [← hp]
def nd (d : Nat) : Nat := (d * 137 + 71) % 10007
theorem nd_lt (d : Nat) : nd d < 10007 := Nat.mod_lt _ (by decide)
theorem X9_draw {F d : Nat} (h : d < 10007) : p_X9_nextDraw F (nI d) = some (nI (nd d)) := by
  unfold p_X9_nextDraw
  rw [show (137 : Int32) = nI 137 from rfl, show (71 : Int32) = nI 71 from rfl, show (10007 : Int32) = nI 10007 from rfl, pk_mul, nI_add, pk_rem (by omega) (by decide) (by decide)]
  rfl
/-- one slip of a storm, and the watch -/
def scS (col : Nat → Int32) (m : Nat) (pr : Int32) (stk mea : Nat → Int32) (ab : Nat → Int32 × Int32) (z : A3) : A3 := (fo (maS col m pr stk mea ab) 16 0 (0, z)).2
def slS (col : Nat → Int32) (m : Nat) (stk : Nat → Int32) (w : Nat) (mask : Int32) (z : A3) : A3 := (upd z.1 w (z.1 w ^^^ turnM (stk w) mask), upd z.2.1 w (z.2.1 w ^^^ sy col (turnM (stk w) mask) m), upd z.2.2 7 (z.2.2 7 + nI (pcn (turnM (stk w) mask))))
def stS (col : Nat → Int32) (m : Nat) (pr : Int32) (stk mea : Nat → Int32) (ab : Nat → Int32 × Int32) (ev : Nat) (i : Nat) (z : Nat × A3) : Nat × A3 :=
  (nd (nd z.1), if 0 < ev ∧ i % ev = 0 then scS col m pr stk mea ab (slS col m stk (nd z.1 % 16) (oh (nd (nd z.1) % m)) z.2) else slS col m stk (nd z.1 % 16) (oh (nd (nd z.1) % m)) z.2)
theorem X9_scrub {F n k : Nat} {col pl prT mea stk : Nat → Int32} {pr : Int32} {ab : Nat → Int32 × Int32} (hF : 40 < F) (hm : n + k ≤ 32) (hB : ColB (n + k) col) (ht : TabOK (n + k) col pl prT) (hpr : pr = 0 ∨ pr = 1) (hS : StkA (n + k) stk ab) (z : A3) (y0 y1 y2 : Int32) :
    ∃ y : Int32 × Int32 × Int32, p_X9_mendAll F z.1 mea stk z.2.1 z.2.2 (nI n) (nI k) pr col pl prT y0 y1 y2 = some ((fo (maS col (n + k) pr stk mea ab) 16 0 (0, z)).1, (scS col (n + k) pr stk mea ab z).1, (scS col (n + k) pr stk mea ab z).2.1, (scS col (n + k) pr stk mea ab z).2.2, y) := by
  obtain ⟨b, s, t⟩ := z
  exact X9_mendAll hF hm hB ht hpr hS y0 y1 y2
theorem X9_slipS {F n k w : Nat} {col stk : Nat → Int32} {mask : Int32} (hF : 40 < F) (hm : n + k ≤ 32) (hw : w < 16) (z : A3) :
    p_X9_slipPlaces F z.1 stk z.2.1 z.2.2 (nI n) (nI k) col (nI w) mask = some ((slS col (n + k) stk w mask z).1, (slS col (n + k) stk w mask z).2.1, (slS col (n + k) stk w mask z).2.2) := X9_slip hF hm hw
theorem stS_no {col : Nat → Int32} {m : Nat} {pr : Int32} {stk mea : Nat → Int32} {ab : Nat → Int32 × Int32} {ev i dr : Nat} {z : A3} (h : ¬ (0 < ev ∧ i % ev = 0)) : stS col m pr stk mea ab ev i (dr, z) = (nd (nd dr), slS col m stk (nd dr % 16) (oh (nd (nd dr) % m)) z) := by
  unfold stS
  rw [if_neg h]
theorem stS_yes {col : Nat → Int32} {m : Nat} {pr : Int32} {stk mea : Nat → Int32} {ab : Nat → Int32 × Int32} {ev i dr : Nat} {z : A3} (h : 0 < ev ∧ i % ev = 0) : stS col m pr stk mea ab ev i (dr, z) = (nd (nd dr), scS col m pr stk mea ab (slS col m stk (nd dr % 16) (oh (nd (nd dr) % m)) z)) := by
  unfold stS
  rw [if_pos h]
theorem X9_storm_loop {F n k N ev : Nat} {col pl prT mea stk : Nat → Int32} {pr : Int32} {ab : Nat → Int32 × Int32} (hF : 40 < F) (hm : n + k ≤ 32) (h0 : 0 < n + k) (hB : ColB (n + k) col) (ht : TabOK (n + k) col pl prT) (hpr : pr = 0 ∨ pr = 1) (hS : StkA (n + k) stk ab) (hN : N < 1000) (hev : ev < 1000) :
    ∀ (d i fuel dr : Nat) (z : A3) (y0 y1 y2 : Int32), i + d = N + 1 → d < fuel → dr < 10007 → ∃ y : Int32 × Int32 × Int32, p_X9_runStorm_L12 F mea stk (nI n) (nI k) pr col pl prT (nI N) (nI ev) (nI (n + k)) fuel (nI dr) (nI i) z.1 z.2.1 z.2.2 y0 y1 y2 = some ((fo (stS col (n + k) pr stk mea ab ev) d i (dr, z)).2.1, (fo (stS col (n + k) pr stk mea ab ev) d i (dr, z)).2.2.1, (fo (stS col (n + k) pr stk mea ab ev) d i (dr, z)).2.2.2, y) := by
  intro d
  induction d with
  | zero =>
    intro i fuel dr z y0 y1 y2 hd hf hdr
    cases fuel with
    | zero => exact absurd hf (by omega)
    | succ fuel =>
      refine ⟨(y0, y1, y2), ?_⟩
      show p_X9_runStorm_L12b F mea stk (nI n) (nI k) pr col pl prT (nI N) (nI ev) (nI (n + k)) _ (nI dr) (nI i) z.1 z.2.1 z.2.2 y0 y1 y2 = _
      unfold p_X9_runStorm_L12b
      rw [if_pos (nI_lt (by omega) (by omega))]
      rfl
  | succ d ih =>
    intro i fuel dr z y0 y1 y2 hd hf hdr
    cases fuel with
    | zero => exact absurd hf (by omega)
    | succ fuel =>
    have h1 := nd_lt dr
    have h2 := nd_lt (nd dr)
    have hwd : nd dr % 16 < 16 := Nat.mod_lt _ (by decide)
    have hpl : nd (nd dr) % (n + k) < n + k := Nat.mod_lt _ h0
    have e16 : (nI (nd dr) - nI (nd dr) / (16 : Int32) * (16 : Int32)) = nI (nd dr % 16) := pk_rem (d := 16) (by omega) (by decide) (by decide)
    have em : (nI (nd (nd dr)) - nI (nd (nd dr)) / nI (n + k) * nI (n + k)) = nI (nd (nd dr) % (n + k)) := pk_rem (by omega) h0 (by omega)
    have hne : ¬ nI (n + k) = 0 := nI_ne0 h0 (by omega)
    have hslip := X9_slipS (F := F) (n := n) (k := k) (w := nd dr % 16) (col := col) (stk := stk) (mask := oh (nd (nd dr) % (n + k))) hF hm hwd z
    have hno := @stS_no col (n + k) pr stk mea ab ev i dr z
    have hyes := @stS_yes col (n + k) pr stk mea ab ev i dr z
    generalize slS col (n + k) stk (nd dr % 16) (oh (nd (nd dr) % (n + k))) z = z1 at hslip hno hyes
    have hfo : fo (stS col (n + k) pr stk mea ab ev) (d + 1) i (dr, z) = fo (stS col (n + k) pr stk mea ab ev) d (i + 1) (stS col (n + k) pr stk mea ab ev i (dr, z)) := rfl
    rw [hfo]
    show ∃ y, p_X9_runStorm_L12b F mea stk (nI n) (nI k) pr col pl prT (nI N) (nI ev) (nI (n + k)) _ (nI dr) (nI i) z.1 z.2.1 z.2.2 y0 y1 y2 = _
    unfold p_X9_runStorm_L12b
    rw [if_neg (nI_nlt (by omega) (by omega)), if_neg (nI_nle h0 (by omega)), X9_draw hdr]
    simp only [Option.bind_some, X9_draw h1]
    have hj : ∀ {β : Type} (kk : Int32 → Option β), jlet (nI (nd dr) - nI (nd dr) / (16 : Int32) * (16 : Int32)) kk = kk (nI (nd dr % 16)) := fun kk => by rw [e16]; rfl
    rw [hj, if_neg hne, em, show (1 : Int32) <<< (nI (nd (nd dr) % (n + k)) &&& 31) = oh (nd (nd dr) % (n + k)) from rfl, hslip]
    simp only [Option.bind_some]
    unfold p_X9_runStorm_J79
    rw [nI_1]
    by_cases hz : ev = 0
    · rw [hno (by omega), hz, if_pos (by decide), ← hz]
      exact ih (i + 1) fuel (nd (nd dr)) z1 y0 y1 y2 (by omega) (by omega) h2
    · rw [if_neg (nI_nle (by omega) (by omega)), if_neg (nI_ne0 (by omega) (by omega)), pk_rem (by omega) (by omega) (by omega)]
      by_cases hr : i % ev = 0
      · rw [hr, if_pos (show nI 0 = 0 from rfl), hyes ⟨by omega, hr⟩]
        obtain ⟨y, hy⟩ := X9_scrub (F := F) (mea := mea) hF hm hB ht hpr hS z1 y0 y1 y2
        rw [hy]
        simp only [Option.bind_some]
        exact ih (i + 1) fuel (nd (nd dr)) (scS col (n + k) pr stk mea ab z1) y.1 y.2.1 y.2.2 (by omega) (by omega) h2
      · rw [if_neg (by rw [nI_is0 (Nat.lt_of_lt_of_le (Nat.mod_lt _ (by omega)) (by omega))]; exact hr), hno (fun h => hr h.2)]
        exact ih (i + 1) fuel (nd (nd dr)) z1 y0 y1 y2 (by omega) (by omega) h2
theorem X9_storm {F n k N ev sd : Nat} {col pl prT mea stk : Nat → Int32} {pr : Int32} {ab : Nat → Int32 × Int32} (hF : 1000 < F) (hm : n + k ≤ 32) (h0 : 0 < n + k) (hB : ColB (n + k) col) (ht : TabOK (n + k) col pl prT) (hpr : pr = 0 ∨ pr = 1) (hS : StkA (n + k) stk ab) (hN : N < 1000) (hev : ev < 1000) (hsd : sd < 10007) (z : A3) (y0 y1 y2 : Int32) :
    ∃ y : Int32 × Int32 × Int32, p_X9_runStorm F z.1 mea stk z.2.1 z.2.2 (nI n) (nI k) pr col pl prT y0 y1 y2 (nI sd) (nI N) (nI ev) = some ((fo (stS col (n + k) pr stk mea ab ev) N 1 (sd, z)).2.1, (fo (stS col (n + k) pr stk mea ab ev) N 1 (sd, z)).2.2.1, (fo (stS col (n + k) pr stk mea ab ev) N 1 (sd, z)).2.2.2, y) := by
  unfold p_X9_runStorm p_X1_places
  simp only [Option.bind_some, nI_add]
  exact X9_storm_loop (by omega) hm h0 hB ht hpr hS hN hev N 1 F sd z y0 y1 y2 (by omega) (by omega) hsd
