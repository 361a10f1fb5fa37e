/-! the best exchange -/
def swp (f : Nat → Int32) (p q : Nat) : Nat → Int32 := upd (upd f p (f q)) q (f p)
theorem swp_at {f : Nat → Int32} {p q j : Nat} : swp f p q j = if j = q then f p else if j = p then f q else f j := rfl
theorem swp_swp {f : Nat → Int32} {p q : Nat} (h : p ≠ q) : swp (swp f p q) p q = f := by
  funext j
  have h' : ¬ q = p := fun e => h e.symm
  simp only [swp_at]
  by_cases c1 : j = q
  · subst c1; simp [h]
  · by_cases c2 : j = p
    · subst c2; simp [c1]
    · simp [c1, c2]
section Exch
variable {F b n k g a : Nat} {dat chk : Nat → Int32} {pr : Int32} {col pl prT bits mea stk syn tal al : Nat → Int32} {st : Nat → Option Nat}
theorem ColB.swp {m p q : Nat} (h : ColB m col) (hp : p < m) (hq : q < m) : ColB m (swp col p q) := fun j hj => by
  rw [swp_at]
  by_cases c1 : j = q
  · rw [if_pos c1]; exact h p hp
  · rw [if_neg c1]
    by_cases c2 : j = p
    · rw [if_pos c2]; exact h q hq
    · rw [if_neg c2]; exact h j hj
theorem MC.swp {p q : Nat} (h : MC b n k al dat chk col pr) (hp : p < n) (hq : q < n) : MC b n k (swp al p q) dat chk (swp col p q) pr := by
  obtain ⟨h1, h2, h3, h4, h5, h6, h7, h8, h9, h10⟩ := h
  refine ⟨h1, h2, h3, h4, h5, h6, h7, fun j hj => ?_, ?_, fun c hc => ?_⟩
  · rw [swp_at, swp_at, h8 p (by omega), h8 q (by omega), h8 j hj]
  · rw [swp_at, if_neg (by omega), if_neg (by omega)]; exact h9
  · rw [swp_at, if_neg (by omega), if_neg (by omega)]; exact h10 c hc
theorem X1_exch {p q : Nat} {a2 a3 : Nat → Int32} (hF : 300 < F) (hm : n + k ≤ 32) (hB : ColB (n + k) col) (hp : p < n + k) (hq : q < n + k) : ∃ pl pr, p_X1_exchangeColumns F (nI n) (nI k) col a2 a3 (nI p) (nI q) = some (swp col p q, pl, pr) ∧ TabOK (n + k) (swp col p q) pl pr := by
  obtain ⟨pl, pr, e1, e2⟩ := X1_look (a2 := a2) (a3 := a3) hF hm (hB.swp hp hq)
  refine ⟨pl, pr, ?_, e2⟩
  have g1 : ¬ ixBad (nI p) 32 := ixg (by omega) (by decide)
  have g2 : ¬ ixBad (nI q) 32 := ixg (by omega) (by decide)
  have c1 : (nI p).toNatClampNeg = p := nI_clamp (by omega)
  have c2 : (nI q).toNatClampNeg = q := nI_clamp (by omega)
  unfold p_X1_exchangeColumns
  simp only [g1, g2, c1, c2, ↓reduceIte]
  show (p_X1_lookUpAnew F (nI n) (nI k) (swp col p q) a2 a3).bind _ = _
  rw [e1]
  rfl
theorem M_exch {p q : Nat} (hp : p < 121) (hq : q < 121) : p_X11_exchangeAt F al (nI p) (nI q) = some (swp al p q) := by
  have g1 : ¬ ixBad (nI p) 121 := ixg (by omega) (by decide)
  have g2 : ¬ ixBad (nI q) 121 := ixg (by omega) (by decide)
  have c1 : (nI p).toNatClampNeg = p := nI_clamp (by omega)
  have c2 : (nI q).toNatClampNeg = q := nI_clamp (by omega)
  unfold p_X11_exchangeAt
  simp only [nI_z, g1, g2, c1, c2, ↓reduceIte]
  rfl
/-- what was found: nothing, or two places -/
def XRel (n : Nat) (fz bp bo bc ms : Int32) : Prop := (bp = -1 ∧ bo = -1 ∧ bc = -1 ∧ ms = -1) ∨ ∃ p q, p < q ∧ q < n ∧ bp = nI p ∧ bo = nI q ∧ bc = fz ∧ ms = nI (32 * p + q)
theorem all_both (hF : 1000 < F) (hm : n + k ≤ 32) (hB : ColB (n + k) col) (ht : TabOK (n + k) col pl prT) (hmc : MC b n k al dat chk col pr) (hpr : pr = 0 ∨ pr = 1) (y0 y1 y2 : Int32) (T : Nat → Int32) :
    ∃ r y T', p_X4_countAllSets F y0 y1 y2 (nI n) (nI k) pr col pl prT 2 = some (r, y) ∧ p_X11_layChips F (nI b) al dat chk T 0 (nI (chN (n + k))) = some T' ∧ T' 2 = r := by
  obtain ⟨y, t1⟩ := X4_all (w := 2) hF hm hB ht hpr y0 y1 y2
  obtain ⟨T', t2, t3⟩ := M_layChips (c0 := 0) (d := chN (n + k)) hF hmc hpr (fun c' h' => chN_lt (by omega)) T
  rw [Nat.zero_add] at t2
  exact ⟨_, y, T', t1, t2, t3 2 (by decide)⟩
theorem exch_inner (hF : 1000 < F) (hb : MB b n k dat chk) (hm : n + k ≤ 32) (hn24 : n ≤ 24) (hB : ColB (n + k) col) (hmc : MC b n k al dat chk col pr) (hpr : pr = 0 ∨ pr = 1) {p : Nat} (hp : p < n) (C5 C6 : Int32) (C7 C8 C9 : Nat → Int32) (v : Int32)
    (k27 : Int32 → Int32 → Int32 → Int32 → Int32 → Int32 → Int32 → Int32 → (Nat → Int32) → (Nat → Int32) → (Nat → Int32) → Int32 → Int32 → Int32 → Option (Int32 × Int32 × Int32 × Int32 × Int32 × Int32 × (Nat → Int32) × (Nat → Int32) × (Nat → Int32) × Int32 × Int32 × Int32)) (k32 : Int32 → Int32 → Int32 → (Nat → Int32) → (Nat → Int32) → Option (Int32 × (Nat → Int32) × (Nat → Int32))) :
    ∀ (d q fx fm : Nat) (fz bp bo bc ms y0 y1 y2 : Int32) (pl prT T : Nat → Int32), q + d = n → p < q → d < fx → d < fm → XRel n fz bp bo bc ms → TabOK (n + k) col pl prT →
      ∃ fz' bp' bo' bc' ms' y0' y1' y2' pl' prT' T', XRel n fz' bp' bo' bc' ms' ∧ TabOK (n + k) col pl' prT' ∧
        p_X4_seekExchange_L40 F (nI n) C5 C6 C7 C8 C9 (nI p) k27 fx fz (nI q) bp bo bc (nI n) (nI k) pr col pl prT y0 y1 y2 = k27 fz' (nI (p + 1)) bp' bo' bc' (nI n) (nI k) pr col pl' prT' y0' y1' y2' ∧
        p_X11_exchange_L47 F (nI b) dat chk v (nI p) k32 fm fz ms (nI q) al T = k32 fz' ms' (nI (p + 1)) al T' := by
  intro d
  induction d with
  | zero =>
    intro q fx fm fz bp bo bc ms y0 y1 y2 pl prT T hq hpq h1 h2 hr ht
    obtain ⟨fx, rfl⟩ : ∃ q, fx = q + 1 := ⟨fx - 1, by omega⟩
    obtain ⟨fm, rfl⟩ : ∃ q, fm = q + 1 := ⟨fm - 1, by omega⟩
    refine ⟨fz, bp, bo, bc, ms, y0, y1, y2, pl, prT, T, hr, ht, ?_, ?_⟩
    · show p_X4_seekExchange_L40b F (nI n) C5 C6 C7 C8 C9 (nI p) k27 _ fz (nI q) bp bo bc (nI n) (nI k) pr col pl prT y0 y1 y2 = _
      unfold p_X4_seekExchange_L40b
      rw [if_pos (nI_le (by omega) (by omega)), nI_1]
    · show p_X11_exchange_L47b F (nI b) dat chk v (nI p) k32 _ fz ms (nI q) al T = _
      unfold p_X11_exchange_L47b
      rw [M_data hb.1 hb.2.1]
      simp only [Option.bind_some]
      rw [if_pos (nI_le (by omega) (by omega)), nI_1]
  | succ d ih =>
    intro q fx fm fz bp bo bc ms y0 y1 y2 pl prT T hq hpq h1 h2 hr ht
    obtain ⟨fx, rfl⟩ : ∃ q, fx = q + 1 := ⟨fx - 1, by omega⟩
    obtain ⟨fm, rfl⟩ : ∃ q, fm = q + 1 := ⟨fm - 1, by omega⟩
    obtain ⟨pl1, pr1, e1, t1⟩ := X1_exch (F := F) (n := n) (k := k) (a2 := pl) (a3 := prT) (by omega) hm hB (show p < n + k by omega) (show q < n + k by omega)
    have hB1 := hB.swp (show p < n + k by omega) (show q < n + k by omega)
    obtain ⟨r, y, T1, s1, s2, s3⟩ := all_both hF hm hB1 t1 (hmc.swp hp (show q < n by omega)) hpr y0 y1 y2 T
    obtain ⟨pl2, pr2, e2, t2⟩ := X1_exch (F := F) (n := n) (k := k) (a2 := pl1) (a3 := pr1) (by omega) hm hB1 (show p < n + k by omega) (show q < n + k by omega)
    rw [swp_swp (by omega)] at e2 t2
    have m1 := M_exch (F := F) (al := al) (show p < 121 by omega) (show q < 121 by omega)
    have m2 := M_exch (F := F) (al := swp al p q) (show p < 121 by omega) (show q < 121 by omega)
    rw [swp_swp (by omega)] at m2
    have c2 : (2 : Int32).toNatClampNeg = 2 := rfl
    have hX : p_X4_seekExchange_L40 F (nI n) C5 C6 C7 C8 C9 (nI p) k27 (fx + 1) fz (nI q) bp bo bc (nI n) (nI k) pr col pl prT y0 y1 y2 = if fz ≤ r then p_X4_seekExchange_L40 F (nI n) C5 C6 C7 C8 C9 (nI p) k27 fx fz (nI (q + 1)) bp bo bc (nI n) (nI k) pr col pl2 pr2 y.1 y.2.1 y.2.2 else p_X4_seekExchange_L40 F (nI n) C5 C6 C7 C8 C9 (nI p) k27 fx r (nI (q + 1)) (nI p) (nI q) r (nI n) (nI k) pr col pl2 pr2 y.1 y.2.1 y.2.2 := by
      show p_X4_seekExchange_L40b F (nI n) C5 C6 C7 C8 C9 (nI p) k27 _ fz (nI q) bp bo bc (nI n) (nI k) pr col pl prT y0 y1 y2 = _
      unfold p_X4_seekExchange_L40b p_X4_seekExchange_J98 p_X4_settleBest
      rw [if_neg (nI_ge (by omega) (by omega)), e1]
      simp only [Option.bind_some]
      rw [s1]
      simp only [Option.bind_some]
      rw [e2]
      simp only [Option.bind_some, nI_1]
    have hM : p_X11_exchange_L47 F (nI b) dat chk v (nI p) k32 (fm + 1) fz ms (nI q) al T = if r < fz then p_X11_exchange_L47 F (nI b) dat chk v (nI p) k32 fm r (nI (32 * p + q)) (nI (q + 1)) al T1 else p_X11_exchange_L47 F (nI b) dat chk v (nI p) k32 fm fz ms (nI (q + 1)) al T1 := by
      show p_X11_exchange_L47b F (nI b) dat chk v (nI p) k32 _ fz ms (nI q) al T = _
      unfold p_X11_exchange_L47b p_X11_exchange_J110
      rw [M_data hb.1 hb.2.1]
      simp only [Option.bind_some]
      rw [if_neg (nI_ge (by omega) (by omega)), m1, M_chips hmc]
      simp only [Option.bind_some]
      rw [s2]
      simp only [Option.bind_some]
      rw [m2]
      simp only [Option.bind_some, c2, s3, nI_1]
      rw [show (32 : Int32) * nI p + nI q = nI (32 * p + q) by rw [show (32 : Int32) = nI 32 from rfl, pk_mul, nI_add]]
    rw [hX, hM]
    by_cases c : fz ≤ r
    · rw [if_pos c, if_neg (i32_nlt.mpr c)]
      exact ih (q + 1) fx fm fz bp bo bc ms _ _ _ _ _ _ (by omega) (by omega) (by omega) (by omega) hr t2
    · rw [if_neg c, if_pos (i32_nle.mp c)]
      exact ih (q + 1) fx fm r (nI p) (nI q) r (nI (32 * p + q)) _ _ _ _ _ _ (by omega) (by omega) (by omega) (by omega) (Or.inr ⟨p, q, hpq, by omega, rfl, rfl, rfl, rfl⟩) t2
theorem exch_outer (hF : 1000 < F) (hb : MB b n k dat chk) (hm : n + k ≤ 32) (hn24 : n ≤ 24) (hB : ColB (n + k) col) (hmc : MC b n k al dat chk col pr) (hpr : pr = 0 ∨ pr = 1) (C5 C6 : Int32) (C7 C8 C9 : Nat → Int32) (v : Int32) :
    ∀ (d p fx fm : Nat) (fz bp bo bc ms y0 y1 y2 : Int32) (pl prT T : Nat → Int32), p + d = n → d < fx → d < fm → XRel n fz bp bo bc ms → TabOK (n + k) col pl prT →
      ∃ fz' bp' bo' bc' ms' y0' y1' y2' pl' prT' T', XRel n fz' bp' bo' bc' ms' ∧
        p_X4_seekExchange_L27 F (nI n) C5 C6 C7 C8 C9 fx fz (nI p) bp bo bc (nI n) (nI k) pr col pl prT y0 y1 y2 = some (bp', bo', bc', nI n, nI k, pr, col, pl', prT', y0', y1', y2') ∧
        p_X11_exchange_L32 F (nI b) dat chk v fm fz ms (nI p) al T = some ((if 0 ≤ ms' then (if v = 0 then ms' / 32 else if v = 1 then ms' - ms' / 32 * 32 else fz') else -1), al, T') := by
  intro d
  induction d with
  | zero =>
    intro p fx fm fz bp bo bc ms y0 y1 y2 pl prT T hp h1 h2 hr ht
    obtain ⟨fx, rfl⟩ : ∃ q, fx = q + 1 := ⟨fx - 1, by omega⟩
    obtain ⟨fm, rfl⟩ : ∃ q, fm = q + 1 := ⟨fm - 1, by omega⟩
    refine ⟨fz, bp, bo, bc, ms, y0, y1, y2, pl, prT, T, hr, ?_, ?_⟩
    · show p_X4_seekExchange_L27b F (nI n) C5 C6 C7 C8 C9 _ fz (nI p) bp bo bc (nI n) (nI k) pr col pl prT y0 y1 y2 = _
      unfold p_X4_seekExchange_L27b
      rw [if_pos (nI_le (by omega) (by omega))]
    · show p_X11_exchange_L32b F (nI b) dat chk v _ fz ms (nI p) al T = _
      unfold p_X11_exchange_L32b
      rw [M_data hb.1 hb.2.1]
      simp only [Option.bind_some]
      rw [if_pos (nI_le (by omega) (by omega))]
      by_cases c0 : 0 ≤ ms
      · rw [if_pos c0, if_pos c0]
        by_cases c1 : v = 0
        · rw [if_pos c1, if_pos c1]
        · rw [if_neg c1, if_neg c1]
          by_cases c2 : v = 1
          · rw [if_pos c2, if_pos c2]
          · rw [if_neg c2, if_neg c2]
      · rw [if_neg c0, if_neg c0]
  | succ d ih =>
    intro p fx fm fz bp bo bc ms y0 y1 y2 pl prT T hp h1 h2 hr ht
    obtain ⟨fx, rfl⟩ : ∃ q, fx = q + 1 := ⟨fx - 1, by omega⟩
    obtain ⟨fm, rfl⟩ : ∃ q, fm = q + 1 := ⟨fm - 1, by omega⟩
    obtain ⟨fz1, bp1, bo1, bc1, ms1, w0, w1, w2, pl1, prT1, T1, hr1, ht1, i1, i2⟩ := exch_inner hF hb hm hn24 hB hmc hpr (show p < n by omega) C5 C6 C7 C8 C9 v (p_X4_seekExchange_L27 F (nI n) C5 C6 C7 C8 C9 fx) (p_X11_exchange_L32 F (nI b) dat chk v fm) (n - (p + 1)) (p + 1) F F fz bp bo bc ms y0 y1 y2 pl prT T (by omega) (by omega) (by omega) (by omega) hr ht
    obtain ⟨fz2, bp2, bo2, bc2, ms2, x0, x1, x2, pl2, prT2, T2, hr2, j1, j2⟩ := ih (p + 1) fx fm fz1 bp1 bo1 bc1 ms1 w0 w1 w2 pl1 prT1 T1 (by omega) (by omega) (by omega) hr1 ht1
    refine ⟨fz2, bp2, bo2, bc2, ms2, x0, x1, x2, pl2, prT2, T2, hr2, ?_, ?_⟩
    · rw [← j1, ← i1]
      show p_X4_seekExchange_L27b F (nI n) C5 C6 C7 C8 C9 _ fz (nI p) bp bo bc (nI n) (nI k) pr col pl prT y0 y1 y2 = _
      unfold p_X4_seekExchange_L27b
      rw [if_neg (nI_ge (by omega) (by omega)), nI_1]
    · rw [← j2, ← i2]
      show p_X11_exchange_L32b F (nI b) dat chk v _ fz ms (nI p) al T = _
      unfold p_X11_exchange_L32b
      rw [M_data hb.1 hb.2.1]
      simp only [Option.bind_some]
      rw [if_neg (nI_ge (by omega) (by omega)), nI_1]
theorem Q_exchange (hF : 1000 < F) (ha : a < 13) (hs : st a = some g) (hb : MB b n k dat chk) (h : SR n k pr col pl prT bits mea stk syn tal al) (x0 x1 x2 w0 w1 w2 y0 y1 y2 : Int32) (A5 A6 A7 T : Nat → Int32) (v : Int32) :
    ∃ r y T', p_X10_exchange F g (nI a) st x0 x1 x2 w0 w1 w2 A5 A6 A7 y0 y1 y2 (nI n) (nI k) pr col pl prT v = some (r, y) ∧ p_X11_exchange F (nI b) al dat chk T v = some (r, al, T') := by
  obtain ⟨h1, hc, ht, ⟨ab, hR⟩, hW, hI⟩ := h
  have hm := hc.hm
  have hn := hc.2.1
  have hmc := hR.mc (hc.bc hb)
  unfold p_X10_exchange p_X11_exchange
  rcases rng v (N := 3) (by decide) with ⟨q, hq, rfl⟩ | hv
  · rw [cls_in 3 2 rfl hq (by decide), isIn_inL 3 2 rfl hq (by decide), now_eq ha hs, M_chips hmc]
    simp only [Option.bind_some]
    rw [if_neg i32_1_0]
    have hcol : ∀ j, j < n + k → va_cpy col A5 0 0 32 j = col j := fun j hj => cpy0 (by omega)
    have hB : ColB (n + k) (va_cpy col A5 0 0 32) := fun j hj => by rw [hcol j hj]; exact hc.colB j hj
    have ht' : TabOK (n + k) (va_cpy col A5 0 0 32) (va_cpy pl A6 0 0 256) (va_cpy prT A7 0 0 256) := fun s hs => by
      rw [cpy0 hs, cpy0 hs, plc_cong hcol, prc_cong hcol]; exact ht s hs
    have hmc' : MC b n k al dat chk (va_cpy col A5 0 0 32) pr := by
      obtain ⟨q1, q2, q3, q4, q5, q6, q7, q8, q9, q10⟩ := hmc
      exact ⟨q1, q2, q3, q4, q5, q6, q7, fun j hj => by rw [hcol j hj]; exact q8 j hj, q9, fun c hc' => by rw [hcol _ (by omega)]; exact q10 c hc'⟩
    obtain ⟨r, y, T1, s1, s2, s3⟩ := all_both hF hm hB ht' hmc' h1 y0 y1 y2 T
    obtain ⟨fz2, bp2, bo2, bc2, ms2, z0, z1, z2, pl2, prT2, T2, hr2, j1, j2⟩ := exch_outer hF hb hm hn hB hmc' h1 (nI k) pr col pl prT (nI q) n 0 F F r (-1) (-1) (-1) (-1) y.1 y.2.1 y.2.2 _ _ T1 (by omega) (by omega) (by omega) (Or.inl ⟨rfl, rfl, rfl, rfl⟩) ht'
    have c2 : (2 : Int32).toNatClampNeg = 2 := rfl
    have hX : p_X4_seekExchange F x0 x1 x2 w0 w1 w2 A5 A6 A7 y0 y1 y2 (nI n) (nI k) pr col pl prT = some (bp2, bo2, bc2, nI n, nI k, pr, va_cpy col A5 0 0 32, pl2, prT2, z0, z1, z2) := by
      unfold p_X4_seekExchange p_X4_settleBest p_X1_copyFrom
      simp only [Option.bind_some]
      rw [if_neg (fun hh => hh h1)]
      simp only [Option.bind_some]
      have s1' : p_X4_countAllSets F y0 y1 y2 (nI n) (nI k) pr (va_cpy col A5 (0 : Int32).toNatClampNeg (0 : Int32).toNatClampNeg (32 : Int32).toNatClampNeg) (va_cpy pl A6 (0 : Int32).toNatClampNeg (0 : Int32).toNatClampNeg (256 : Int32).toNatClampNeg) (va_cpy prT A7 (0 : Int32).toNatClampNeg (0 : Int32).toNatClampNeg (256 : Int32).toNatClampNeg) 2 = some (r, y) := s1
      rw [s1']
      exact j1
    rw [hX, s2]
    simp only [Option.bind_some, c2, s3]
    have j2' : p_X11_exchange_L32 F (nI b) dat chk (nI q) F r (-1) 0 al T1 = _ := j2
    rw [j2']
    unfold p_X4_best
    simp only [ite_some, Option.bind_some]
    rcases hr2 with ⟨r1, r2, r3, r4⟩ | ⟨p, q', hpq, hq', r1, r2, r3, r4⟩
    · subst r1 r2 r3 r4
      rw [if_neg (show ¬ (0 : Int32) ≤ -1 by decide)]
      refine ⟨-1, (-1, -1, -1, nI n, nI k, pr, va_cpy col A5 0 0 32, pl2, prT2, z0, z1, z2), T2, ?_, rfl⟩
      simp
    · subst r1 r2 r3 r4
      rw [if_pos (nI_ge0 (by omega))]
      have d1 : nI (32 * p + q') / (32 : Int32) = nI p := by
        rw [show (32 : Int32) = nI 32 from rfl, pk_div (by omega) (by decide) (by decide)]
        congr 1; omega
      have d2 : nI (32 * p + q') - nI (32 * p + q') / (32 : Int32) * (32 : Int32) = nI q' := by
        rw [show (32 : Int32) = nI 32 from rfl, pk_rem (by omega) (by decide) (by decide)]
        congr 1; omega
      rw [d2, d1]
      exact ⟨_, _, _, rfl, rfl⟩
  · rw [cls_out 3 2 rfl (by decide) (by decide) hv, isIn_outL 3 2 rfl (by decide) (by decide) hv]
    exact ⟨-1, _, _, rfl, rfl⟩
end Exch
