section Qry5
variable {F b n k g a : Nat} {dat chk : Nat → Int32} {pr : Int32} {col pl prT bits mea stk syn tal al : Nat → Int32} {st : Nat → Option Nat}
/-- scratch of a trial: a reading, five rows -/
abbrev Y8 : Type := Int32 × Int32 × Int32 × (Nat → Int32) × (Nat → Int32) × (Nat → Int32) × (Nat → Int32) × (Nat → Int32)
theorem Q_behind (hF : 1000 < F) (ha : a < 13) (hs : st a = some g) (hb : MB b n k dat chk) (h : SR n k pr col pl prT bits mea stk syn tal al) {sd N ev : Nat} (hsd : sd < 10007) (hN : N < 1000) (hev : ev < 1000) (y : Y8) (z0 z1 z2 z3 : Int32) (asd : Nat → Int32) :
    ∃ q, q ≤ 16 ∧ (∃ y' : Y8, p_X10_notMeantBehind F g (nI a) st y.1 y.2.1 y.2.2.1 y.2.2.2.1 y.2.2.2.2.1 y.2.2.2.2.2.1 y.2.2.2.2.2.2.1 y.2.2.2.2.2.2.2 (nI n) (nI k) pr col pl prT bits mea stk syn tal (nI sd) (nI N) (nI ev) = some (nI q, y')) ∧
      ∃ z0' z1' z2' z3' al' asd', p_X11_strangeBy F (nI b) z0 z1 z2 z3 al dat chk asd (nI sd) (nI N) (nI ev) = some (nI q, z0', z1', z2', z3', al', asd') ∧ ∀ j, j < 121 → al' j = al j := by
  obtain ⟨y0, y1, y2, t1, t2, t3, t4, t5⟩ := y
  have h' : SR n k pr col pl prT (va_cpy bits t1 0 0 16) (va_cpy mea t2 0 0 16) (va_cpy stk t3 0 0 16) (va_cpy syn t4 0 0 16) (va_cpy tal t5 0 0 8) al :=
    h.cong (fun _ _ => rfl) (fun _ _ => rfl) (fun _ _ => rfl) (fun _ hp => cpy0 hp) (fun _ hp => cpy0 hp) (fun _ hp => cpy0 hp) (fun _ hp => cpy0 hp) (fun _ hp => cpy0 hp) (fun _ _ => rfl)
  clear h
  obtain ⟨h1, hc, ht, ⟨ab, hR⟩, hW, hI⟩ := h'
  have hm := hc.hm
  have hbc := hc.bc hb
  have h0 : 0 < n + k := by have := hc.1; omega
  obtain ⟨w, hX⟩ := X9_storm (N := N) (ev := ev) (mea := va_cpy mea t2 0 0 16) hF hm h0 hc.colB ht h1 hR.stk hN hev hsd (va_cpy bits t1 0 0 16, va_cpy syn t4 0 0 16, va_cpy tal t5 0 0 8) y0 y1 y2
  obtain ⟨all', w0, w1, w2, w3, hM, hRA, hAI⟩ := M_storm (N := N) (ev := ev) (sd := sd) (z := (va_cpy bits t1 0 0 16, va_cpy syn t4 0 0 16, va_cpy tal t5 0 0 8)) hF hbc hW hN hev hsd hR hI z0 z1 z2 z3
  generalize fo (stS col (n + k) pr (va_cpy stk t3 0 0 16) (va_cpy mea t2 0 0 16) ab ev) N 1 (sd, va_cpy bits t1 0 0 16, va_cpy syn t4 0 0 16, va_cpy tal t5 0 0 8) = r at hX hM hRA hAI
  have hle := nmN_le r.2.1 (va_cpy mea t2 0 0 16)
  have e : (16 : Int32) - nI (16 - nmN r.2.1 (va_cpy mea t2 0 0 16)) = nI (nmN r.2.1 (va_cpy mea t2 0 0 16)) := by
    have e1 : nI (16 - nmN r.2.1 (va_cpy mea t2 0 0 16)) + nI (nmN r.2.1 (va_cpy mea t2 0 0 16)) = 16 := by rw [nI_add, Nat.sub_add_cancel hle]; rfl
    rw [← e1]; grind
  have hA : p_X10_notMeantBehind F g (nI a) st y0 y1 y2 t1 t2 t3 t4 t5 (nI n) (nI k) pr col pl prT bits mea stk syn tal (nI sd) (nI N) (nI ev) = some (nI (nmN r.2.1 (va_cpy mea t2 0 0 16)), w.1, w.2.1, w.2.2, r.2.1, va_cpy mea t2 0 0 16, va_cpy stk t3 0 0 16, r.2.2.1, r.2.2.2) := by
    unfold p_X10_notMeantBehind p_X9_copyFrom
    rw [now_eq ha hs]
    simp only [Option.bind_some]
    rw [show p_X9_runStorm F (va_cpy bits t1 (Int32.toNatClampNeg 0) (Int32.toNatClampNeg 0) (Int32.toNatClampNeg 16)) (va_cpy mea t2 (Int32.toNatClampNeg 0) (Int32.toNatClampNeg 0) (Int32.toNatClampNeg 16)) (va_cpy stk t3 (Int32.toNatClampNeg 0) (Int32.toNatClampNeg 0) (Int32.toNatClampNeg 16)) (va_cpy syn t4 (Int32.toNatClampNeg 0) (Int32.toNatClampNeg 0) (Int32.toNatClampNeg 16)) (va_cpy tal t5 (Int32.toNatClampNeg 0) (Int32.toNatClampNeg 0) (Int32.toNatClampNeg 8)) (nI n) (nI k) pr col pl prT y0 y1 y2 (nI sd) (nI N) (nI ev) = _ from hX]
    simp only [Option.bind_some, X9_asMeant (F := F) (show 40 < F by omega)]
    exact congrArg (fun x => some (x, w.1, w.2.1, w.2.2, r.2.1, va_cpy mea t2 0 0 16, va_cpy stk t3 0 0 16, r.2.2.1, r.2.2.2)) e
  have hB : p_X11_strangeBy F (nI b) z0 z1 z2 z3 al dat chk asd (nI sd) (nI N) (nI ev) = some (nI (nmN r.2.1 (va_cpy mea t2 0 0 16)), w0, w1, w2, w3, (fun j => if j < 121 then (if j < 121 then al j else asd j) else all' j), fun j => if j < 121 then al j else asd j) := by
    unfold p_X11_strangeBy
    rw [M_putAside hF, hM]
    simp only [Option.bind_some, M_strange (F := F) (show 40 < F by omega) hbc hRA hW, M_bringBack hF]
  exact ⟨nmN r.2.1 (va_cpy mea t2 0 0 16), hle, ⟨_, hA⟩, w0, w1, w2, w3, _, _, hB, fun j hj => by simp only [hj, ↓reduceIte]⟩
theorem Q_would (hF : 1000 < F) (ha : a < 13) (hs : st a = some g) (hb : MB b n k dat chk) (h : SR n k pr col pl prT bits mea stk syn tal al) (y : Y8) (z0 z1 z2 z3 : Int32) (asd : Nat → Int32) (u v w : Int32) :
    ∃ r, (∃ y' : Y8, p_X10_would F g (nI a) st y.1 y.2.1 y.2.2.1 y.2.2.2.1 y.2.2.2.2.1 y.2.2.2.2.2.1 y.2.2.2.2.2.2.1 y.2.2.2.2.2.2.2 (nI n) (nI k) pr col pl prT bits mea stk syn tal u v w = some (r, y')) ∧
      ∃ z0' z1' z2' z3' al' asd', p_X11_would F (nI b) z0 z1 z2 z3 al dat chk asd u v w = some (r, z0', z1', z2', z3', al', asd') ∧ ∀ j, j < 121 → al' j = al j := by
  unfold p_X10_would p_X11_would
  rw [X10_isStorm_eq, M_isStorm_eq]
  simp only [Option.bind_some, ite0]
  by_cases c : (0 ≤ u ∧ u ≤ 9999) ∧ (0 ≤ v ∧ v ≤ 200) ∧ (0 ≤ w ∧ w ≤ 50)
  · rw [if_pos c, if_pos c]
    obtain ⟨sd, hsd, rfl⟩ := rng_of (N := 9999) (by decide) rfl c.1
    obtain ⟨N, hN, rfl⟩ := rng_of (N := 200) (by decide) rfl c.2.1
    obtain ⟨ev, hev, rfl⟩ := rng_of (N := 50) (by decide) rfl c.2.2
    obtain ⟨q, hq, ⟨y', hy⟩, z0', z1', z2', z3', al', asd', hz, he⟩ := Q_behind hF ha hs hb h (sd := sd) (N := N) (ev := ev) (by omega) (by omega) (by omega) y z0 z1 z2 z3 asd
    rw [hy, hz]
    exact ⟨nI q, ⟨y', rfl⟩, z0', z1', z2', z3', al', asd', rfl, he⟩
  · rw [if_neg c, if_neg c]
    exact ⟨-1, ⟨y, rfl⟩, z0, z1, z2, z3, al, asd, rfl, fun _ _ => rfl⟩
theorem worst_loop (hF : 1000 < F) (ha : a < 13) (hs : st a = some g) (hb : MB b n k dat chk) {N ev : Nat} (hN : N < 1000) (hev : ev < 1000) (w : Int32) : ∀ (d i fuel : Nat) (al : Nat → Int32) (x1 x2 m2 : Int32) (y : Y8) (z0 z1 z2 z3 : Int32) (asd : Nat → Int32), i + d = 50 → d < fuel → SR n k pr col pl prT bits mea stk syn tal al → ((0 < i ∧ x1 = m2) ∨ (i = 0 ∧ x2 = -1)) →
    ∃ r, (∃ y' : Y8, p_X10_worst_L35 F g (nI a) st (nI n) (nI k) pr col pl prT bits mea stk syn tal (nI N) (nI ev) w fuel x1 x2 (nI i) y.1 y.2.1 y.2.2.1 y.2.2.2.1 y.2.2.2.2.1 y.2.2.2.2.2.1 y.2.2.2.2.2.2.1 y.2.2.2.2.2.2.2 = some (r, y')) ∧
      ∃ z0' z1' z2' z3' al' asd', p_X11_worst_L32 F (nI b) dat chk (nI N) (nI ev) w fuel m2 x2 (nI i) z0 z1 z2 z3 al asd = some (r, z0', z1', z2', z3', al', asd') ∧ ∀ j, j < 121 → al' j = al j := by
  intro d
  induction d with
  | zero =>
    intro i fuel al x1 x2 m2 y z0 z1 z2 z3 asd hd hf h hx
    cases fuel with
    | zero => exact absurd hf (by omega)
    | succ fuel =>
      have e : i = 50 := by omega
      subst e
      have e2 : x1 = m2 := by
        rcases hx with ⟨_, e⟩ | ⟨e, _⟩
        · exact e
        · exact absurd e (by decide)
      subst e2
      refine ⟨if w = 0 then x1 else x2, ⟨y, ?_⟩, z0, z1, z2, z3, al, asd, ?_, fun _ _ => rfl⟩
      · show p_X10_worst_L35b F g (nI a) st (nI n) (nI k) pr col pl prT bits mea stk syn tal (nI N) (nI ev) w _ x1 x2 (nI 50) _ _ _ _ _ _ _ _ = _
        unfold p_X10_worst_L35b
        rw [if_pos (by decide)]
        by_cases c : w = 0 <;> simp [c]
      · show p_X11_worst_L32b F (nI b) dat chk (nI N) (nI ev) w _ x1 x2 (nI 50) z0 z1 z2 z3 al asd = _
        unfold p_X11_worst_L32b
        rw [if_pos (by decide)]
        by_cases c : w = 0 <;> simp [c]
  | succ d ih =>
    intro i fuel al x1 x2 m2 y z0 z1 z2 z3 asd hd hf h hx
    cases fuel with
    | zero => exact absurd hf (by omega)
    | succ fuel =>
      obtain ⟨q, hq, ⟨y', hy⟩, z0', z1', z2', z3', al', asd', hz, he⟩ := Q_behind hF ha hs hb h (sd := i) (N := N) (ev := ev) (by omega) hN hev y z0 z1 z2 z3 asd
      obtain ⟨y0', y1', y2', t1', t2', t3', t4', t5'⟩ := y'
      have hcl : ¬ (50 : Int32) ≤ nI i := nI_ge (b := 50) (by omega) (by decide)
      have hX : p_X10_worst_L35 F g (nI a) st (nI n) (nI k) pr col pl prT bits mea stk syn tal (nI N) (nI ev) w (fuel + 1) x1 x2 (nI i) y.1 y.2.1 y.2.2.1 y.2.2.2.1 y.2.2.2.2.1 y.2.2.2.2.2.1 y.2.2.2.2.2.2.1 y.2.2.2.2.2.2.2 = p_X10_worst_L35 F g (nI a) st (nI n) (nI k) pr col pl prT bits mea stk syn tal (nI N) (nI ev) w fuel (if nI q ≤ x2 then x1 else nI i) (if nI q ≤ x2 then x2 else nI q) (nI (i + 1)) y0' y1' y2' t1' t2' t3' t4' t5' := by
        show p_X10_worst_L35b F g (nI a) st (nI n) (nI k) pr col pl prT bits mea stk syn tal (nI N) (nI ev) w _ x1 x2 (nI i) _ _ _ _ _ _ _ _ = _
        unfold p_X10_worst_L35b p_X10_worst_J67
        rw [if_neg hcl, hy]
        simp only [Option.bind_some, nI_1]
        by_cases c : nI q ≤ x2
        · simp only [c, ↓reduceIte]
        · simp only [c, ↓reduceIte]
      have hM : p_X11_worst_L32 F (nI b) dat chk (nI N) (nI ev) w (fuel + 1) m2 x2 (nI i) z0 z1 z2 z3 al asd = p_X11_worst_L32 F (nI b) dat chk (nI N) (nI ev) w fuel (if nI q ≤ x2 then m2 else nI i) (if nI q ≤ x2 then x2 else nI q) (nI (i + 1)) z0' z1' z2' z3' al' asd' := by
        show p_X11_worst_L32b F (nI b) dat chk (nI N) (nI ev) w _ m2 x2 (nI i) z0 z1 z2 z3 al asd = _
        unfold p_X11_worst_L32b p_X11_worst_J67
        rw [if_neg hcl, hz]
        simp only [Option.bind_some, nI_1]
        by_cases c : nI q ≤ x2
        · have c2 : ¬ x2 < nI q := i32_nlt.mpr c
          simp only [c, c2, ↓reduceIte]
        · have c2 : x2 < nI q := i32_nle.mp c
          simp only [c, c2, ↓reduceIte]
      have hx' : (0 < i + 1 ∧ (if nI q ≤ x2 then x1 else nI i) = (if nI q ≤ x2 then m2 else nI i)) ∨ (i + 1 = 0 ∧ (if nI q ≤ x2 then x2 else nI q) = -1) := by
        refine Or.inl ⟨by omega, ?_⟩
        rcases hx with ⟨_, e⟩ | ⟨_, e⟩
        · rw [e]
        · have c : ¬ nI q ≤ x2 := by
            rw [e, fa_le, nI_toInt (by omega)]
            have : (-1 : Int32).toInt = -1 := rfl
            omega
          rw [if_neg c, if_neg c]
      obtain ⟨r, ⟨yy, hy2⟩, w0, w1, w2, w3, al2, as2, hz2, he2⟩ := ih (i + 1) fuel al' _ _ _ (y0', y1', y2', t1', t2', t3', t4', t5') z0' z1' z2' z3' asd' (by omega) (by omega) (h.al he) hx'
      exact ⟨r, ⟨yy, hX.trans hy2⟩, w0, w1, w2, w3, al2, as2, hM.trans hz2, fun j hj => (he2 j hj).trans (he j hj)⟩
theorem Q_worst (hF : 1000 < F) (ha : a < 13) (hs : st a = some g) (hb : MB b n k dat chk) (h : SR n k pr col pl prT bits mea stk syn tal al) (y : Y8) (z0 z1 z2 z3 : Int32) (asd : Nat → Int32) (u v w : Int32) :
    ∃ r, (∃ y' : Y8, p_X10_worst F g (nI a) st y.1 y.2.1 y.2.2.1 y.2.2.2.1 y.2.2.2.2.1 y.2.2.2.2.2.1 y.2.2.2.2.2.2.1 y.2.2.2.2.2.2.2 (nI n) (nI k) pr col pl prT bits mea stk syn tal u v w = some (r, y')) ∧
      ∃ z0' z1' z2' z3' al' asd', p_X11_worst F (nI b) z0 z1 z2 z3 al dat chk asd u v w = some (r, z0', z1', z2', z3', al', asd') ∧ ∀ j, j < 121 → al' j = al j := by
  unfold p_X10_worst p_X11_worst
  rw [X10_isStorm_eq, M_isStorm_eq, M_isIn]
  simp only [Option.bind_some, ite0]
  have z00 : (0 : Int32) ≤ 0 ∧ (0 : Int32) ≤ 9999 := by decide
  have no : ∃ r, (∃ y' : Y8, some ((-1 : Int32), y.1, y.2.1, y.2.2.1, y.2.2.2.1, y.2.2.2.2.1, y.2.2.2.2.2.1, y.2.2.2.2.2.2.1, y.2.2.2.2.2.2.2) = some (r, y')) ∧ ∃ z0' z1' z2' z3' al' asd', some ((-1 : Int32), z0, z1, z2, z3, al, asd) = some (r, z0', z1', z2', z3', al', asd') ∧ ∀ j, j < 121 → al' j = al j :=
    ⟨-1, ⟨y, rfl⟩, z0, z1, z2, z3, al, asd, rfl, fun _ _ => rfl⟩
  by_cases c1 : (100 : Int32) < u
  · have : ¬ ((0 ≤ (0 : Int32) ∧ (0 : Int32) ≤ 9999) ∧ (0 ≤ u ∧ u ≤ 100) ∧ 0 ≤ v ∧ v ≤ 50) := fun q => i32_nlt.mpr q.2.1.2 c1
    rw [if_pos c1, if_neg this]
    exact no
  · rw [if_neg c1]
    have c1' : u ≤ 100 := i32_nlt.mp c1
    by_cases c : (0 ≤ u ∧ u ≤ 100) ∧ (0 ≤ v ∧ v ≤ 50)
    · have h200 : u ≤ 200 := by rw [fa_le] at c1' ⊢; have z1 : (100 : Int32).toInt = 100 := rfl; have z2 : (200 : Int32).toInt = 200 := rfl; omega
      have p1 : ((0 : Int32) ≤ 0 ∧ (0 : Int32) ≤ 9999) ∧ (0 ≤ u ∧ u ≤ 200) ∧ 0 ≤ v ∧ v ≤ 50 := ⟨z00, ⟨c.1.1, h200⟩, c.2⟩
      have p2 : ((0 : Int32) ≤ 0 ∧ (0 : Int32) ≤ 9999) ∧ (0 ≤ u ∧ u ≤ 100) ∧ 0 ≤ v ∧ v ≤ 50 := ⟨z00, c⟩
      rw [if_pos p1, if_pos p2]
      rcases rng w (N := 2) (by decide) with ⟨q, hq, rfl⟩ | hw
      · rw [cls_in 2 1 rfl hq (by decide), if_pos (show (0 : Int32) ≤ nI q ∧ nI q ≤ 1 from ⟨nI_ge0 (by omega), nI_le (b := 1) (by omega) (by decide)⟩)]
        obtain ⟨N, hN, rfl⟩ := rng_of (N := 100) (by decide) rfl c.1
        obtain ⟨ev, hev, rfl⟩ := rng_of (N := 50) (by decide) rfl c.2
        exact worst_loop hF ha hs hb (by omega) (by omega) (nI q) 50 0 F al (-1) (-1) 0 y z0 z1 z2 z3 asd (by omega) (by omega) h (Or.inr ⟨rfl, rfl⟩)
      · have : ¬ (0 ≤ w ∧ w ≤ 1) := fun q => by
          obtain ⟨j, hj, e⟩ := rng_of (N := 1) (by decide) rfl q
          subst e
          rcases hw with e | e
          · exact nI_pos (by omega) e
          · exact nI_ge (b := 2) (by omega) (by decide) e
        rw [cls_out 2 1 rfl (by decide) (by decide) hw, if_neg this]
        exact no
    · have h1 : ¬ ((0 ≤ (0 : Int32) ∧ (0 : Int32) ≤ 9999) ∧ (0 ≤ u ∧ u ≤ 200) ∧ 0 ≤ v ∧ v ≤ 50) := fun q => c ⟨⟨q.2.1.1, c1'⟩, q.2.2⟩
      have h2 : ¬ ((0 ≤ (0 : Int32) ∧ (0 : Int32) ≤ 9999) ∧ (0 ≤ u ∧ u ≤ 100) ∧ 0 ≤ v ∧ v ≤ 50) := fun q => c q.2
      rw [if_neg h1, if_neg h2]
      exact no
theorem interval_loop (hF : 1000 < F) (ha : a < 13) (hs : st a = some g) (hb : MB b n k dat chk) {N sd : Nat} (hN : N < 1000) (hsd : sd < 10007) : ∀ (d fuel : Nat) (al : Nat → Int32) (y : Y8) (z0 z1 z2 z3 : Int32) (asd : Nat → Int32), d ≤ 50 → d < fuel → SR n k pr col pl prT bits mea stk syn tal al →
    ∃ r, (∃ y' : Y8, p_X10_interval_L19 F g (nI a) st (nI n) (nI k) pr col pl prT bits mea stk syn tal (nI sd) (nI N) fuel (nI d) y.1 y.2.1 y.2.2.1 y.2.2.2.1 y.2.2.2.2.1 y.2.2.2.2.2.1 y.2.2.2.2.2.2.1 y.2.2.2.2.2.2.2 = some (r, y')) ∧
      ∃ z0' z1' z2' z3' al' asd', p_X11_interval_L18 F (nI b) dat chk (nI sd) (nI N) fuel (nI d) z0 z1 z2 z3 al asd = some (r, z0', z1', z2', z3', al', asd') ∧ ∀ j, j < 121 → al' j = al j := by
  intro d
  induction d with
  | zero =>
    intro fuel al y z0 z1 z2 z3 asd hd hf h
    cases fuel with
    | zero => exact absurd hf (by omega)
    | succ fuel =>
      exact ⟨0, ⟨y, rfl⟩, z0, z1, z2, z3, al, asd, rfl, fun _ _ => rfl⟩
  | succ d ih =>
    intro fuel al y z0 z1 z2 z3 asd hd hf h
    cases fuel with
    | zero => exact absurd hf (by omega)
    | succ fuel =>
      obtain ⟨q, hq, ⟨y', hy⟩, z0', z1', z2', z3', al', asd', hz, he⟩ := Q_behind hF ha hs hb h (sd := sd) (N := N) (ev := d + 1) hsd hN (by omega) y z0 z1 z2 z3 asd
      obtain ⟨y0', y1', y2', t1', t2', t3', t4', t5'⟩ := y'
      obtain ⟨r, ⟨yy, hy2⟩, w0, w1, w2, w3, al2, as2, hz2, he2⟩ := ih fuel al' (y0', y1', y2', t1', t2', t3', t4', t5') z0' z1' z2' z3' asd' (by omega) (by omega) (h.al he)
      have hcl : ¬ nI (d + 1) < 1 := nI_nlt (b := 1) (by omega) (by omega)
      have hcm : ¬ nI (d + 1) ≤ 0 := nI_ge (b := d + 1) (a := 0) (by omega) (by omega)
      have hpr : nI (d + 1) + (-1) = nI d := by have e := nI_pred d; rw [Int32.sub_eq_add_neg] at e; exact e
      show ∃ r, (∃ y' : Y8, p_X10_interval_L19b F g (nI a) st (nI n) (nI k) pr col pl prT bits mea stk syn tal (nI sd) (nI N) _ (nI (d + 1)) _ _ _ _ _ _ _ _ = some (r, y')) ∧ ∃ z0' z1' z2' z3' al' asd', p_X11_interval_L18b F (nI b) dat chk (nI sd) (nI N) _ (nI (d + 1)) z0 z1 z2 z3 al asd = some (r, z0', z1', z2', z3', al', asd') ∧ ∀ j, j < 121 → al' j = al j
      unfold p_X10_interval_L19b p_X11_interval_L18b
      rw [if_neg hcl, if_neg hcm, hy, hz]
      simp only [Option.bind_some, hpr]
      by_cases c : nI q = 0
      · rw [if_pos c, if_pos c]
        exact ⟨nI (d + 1), ⟨(y0', y1', y2', t1', t2', t3', t4', t5'), rfl⟩, z0', z1', z2', z3', al', asd', rfl, he⟩
      · rw [if_neg c, if_neg c]
        exact ⟨r, ⟨yy, hy2⟩, w0, w1, w2, w3, al2, as2, hz2, fun j hj => (he2 j hj).trans (he j hj)⟩
theorem Q_interval (hF : 1000 < F) (ha : a < 13) (hs : st a = some g) (hb : MB b n k dat chk) (h : SR n k pr col pl prT bits mea stk syn tal al) (y : Y8) (z0 z1 z2 z3 : Int32) (asd : Nat → Int32) (u v : Int32) :
    ∃ r, (∃ y' : Y8, p_X10_interval F g (nI a) st y.1 y.2.1 y.2.2.1 y.2.2.2.1 y.2.2.2.2.1 y.2.2.2.2.2.1 y.2.2.2.2.2.2.1 y.2.2.2.2.2.2.2 (nI n) (nI k) pr col pl prT bits mea stk syn tal u v = some (r, y')) ∧
      ∃ z0' z1' z2' z3' al' asd', p_X11_interval F (nI b) z0 z1 z2 z3 al dat chk asd u v = some (r, z0', z1', z2', z3', al', asd') ∧ ∀ j, j < 121 → al' j = al j := by
  unfold p_X10_interval p_X11_interval
  rw [X10_isStorm_eq, M_isStorm_eq]
  simp only [Option.bind_some, ite0]
  have z00 : (0 : Int32) ≤ 0 ∧ (0 : Int32) ≤ 50 := by decide
  have no : ∃ r, (∃ y' : Y8, some ((-1 : Int32), y.1, y.2.1, y.2.2.1, y.2.2.2.1, y.2.2.2.2.1, y.2.2.2.2.2.1, y.2.2.2.2.2.2.1, y.2.2.2.2.2.2.2) = some (r, y')) ∧ ∃ z0' z1' z2' z3' al' asd', some ((-1 : Int32), z0, z1, z2, z3, al, asd) = some (r, z0', z1', z2', z3', al', asd') ∧ ∀ j, j < 121 → al' j = al j :=
    ⟨-1, ⟨y, rfl⟩, z0, z1, z2, z3, al, asd, rfl, fun _ _ => rfl⟩
  by_cases c1 : v < 1
  · have : ¬ ((0 ≤ u ∧ u ≤ 9999) ∧ (1 ≤ v ∧ v ≤ 200) ∧ (0 : Int32) ≤ 0 ∧ (0 : Int32) ≤ 50) := fun q => i32_nlt.mpr q.2.1.1 c1
    rw [if_pos c1, if_neg this]
    exact no
  · rw [if_neg c1]
    have c1' : 1 ≤ v := i32_nlt.mp c1
    have c0 : 0 ≤ v := by rw [fa_le] at c1' ⊢; have z1 : (1 : Int32).toInt = 1 := rfl; have z2 : (0 : Int32).toInt = 0 := rfl; omega
    by_cases c : (0 ≤ u ∧ u ≤ 9999) ∧ v ≤ 200
    · have p1 : (0 ≤ u ∧ u ≤ 9999) ∧ (0 ≤ v ∧ v ≤ 200) ∧ (0 : Int32) ≤ 0 ∧ (0 : Int32) ≤ 50 := ⟨c.1, ⟨c0, c.2⟩, z00⟩
      have p2 : (0 ≤ u ∧ u ≤ 9999) ∧ (1 ≤ v ∧ v ≤ 200) ∧ (0 : Int32) ≤ 0 ∧ (0 : Int32) ≤ 50 := ⟨c.1, ⟨c1', c.2⟩, z00⟩
      rw [if_pos p1, if_pos p2]
      obtain ⟨sd, hsd, rfl⟩ := rng_of (N := 9999) (by decide) rfl c.1
      obtain ⟨N, hN, rfl⟩ := rng_of (N := 200) (by decide) rfl ⟨c0, c.2⟩
      exact interval_loop hF ha hs hb (by omega) (by omega) 50 F al y z0 z1 z2 z3 asd (by omega) (by omega) h
    · have h1 : ¬ ((0 ≤ u ∧ u ≤ 9999) ∧ (0 ≤ v ∧ v ≤ 200) ∧ (0 : Int32) ≤ 0 ∧ (0 : Int32) ≤ 50) := fun q => c ⟨q.1, q.2.1.2⟩
      have h2 : ¬ ((0 ≤ u ∧ u ≤ 9999) ∧ (1 ≤ v ∧ v ≤ 200) ∧ (0 : Int32) ≤ 0 ∧ (0 : Int32) ≤ 50) := fun q => c ⟨q.1, q.2.1.2⟩
      rw [if_neg h1, if_neg h2]
      exact no
end Qry5
