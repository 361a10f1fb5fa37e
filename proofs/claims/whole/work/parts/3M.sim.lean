/-! both parsers side by side -/
abbrev CRT : Type := Option (Int32 × Int32 × Int32 × Int32 × Int32 × Int32 × Int32 × Int32 × Int32 × Int32 × Int32 × Int32 × Int32 × AA × AA × AA × AA × AA × Int32 × Int32 × Int32 × AA × AA × AA × AA)
abbrev MRT : Type := Option (Int32 × Int32 × Int32 × Int32 × Int32 × Int32 × Int32 × Int32 × Int32 × Int32 × Int32 × AA × AA × AA × AA × AA × AA × AA × AA × AA × AA)
/-- a code that was told whole -/
def Gd (n k : Nat) (pr : Int32) (col pl prT td : AA) (b : Nat) (da ck to : AA) : Prop :=
  CodeOK n k col ∧ TabOK (n + k) col pl prT ∧ (pr = 0 ∨ pr = 1) ∧ da b = nI n ∧ ck b = nI k ∧ (∀ p, p < n + k → to (121 * b + p) = col p) ∧ to (121 * b + 32) = pr ∧ (∀ w, w < 16 → ∃ v, v < 2 ^ n ∧ td w = nI v ∧ to (121 * b + 65 + w) = nI v ∧ to (121 * b + 33 + w) = nI v) ∧ ∀ x, 81 ≤ x → x < 121 → to (121 * b + x) = 0
def ResR (b : Nat) (da0 ck0 : AA) (CR : CRT) (MS : MRT) : Prop :=
  (∃ q pl, 1 ≤ q ∧ q ≤ 4 ∧ CF CR q pl ∧ ∃ g sn ch mq da ck wy to, MS = some (mk21 g (nI q) (nI pl) sn ch mq da ck wy to) ∧ ∀ c, c ≠ b → da c = da0 c ∧ ck c = ck0 c) ∨
    ∃ (x6 x7 x8 x9 x10 x11 x12 x14 : Int32) (q : ChT) (n k : Nat) (pr : Int32) (col pl prT td : AA), CR = some (1, 0, -1, x6, x7, x8, x9, x10, x11, x12, 1, x14, q.1, q.2.1, q.2.2.1, q.2.2.2.1, q.2.2.2.2.1, q.2.2.2.2.2, nI n, nI k, pr, col, pl, prT, td) ∧
      ∃ g sn mq da ck wy to, MS = some (mk21 g 0 (-1) sn 1 mq da ck wy to) ∧ Gd n k pr col pl prT td b da ck to ∧ ∀ c, c ≠ b → da c = da0 c ∧ ck c = ck0 c
/-- at the head of a line -/
def PR (b : Nat) (wy tl ch : Int32) (d : I3) (co : CoT) (td : AA) (sn : Int32) (da ck mwy to : AA) : Prop :=
  ∃ n k w t, 4 ≤ n ∧ n ≤ 24 ∧ 4 ≤ k ∧ k ≤ 8 ∧ w < 3 ∧ t < 16 ∧ d.1 = nI n ∧ da b = nI n ∧ d.2.1 = nI k ∧ ck b = nI k ∧ (d.2.2 = 0 ∨ d.2.2 = 1) ∧ to (121 * b + 32) = d.2.2 ∧ wy = nI w ∧ mwy b = nI w ∧
    tl = nI t ∧ (t.testBit 0 = bt sn 0 ∧ t.testBit 1 = bt sn 1 ∧ t.testBit 2 = bt sn 2 ∧ t.testBit 3 = bt sn 6) ∧ (ch = 0 ∨ ch = 1) ∧
    (ch = 1 → CodeOK n k co.1 ∧ TabOK (n + k) co.1 co.2.1 co.2.2 ∧ ∀ p, p < n + k → to (121 * b + p) = co.1 p) ∧
    (∀ w, w < 16 → ∃ v, v < 2 ^ n ∧ td w = nI v ∧ to (121 * b + 65 + w) = nI v ∧ (ch = 0 → v = 0)) ∧ ∀ x, 81 ≤ x → x < 121 → to (121 * b + x) = 0
theorem tl_tab : ∀ t, t < 16 → ((nI t &&& 1 = 0) ↔ t.testBit 0 = false) ∧ ((nI t &&& 2 = 0) ↔ t.testBit 1 = false) ∧ ((nI t &&& 4 = 0) ↔ t.testBit 2 = false) ∧ ((nI t &&& 8 = 0) ↔ t.testBit 3 = false) ∧
    nI t ||| 1 = nI (t ||| 1) ∧ nI t ||| 2 = nI (t ||| 2) ∧ nI t ||| 4 = nI (t ||| 4) ∧ nI t ||| 8 = nI (t ||| 8) ∧ t ||| 1 < 16 ∧ t ||| 2 < 16 ∧ t ||| 4 < 16 ∧ t ||| 8 < 16 := by decide +kernel
theorem tb_tab : ∀ t, t < 16 → (∀ i, i < 4 → (t ||| 1).testBit i = (t.testBit i || decide (i = 0)) ∧ (t ||| 2).testBit i = (t.testBit i || decide (i = 1)) ∧ (t ||| 4).testBit i = (t.testBit i || decide (i = 2)) ∧ (t ||| 8).testBit i = (t.testBit i || decide (i = 3))) := by decide +kernel
theorem num_rng {a b lo hi : Nat} (h : NumR a b) (hh : hi < 90000000) : ((lo ≤ a ∧ a ≤ hi) ↔ (lo ≤ b ∧ b ≤ hi)) ∧ (a ≤ hi → a = b) := by
  rcases h with ⟨h1, h2⟩ | ⟨h1, h2, h3⟩
  · subst h1; exact ⟨Iff.rfl, fun _ => rfl⟩
  · exact ⟨⟨fun q => absurd q.2 (by omega), fun q => absurd q.2 (by omega)⟩, fun q => absurd q (by omega)⟩
section Sim
variable {F L b : Nat} {u : Nat → Nat} {tx tm lets : AA}
/-- a number is asked for, by both -/
theorem N_both (hF : 1000 < F) (h : TP L u tx tm) (hl : LT lets) {p lo hi : Nat} (hp : p ≤ L) (hhi : hi < 90000000) (hlo : lo ≤ 90000000) {g : G5} (hg : MR F L u tm p g) (fa x9 wt nx : Int32) {loI hiI : Int32} (e1 : loI = nI lo) (e2 : hiI = nI hi) :
    (∃ q x, 1 ≤ q ∧ q ≤ 4 ∧ (tK L u (tJ L u p) = 0 → q = 1) ∧ p_X3_isNumberWithin F 0 (-1) (nI (tJ L u p)) (nI (tK L u (tJ L u p))) (nX F L u tx p x9) wt loI hiI nx = some (0, nI q, nI (tJ L u p), wt) ∧
      p_X11_numeral F (nI L) g.1 g.2.1 g.2.2.1 g.2.2.2.1 g.2.2.2.2 0 fa tm lets loI hiI = some (x, g.1, g.2.1, g.2.2.1, g.2.2.2.1, g.2.2.2.2, nI q, nI (tJ L u p))) ∨
    (∃ (v : Nat) (g' : G5), lo ≤ v ∧ v ≤ hi ∧ tK L u (tJ L u p) = 2 ∧ nX F L u tx p x9 = nI v ∧ p_X3_isNumberWithin F 0 (-1) (nI (tJ L u p)) (nI (tK L u (tJ L u p))) (nX F L u tx p x9) wt loI hiI nx = some (1, 0, -1, nx) ∧
      MR F L u tm (tE L u (tJ L u p)) g' ∧ p_X11_numeral F (nI L) g.1 g.2.1 g.2.2.1 g.2.2.2.1 g.2.2.2.2 0 fa tm lets loI hiI = some (nI v, g'.1, g'.2.1, g'.2.2.1, g'.2.2.2.1, g'.2.2.2.2, 0, fa)) := by
  subst e1 e2
  obtain ⟨j1, j2⟩ := tJ_le (u := u) hp
  obtain ⟨⟨a, bv, ea, eb, hr⟩, _, _⟩ := num_at hF h j2
  have ha : a < 2 ^ 31 := by rcases hr with ⟨q1, q2⟩ | ⟨q1, q2, q3⟩ <;> omega
  have hbv : bv < 2 ^ 31 := by rcases hr with ⟨q1, q2⟩ | ⟨q1, q2, q3⟩ <;> omega
  have hx : tK L u (tJ L u p) = 2 → nX F L u tx p x9 = nI a := fun q => by unfold nX; rw [if_pos q, ea]
  have hk4 := tK_le (L := L) (u := u) (tJ L u p)
  have hX := X3_within (F := F) (lo := lo) (hi := hi) (j := tJ L u p) (wt := wt) (nx := nx) hhi hlo hk4 ha hx
  obtain ⟨m1, m2, m3⟩ := M_numeral (lo := lo) (hi := hi) hF h hl hp hhi hlo hbv hg (fun _ => eb) fa
  obtain ⟨r1, r2⟩ := num_rng (lo := lo) hr hhi
  by_cases c : tK L u (tJ L u p) = 2
  · rw [if_pos c] at hX
    by_cases c2 : lo ≤ a ∧ a ≤ hi
    · rw [if_pos c2] at hX
      obtain ⟨g', g1, g2⟩ := m3 c (r1.mp c2)
      have eab := r2 c2.2
      rw [← eab] at g2
      exact Or.inr ⟨a, g', c2.1, c2.2, c, hx c, hX, g1, g2⟩
    · rw [if_neg c2] at hX
      exact Or.inl ⟨2, _, by omega, by omega, fun q => by omega, hX, m2 c (fun q => c2 (r1.mpr q))⟩
  · rw [if_neg c] at hX
    exact Or.inl ⟨1, _, by omega, by omega, fun _ => rfl, hX, m1 c⟩
/-- a fault at a token that is not the head of a line -/
theorem C_fault (hF : 1000 < F) (h : TP L u tx tm) {f i p q : Nat} (hp : p ≤ L) (hi : i ≤ 600) (hq : 1 ≤ q) (hq4 : q ≤ 4) (hq0 : tK L u (tJ L u p) = 0 → q = 1) {J : I3} {wt wy tl ch sj : Int32} {Q : ChT} {d : I3} {co : CoT} {td : AA} (hw : ¬ wt = 0)
    {wt' wy' tl' sj' : Int32} {d' : I3} {co' : CoT} {td' : AA}
    (ht : p_X3_takeToken F 0 (-1) (nI (tE L u (tJ L u p))) (nI (tJ L u p)) (nI (tK L u (tJ L u p))) (nX F L u tx p J.2.2) wt wy tl ch sj (nI L) tx d.1 d.2.1 d.2.2 co.1 co.2.1 co.2.2 td = some (nI q, nI (tJ L u p), wt', wy', tl', sj', d'.1, d'.2.1, d'.2.2, co'.1, co'.2.1, co'.2.2, td')) :
    CF (CL F L tx (f + 2) i p J wt wy tl ch sj Q d co td) q (tJ L u p) := by
  by_cases c : tK L u (tJ L u p) = 0
  · have e := hq0 c
    subst e
    exact X3_eof hF h hp hi c hw
  · rw [show f + 2 = (f + 1) + 1 from rfl]
    unfold CF
    rw [X3_go hF h hp hi c (X3_noHead hw) ht]
    exact X3_stop hq hq4
/-- the stop behind a line -/
theorem T_sign {x6 x9 wy tl ch sj d0 d1 d2 : Int32} {A1 A2 A3 A4 : AA} {j kd : Nat} (hk : kd ≤ 4) : p_X3_takeToken F 0 (-1) x6 (nI j) (nI kd) x9 1 wy tl ch sj (nI L) tx d0 d1 d2 A1 A2 A3 A4 = if kd = 3 then some (0, -1, 0, wy, tl, sj, d0, d1, d2, A1, A2, A3, A4) else some (nI 1, nI j, 1, wy, tl, sj, d0, d1, d2, A1, A2, A3, A4) := by
  unfold p_X3_takeToken p_X3_takeSign p_X3_fail
  rw [if_neg i32_1_0, if_pos (show (1 : Int32) = 1 from rfl)]
  by_cases c : kd = 3
  · rw [if_pos c, if_pos (show nI kd = 3 by rw [c]; rfl)]; rfl
  · rw [if_neg c, if_neg (show ¬ nI kd = 3 from fun q => c ((nI_eq (b := 3) (by omega) (by decide)).mp q))]; rfl
def LHy (L p i f fm : Nat) : Prop := p ≤ L ∧ i ≤ p ∧ L - p + 3 ≤ f ∧ L - p + 3 ≤ fm
def Same (b : Nat) (da ck da0 ck0 : AA) : Prop := ∀ c, c ≠ b → da c = da0 c ∧ ck c = ck0 c
/-- what both do from the head of a line at p on -/
def GoOnL (F L b : Nat) (u : Nat → Nat) (tx tm lets da0 ck0 : AA) (p0 : Nat) : Prop := ∀ (p i f fm : Nat) (J : I3) (wy tl ch sj : Int32) (Q : ChT) (d : I3) (co : CoT) (td : AA) (g : G5) (sn : Int32) (mq : MqT) (da ck mwy to : AA), p0 < p → LHy L p i f fm → MR F L u tm p g → PR b wy tl ch d co td sn da ck mwy to → Same b da ck da0 ck0 →
  ResR b da0 ck0 (CL F L tx f i p J 0 wy tl ch sj Q d co td) (ML F L tm lets b fm g 0 (-1) sn ch mq da ck mwy to)
theorem S_sign (hF : 1000 < F) (h : TP L u tx tm) (hl : LT lets) (hb : b < 2) {da0 ck0 : AA} {p0 p i f fm : Nat} (IH : GoOnL F L b u tx tm lets da0 ck0 p0) (hp0 : p0 < p) (hy : LHy L p i f fm) {J : I3} {wy tl ch sj : Int32} {Q : ChT} {d : I3} {co : CoT} {td : AA}
    {g0 g : G5} {sn0 ch0 sn : Int32} {mq0 mq : MqT} {dq cq wq tq da ck mwy to : AA} (ht0 : ¬ g0.2.2.1 = 0) (hr : RLn F L tm lets b g0 0 (-1) sn0 ch0 mq0 dq cq wq tq = some (mk21 g 0 (-1) sn ch mq da ck mwy to)) (hg : MR F L u tm p g) (hP : PR b wy tl ch d co td sn da ck mwy to) (hS : Same b da ck da0 ck0) :
    ResR b da0 ck0 (CL F L tx f i p J 1 wy tl ch sj Q d co td) (ML F L tm lets b fm g0 0 (-1) sn0 ch0 mq0 dq cq wq tq) := by
  obtain ⟨y1, y2, y3, y4⟩ := hy
  have hL := h.1
  have hk4 := tK_le (L := L) (u := u) (tJ L u p)
  obtain ⟨j1, j2⟩ := tJ_le (u := u) y1
  obtain ⟨f, rfl⟩ : ∃ q, f = q + 2 := ⟨f - 2, by omega⟩
  obtain ⟨fm, rfl⟩ : ∃ q, fm = q + 2 := ⟨fm - 2, by omega⟩
  have hT := T_sign (F := F) (L := L) (tx := tx) (x6 := nI (tE L u (tJ L u p))) (x9 := nX F L u tx p J.2.2) (wy := wy) (tl := tl) (ch := ch) (sj := sj) (d0 := d.1) (d1 := d.2.1) (d2 := d.2.2) (A1 := co.1) (A2 := co.2.1) (A3 := co.2.2) (A4 := td) (j := tJ L u p) hk4
  by_cases c : tK L u (tJ L u p) = 3
  · rw [if_pos c] at hT
    have hj : tJ L u p < L := by
      rcases Nat.lt_or_ge (tJ L u p) L with q | q
      · exact q
      · rw [tK_0.mpr q] at c; omega
    obtain ⟨e1, e2⟩ := tE_le (u := u) hj
    obtain ⟨g'', h1, h2⟩ := M_line_stop (f := fm + 1) hF h hl y1 ht0 hr hg c
    rw [h2, show f + 2 = (f + 1) + 1 from rfl, X3_go (d' := d) (co' := co) hF h y1 (by omega) (by omega) (X3_noHead (by decide)) hT]
    exact IH (tE L u (tJ L u p)) (i + 1) (f + 1) (fm + 1) (nI (tJ L u p), nI (tK L u (tJ L u p)), nX F L u tx p J.2.2) wy tl ch sj Q d co td g'' sn mq da ck mwy to (by omega) ⟨e2, by omega, by omega, by omega⟩ h1 hP hS
  · rw [if_neg c] at hT
    refine Or.inl ⟨1, tJ L u p, by omega, by omega, C_fault (d' := d) (co' := co) hF h y1 (by omega) (by omega) (by omega) (fun _ => rfl) (by decide) hT, ?_⟩
    exact ⟨_, _, _, _, _, _, _, _, M_line_nostop hF hb ht0 hr hg c, hS⟩
end Sim
