/-! the model's parser, token by token -/
abbrev G5 : Type := Int32 × Int32 × Int32 × Int32 × Int32
abbrev MqT : Type := Int32 × Int32 × AA × AA × AA × AA × AA × AA
def mk21 (g : G5) (fd fa sn ch : Int32) (mq : MqT) (da ck wy to : AA) : Int32 × Int32 × Int32 × Int32 × Int32 × Int32 × Int32 × Int32 × Int32 × Int32 × Int32 × AA × AA × AA × AA × AA × AA × AA × AA × AA × AA :=
  (g.1, g.2.1, g.2.2.1, g.2.2.2.1, g.2.2.2.2, fd, fa, sn, ch, mq.1, mq.2.1, da, ck, wy, to, mq.2.2.1, mq.2.2.2.1, mq.2.2.2.2.1, mq.2.2.2.2.2.1, mq.2.2.2.2.2.2.1, mq.2.2.2.2.2.2.2)
def ML (F L : Nat) (tm lets : AA) (b f : Nat) (g : G5) (fd fa sn ch : Int32) (mq : MqT) (da ck wy to : AA) :=
  p_X11_finish_L9 F (nI L) tm lets (nI b) f g.1 g.2.1 g.2.2.1 g.2.2.2.1 g.2.2.2.2 fd fa sn ch mq.1 mq.2.1 da ck wy to mq.2.2.1 mq.2.2.2.1 mq.2.2.2.2.1 mq.2.2.2.2.2.1 mq.2.2.2.2.2.2.1 mq.2.2.2.2.2.2.2
def RLn (F L : Nat) (tm lets : AA) (b : Nat) (g : G5) (fd fa sn ch : Int32) (mq : MqT) (da ck wy to : AA) :=
  p_X11_readLine F (nI L) g.1 g.2.1 g.2.2.1 g.2.2.2.1 g.2.2.2.2 fd fa sn ch mq.1 mq.2.1 da ck wy to tm lets mq.2.2.1 mq.2.2.2.1 mq.2.2.2.2.1 mq.2.2.2.2.2.1 mq.2.2.2.2.2.2.1 mq.2.2.2.2.2.2.2 (nI b)
section Prm
variable {F L b : Nat} {u : Nat → Nat} {tx tm lets : AA}
/-- what the model holds of the token from p on -/
def MR (F L : Nat) (u : Nat → Nat) (tm : AA) (p : Nat) (g : G5) : Prop := g.1 = nI (tE L u (tJ L u p)) ∧ g.2.1 = nI (tJ L u p) ∧ g.2.2.1 = nI (kM (tK L u (tJ L u p))) ∧ (tK L u (tJ L u p) = 2 → g.2.2.2.1 = bM F L tm (tJ L u p)) ∧ (tK L u (tJ L u p) = 1 → g.2.2.2.2 = wdI (tokL u (tJ L u p) (tE L u (tJ L u p))))
theorem M_scanR (hF : 1000 < F) (h : TP L u tx tm) (hl : LT lets) {p : Nat} (hp : p ≤ L) (z10 z11 z12 z13 : Int32) : ∃ g : G5, p_X11_scan F (nI L) (nI p) z10 z11 z12 z13 tm lets = some g ∧ MR F L u tm p g :=
  ⟨_, M_scan hF h hl hp z10 z11 z12 z13, rfl, rfl, rfl, fun q => if_pos q, fun q => if_pos q⟩
theorem kM_tab : ∀ kd, kd ≤ 4 → ((nI (kM kd) = 0) ↔ kd = 0) ∧ ((nI (kM kd) = 2) ↔ kd = 1) ∧ ((nI (kM kd) = 3) ↔ kd = 2) ∧ ((nI (kM kd) = 4) ↔ kd = 3) := by decide +kernel
theorem tE_le' {p : Nat} (hp : p ≤ L) : tE L u (tJ L u p) ≤ L := by
  obtain ⟨j1, j2⟩ := tJ_le (u := u) hp
  by_cases c : tJ L u p < L
  · exact (tE_le c).2
  · unfold tE
    rw [if_pos (by omega)]
    exact j2
/-- words told are data, too -/
def cpW (b : Nat) (to : AA) : AA := fun x => if 121 * b + 33 ≤ x ∧ x < 121 * b + 49 then to (x + 32) else to x
theorem cpW_fold (B : Nat) (to : AA) : ∀ d, d ≤ 16 → fo (fun w (a : AA) => upd a (B + w) (a (B + 32 + w))) d 0 to = fun x => if B ≤ x ∧ x < B + d then to (x + 32) else to x := by
  intro d
  induction d with
  | zero => intro _; funext x; show to x = if B ≤ x ∧ x < B + 0 then _ else _; rw [if_neg (by omega)]
  | succ d ih =>
    intro hd
    rw [fo_succ, ih (by omega)]
    funext x
    rw [upd_at]
    simp only [Nat.zero_add]
    by_cases c : x = B + d
    · rw [if_pos c, if_neg (by omega), if_pos (by omega)]
      congr 1
      omega
    · rw [if_neg c]
      by_cases c2 : B ≤ x ∧ x < B + d
      · rw [if_pos c2, if_pos (by omega)]
      · rw [if_neg c2, if_neg (by omega)]
theorem M_copy (hF : 1000 < F) (hb : b < 2) (g : G5) (fd fa sn ch : Int32) (mq : MqT) (da ck wy to : AA) :
    p_X11_finish_J62 F (nI L) tm lets (nI b) g.1 g.2.1 g.2.2.1 g.2.2.2.1 g.2.2.2.2 fd fa sn ch mq.1 mq.2.1 da ck wy to mq.2.2.1 mq.2.2.2.1 mq.2.2.2.2.1 mq.2.2.2.2.2.1 mq.2.2.2.2.2.2.1 mq.2.2.2.2.2.2.2 = some (mk21 g fd fa sn ch mq da ck wy (cpW b to)) := by
  have key := fold_loop (fun fuel (a : AA) i => p_X11_finish_L64 F (nI L) tm lets (nI b) fuel i g.1 g.2.1 g.2.2.1 g.2.2.2.1 g.2.2.2.2 fd fa sn ch mq.1 mq.2.1 da ck wy a mq.2.2.1 mq.2.2.2.1 mq.2.2.2.2.1 mq.2.2.2.2.2.1 mq.2.2.2.2.2.2.1 mq.2.2.2.2.2.2.2) (fun a => some (mk21 g fd fa sn ch mq da ck wy a)) (fun w (a : AA) => upd a (121 * b + 33 + w) (a (121 * b + 33 + 32 + w))) (fun _ _ => True) 16
    (fun fuel w a hw _ => by
      show p_X11_finish_L64b F (nI L) tm lets (nI b) _ (nI w) g.1 g.2.1 g.2.2.1 g.2.2.2.1 g.2.2.2.2 fd fa sn ch mq.1 mq.2.1 da ck wy a mq.2.2.1 mq.2.2.2.1 mq.2.2.2.2.1 mq.2.2.2.2.2.1 mq.2.2.2.2.2.2.1 mq.2.2.2.2.2.2.2 = _
      have e1 : (121 : Int32) * nI b + 65 + nI w = nI (121 * b + 33 + 32 + w) := by rw [show (121 : Int32) = nI 121 from rfl, show (65 : Int32) = nI 65 from rfl, pk_mul, nI_add, nI_add]
      have e2 : (121 : Int32) * nI b + 33 + nI w = nI (121 * b + 33 + w) := by rw [show (121 : Int32) = nI 121 from rfl, show (33 : Int32) = nI 33 from rfl, pk_mul, nI_add, nI_add]
      have g1 : ¬ ixBad (nI (121 * b + 33 + 32 + w)) 242 := ixg (by omega) (by decide)
      have g2 : ¬ ixBad (nI (121 * b + 33 + w)) 242 := ixg (by omega) (by decide)
      have c1 : (nI (121 * b + 33 + 32 + w)).toNatClampNeg = 121 * b + 33 + 32 + w := nI_clamp (by omega)
      have c2 : (nI (121 * b + 33 + w)).toNatClampNeg = 121 * b + 33 + w := nI_clamp (by omega)
      unfold p_X11_finish_L64b
      rw [if_neg (show ¬ (16 : Int32) ≤ nI w from nI_ge (b := 16) hw (by decide))]
      simp only [e1, e2, g1, g2, c1, c2, ↓reduceIte, nI_1])
    (fun fuel a _ => by
      show p_X11_finish_L64b F (nI L) tm lets (nI b) _ (nI 16) g.1 g.2.1 g.2.2.1 g.2.2.2.1 g.2.2.2.2 fd fa sn ch mq.1 mq.2.1 da ck wy a mq.2.2.1 mq.2.2.2.1 mq.2.2.2.2.1 mq.2.2.2.2.2.1 mq.2.2.2.2.2.2.1 mq.2.2.2.2.2.2.2 = _
      unfold p_X11_finish_L64b
      rw [if_pos (by decide)]
      rfl) (fun _ _ _ _ => trivial) 16 0 F to (by omega) (by omega) trivial
  rw [cpW_fold (121 * b + 33) to 16 (Nat.le_refl _)] at key
  exact key
theorem M_fault (hF : 1000 < F) (hb : b < 2) {f q : Nat} (hq : 1 ≤ q) (hq4 : q ≤ 4) (g : G5) (fa sn ch : Int32) (mq : MqT) (da ck wy to : AA) : ML F L tm lets b (f + 1) g (nI q) fa sn ch mq da ck wy to = some (mk21 g (nI q) fa sn ch mq da ck wy (cpW b to)) := by
  have n0 : ¬ nI q = 0 := nI_ne0 (by omega) (by omega)
  show p_X11_finish_L9b F (nI L) tm lets (nI b) _ g.1 g.2.1 g.2.2.1 g.2.2.2.1 g.2.2.2.2 (nI q) fa sn ch mq.1 mq.2.1 da ck wy to mq.2.2.1 mq.2.2.2.1 mq.2.2.2.2.1 mq.2.2.2.2.2.1 mq.2.2.2.2.2.2.1 mq.2.2.2.2.2.2.2 = _
  unfold p_X11_finish_L9b p_X11_finish_J50
  rw [if_neg n0, if_neg n0]
  exact M_copy hF hb g (nI q) fa sn ch mq da ck wy to
theorem M_line_fail (hF : 1000 < F) (hb : b < 2) {f q : Nat} (hq : 1 ≤ q) (hq4 : q ≤ 4) {g g' : G5} {fa sn ch fa' sn' ch' : Int32} {mq mq' : MqT} {da ck wy to da' ck' wy' to' : AA} (ht : ¬ g.2.2.1 = 0)
    (hr : RLn F L tm lets b g 0 fa sn ch mq da ck wy to = some (mk21 g' (nI q) fa' sn' ch' mq' da' ck' wy' to')) : ML F L tm lets b (f + 2) g 0 fa sn ch mq da ck wy to = some (mk21 g' (nI q) fa' sn' ch' mq' da' ck' wy' (cpW b to')) := by
  have n0 : ¬ nI q = 0 := nI_ne0 (by omega) (by omega)
  have n1 : ¬ nI q ≤ 0 := nI_nle (by omega) (by omega)
  rw [← M_fault (f := f) (L := L) (tm := tm) (lets := lets) hF hb hq hq4 g' fa' sn' ch' mq' da' ck' wy' to']
  show p_X11_finish_L9b F (nI L) tm lets (nI b) _ g.1 g.2.1 g.2.2.1 g.2.2.2.1 g.2.2.2.2 0 fa sn ch mq.1 mq.2.1 da ck wy to mq.2.2.1 mq.2.2.2.1 mq.2.2.2.2.1 mq.2.2.2.2.2.1 mq.2.2.2.2.2.2.1 mq.2.2.2.2.2.2.2 = _
  unfold p_X11_finish_L9b
  rw [if_pos rfl, if_neg ht]
  unfold RLn at hr
  rw [hr]
  unfold mk21 p_X11_isStop p_X11_fail
  simp only [Option.bind_some, n0, n1, ↓reduceIte]
  rfl
theorem M_line_stop (hF : 1000 < F) (h : TP L u tx tm) (hl : LT lets) {f p' : Nat} (hp : p' ≤ L) {g g' : G5} {fa sn ch fa' sn' ch' : Int32} {mq mq' : MqT} {da ck wy to da' ck' wy' to' : AA} (ht : ¬ g.2.2.1 = 0)
    (hr : RLn F L tm lets b g 0 fa sn ch mq da ck wy to = some (mk21 g' 0 fa' sn' ch' mq' da' ck' wy' to')) (hg : MR F L u tm p' g') (h3 : tK L u (tJ L u p') = 3) :
    ∃ g'', MR F L u tm (tE L u (tJ L u p')) g'' ∧ ML F L tm lets b (f + 1) g 0 fa sn ch mq da ck wy to = ML F L tm lets b f g'' 0 fa' sn' ch' mq' da' ck' wy' to' := by
  obtain ⟨m1, m2, m3, m4, m5⟩ := hg
  obtain ⟨g'', e1, e2⟩ := M_scanR (z10 := g'.2.1) (z11 := g'.2.2.1) (z12 := g'.2.2.2.1) (z13 := g'.2.2.2.2) hF h hl (tE_le' (u := u) hp)
  refine ⟨g'', e2, ?_⟩
  have t4 : g'.2.2.1 = 4 := by rw [m3, h3]; rfl
  show p_X11_finish_L9b F (nI L) tm lets (nI b) _ g.1 g.2.1 g.2.2.1 g.2.2.2.1 g.2.2.2.2 0 fa sn ch mq.1 mq.2.1 da ck wy to mq.2.2.1 mq.2.2.2.1 mq.2.2.2.2.1 mq.2.2.2.2.2.1 mq.2.2.2.2.2.2.1 mq.2.2.2.2.2.2.2 = _
  unfold p_X11_finish_L9b
  rw [if_pos rfl, if_neg ht]
  unfold RLn at hr
  rw [hr]
  unfold mk21 p_X11_isStop
  simp only [Option.bind_some, t4, ↓reduceIte]
  rw [if_neg i32_1_0, m1]
  rw [t4] at e1
  rw [e1]
  rfl
theorem M_line_nostop (hF : 1000 < F) (hb : b < 2) {f p' : Nat} {g g' : G5} {fa sn ch fa' sn' ch' : Int32} {mq mq' : MqT} {da ck wy to da' ck' wy' to' : AA} (ht : ¬ g.2.2.1 = 0)
    (hr : RLn F L tm lets b g 0 fa sn ch mq da ck wy to = some (mk21 g' 0 fa' sn' ch' mq' da' ck' wy' to')) (hg : MR F L u tm p' g') (h3 : tK L u (tJ L u p') ≠ 3) :
    ML F L tm lets b (f + 2) g 0 fa sn ch mq da ck wy to = some (mk21 g' (nI 1) (nI (tJ L u p')) sn' ch' mq' da' ck' wy' (cpW b to')) := by
  obtain ⟨m1, m2, m3, m4, m5⟩ := hg
  have t4 : ¬ g'.2.2.1 = 4 := by
    rw [m3]
    exact fun q => h3 ((kM_tab _ (tK_le (L := L) (u := u) (tJ L u p'))).2.2.2.mp q)
  rw [← m2, ← M_fault (f := f) (L := L) (tm := tm) (lets := lets) hF hb (Nat.le_refl 1) (by omega) g' g'.2.1 sn' ch' mq' da' ck' wy' to']
  show p_X11_finish_L9b F (nI L) tm lets (nI b) _ g.1 g.2.1 g.2.2.1 g.2.2.2.1 g.2.2.2.2 0 fa sn ch mq.1 mq.2.1 da ck wy to mq.2.2.1 mq.2.2.2.1 mq.2.2.2.2.1 mq.2.2.2.2.2.1 mq.2.2.2.2.2.2.1 mq.2.2.2.2.2.2.2 = _
  unfold p_X11_finish_L9b
  rw [if_pos rfl, if_neg ht]
  unfold RLn at hr
  rw [hr]
  unfold mk21 p_X11_isStop p_X11_fail
  simp only [Option.bind_some, t4, ↓reduceIte]
  rw [if_pos (by decide)]
  rfl
/-- a number is asked for -/
theorem M_numeral (hF : 1000 < F) (h : TP L u tx tm) (hl : LT lets) {p lo hi bv : Nat} (hp : p ≤ L) (hhi : hi < 90000000) (hlo : lo ≤ 90000000) (hbv : bv < 2 ^ 31) {g : G5} (hg : MR F L u tm p g) (hn : tK L u (tJ L u p) = 2 → bM F L tm (tJ L u p) = nI bv) (fa : Int32) :
    (tK L u (tJ L u p) ≠ 2 → p_X11_numeral F (nI L) g.1 g.2.1 g.2.2.1 g.2.2.2.1 g.2.2.2.2 0 fa tm lets (nI lo) (nI hi) = some (g.2.2.2.1, g.1, g.2.1, g.2.2.1, g.2.2.2.1, g.2.2.2.2, nI 1, nI (tJ L u p))) ∧
    (tK L u (tJ L u p) = 2 → ¬ (lo ≤ bv ∧ bv ≤ hi) → p_X11_numeral F (nI L) g.1 g.2.1 g.2.2.1 g.2.2.2.1 g.2.2.2.2 0 fa tm lets (nI lo) (nI hi) = some (g.2.2.2.1, g.1, g.2.1, g.2.2.1, g.2.2.2.1, g.2.2.2.2, nI 2, nI (tJ L u p))) ∧
    (tK L u (tJ L u p) = 2 → lo ≤ bv ∧ bv ≤ hi → ∃ g' : G5, MR F L u tm (tE L u (tJ L u p)) g' ∧ p_X11_numeral F (nI L) g.1 g.2.1 g.2.2.1 g.2.2.2.1 g.2.2.2.2 0 fa tm lets (nI lo) (nI hi) = some (nI bv, g'.1, g'.2.1, g'.2.2.1, g'.2.2.2.1, g'.2.2.2.2, 0, fa)) := by
  obtain ⟨m1, m2, m3, m4, m5⟩ := hg
  have kt := kM_tab _ (tK_le (L := L) (u := u) (tJ L u p))
  unfold p_X11_numeral p_X11_numeral_J33 p_X11_fail
  refine ⟨fun hk => ?_, fun hk hr => ?_, fun hk hr => ?_⟩
  · have t3 : ¬ g.2.2.1 = 3 := by rw [m3]; exact fun q => hk (kt.2.2.1.mp q)
    rw [if_neg t3, if_pos (show (0 : Int32) ≤ 0 by decide)]
    simp only [Option.bind_some]
    rw [if_neg i32_1_0, m2]
    rfl
  · have t3 : g.2.2.1 = 3 := by rw [m3, hk]; rfl
    have no : ¬ (nI lo ≤ nI bv ∧ nI bv ≤ nI hi) := fun q => hr ⟨(nI_leI (by omega) hbv).mp q.1, (nI_leI hbv (by omega)).mp q.2⟩
    rw [if_pos t3, M_isIn, m4 hk, hn hk, if_neg no, if_pos (show (0 : Int32) ≤ 0 by decide)]
    simp only [Option.bind_some, ↓reduceIte]
    rw [if_neg (show ¬ (2 : Int32) = 0 by decide), m2]
    rfl
  · have t3 : g.2.2.1 = 3 := by rw [m3, hk]; rfl
    have yes : nI lo ≤ nI bv ∧ nI bv ≤ nI hi := ⟨nI_le hr.1 hbv, nI_le hr.2 (by omega)⟩
    obtain ⟨g', e1, e2⟩ := M_scanR (z10 := g.2.1) (z11 := g.2.2.1) (z12 := g.2.2.2.1) (z13 := g.2.2.2.2) hF h hl (tE_le' (u := u) hp)
    refine ⟨g', e2, ?_⟩
    rw [m4 hk, hn hk] at e1
    rw [if_pos t3, M_isIn, m4 hk, hn hk, if_pos yes]
    simp only [Option.bind_some, ↓reduceIte]
    rw [if_neg i32_1_0, m1, e1]
    rfl
theorem M_isWord {p w : Nat} {g : G5} (hg : MR F L u tm p g) (hw : w < 9) {c : Int32} (hc : c = nI w) : p_X11_isWord F g.2.2.1 g.2.2.2.2 0 c = some (if tK L u (tJ L u p) = 1 ∧ tokL u (tJ L u p) (tE L u (tJ L u p)) = kwN w then 1 else 0) := by
  obtain ⟨m1, m2, m3, m4, m5⟩ := hg
  have kt := kM_tab _ (tK_le (L := L) (u := u) (tJ L u p))
  subst hc
  unfold p_X11_isWord
  rw [if_pos rfl]
  by_cases c1 : tK L u (tJ L u p) = 1
  · rw [if_pos (by rw [m3]; exact kt.2.1.mpr c1), m5 c1]
    by_cases c2 : tokL u (tJ L u p) (tE L u (tJ L u p)) = kwN w
    · rw [if_pos ((wdI_iff hw).mpr c2), if_pos ⟨c1, c2⟩]
    · rw [if_neg (fun q => c2 ((wdI_iff hw).mp q)), if_neg (fun q => c2 q.2)]
  · rw [if_neg (by rw [m3]; exact fun q => c1 (kt.2.1.mp q)), if_neg (fun q => c1 q.1)]
/-- once, ahead of columns and words -/
theorem M_isOnce (hF : 1000 < F) (h : TP L u tx tm) (hl : LT lets) {p w : Nat} (hp : p ≤ L) (hw : w < 9) {g : G5} (hg : MR F L u tm p g) (fa sn ch : Int32) {c : Int32} (hc : c = nI w) :
    (bt sn w = true ∨ ¬ ch = 0 → p_X11_isOnce F (nI L) g.1 g.2.1 g.2.2.1 g.2.2.2.1 g.2.2.2.2 0 fa sn ch tm lets c = some (0, g.1, g.2.1, g.2.2.1, g.2.2.2.1, g.2.2.2.2, nI 3, nI (tJ L u p), sn ||| oh w)) ∧
    (bt sn w = false → ch = 0 → ∃ g' : G5, MR F L u tm (tE L u (tJ L u p)) g' ∧ p_X11_isOnce F (nI L) g.1 g.2.1 g.2.2.1 g.2.2.2.1 g.2.2.2.2 0 fa sn ch tm lets c = some (1, g'.1, g'.2.1, g'.2.2.1, g'.2.2.2.1, g'.2.2.2.2, 0, fa, sn ||| oh w)) := by
  obtain ⟨m1, m2, m3, m4, m5⟩ := hg
  subst hc
  unfold p_X11_isOnce p_X11_isOnce_J19 p_X11_isOnce_J24 p_X11_isOnce_J47 p_X11_fail
  rw [bit1s sn (show w < 32 by omega)]
  constructor
  · intro hh
    rw [if_pos (show (0 : Int32) ≤ 0 by decide)]
    simp only [Option.bind_some]
    rw [if_neg (show ¬ (3 : Int32) = 0 by decide), if_neg (show ¬ (3 : Int32) = 0 by decide)]
    by_cases c1 : bt sn w = true
    · rw [if_pos c1, if_pos rfl, m2]; rfl
    · rw [if_neg c1, if_neg (show ¬ (0 : Int32) = 1 by decide), if_neg (hh.resolve_left c1), m2]; rfl
  · intro h1 h2
    obtain ⟨g', e1, e2⟩ := M_scanR (z10 := g.2.1) (z11 := g.2.2.1) (z12 := g.2.2.2.1) (z13 := g.2.2.2.2) hF h hl (tE_le' (u := u) hp)
    refine ⟨g', e2, ?_⟩
    rw [h1, if_neg (show ¬ (false = true) by decide), if_neg (show ¬ (0 : Int32) = 1 by decide), if_pos h2, if_pos rfl, m1, e1]
    rfl
/-- columns are chosen into what is told -/
def stC (b : Nat) (to B : AA) : AA := fun x => if 121 * b ≤ x ∧ x < 121 * b + 32 then B (x - 121 * b) else to x
theorem M_chooses (hF : 1000 < F) (hb : b < 2) {x10 x15 r m27 m28 : Int32} {mq : MqT} {da ck wy to B1 B2 B3 B4 B5 B6 : AA}
    (hc : p_X11_choose F mq.1 mq.2.1 mq.2.2.1 mq.2.2.2.1 mq.2.2.2.2.1 mq.2.2.2.2.2.1 mq.2.2.2.2.2.2.1 mq.2.2.2.2.2.2.2 (da b) (ck b) (wy b) = some (r, m27, m28, B1, B2, B3, B4, B5, B6)) :
    p_X11_chooses F x10 0 x15 0 mq.1 mq.2.1 da ck wy to mq.2.2.1 mq.2.2.2.1 mq.2.2.2.2.1 mq.2.2.2.2.2.1 mq.2.2.2.2.2.2.1 mq.2.2.2.2.2.2.2 (nI b) = some (if r = 0 then 4 else 0, if r = 0 then x10 else x15, 1, m27, m28, stC b to B2, B1, B2, B3, B4, B5, B6) := by
  have g1 : ¬ ixBad (nI b) 2 := ixg hb (by decide)
  have c1 : (nI b).toNatClampNeg = b := nI_clamp (by omega)
  have loop : ∀ x14 x15 : Int32, p_X11_chooses_J43 F x10 da ck wy (nI b) x14 x15 1 m27 m28 to B1 B2 B3 B4 B5 B6 = some (x14, x15, 1, m27, m28, stC b to B2, B1, B2, B3, B4, B5, B6) := by
    intro x14 x15
    have key := fold_loop (fun fuel (a : AA) i => p_X11_chooses_L45 F x10 da ck wy (nI b) fuel i x14 x15 1 m27 m28 a B1 B2 B3 B4 B5 B6) (fun a => some (x14, x15, 1, m27, m28, a, B1, B2, B3, B4, B5, B6)) (fun p (a : AA) => upd a (121 * b + p) (B2 p)) (fun _ _ => True) 32
      (fun fuel p a hp _ => by
        show p_X11_chooses_L45b F x10 da ck wy (nI b) _ (nI p) x14 x15 1 m27 m28 a B1 B2 B3 B4 B5 B6 = _
        have e1 : (121 : Int32) * nI b + 0 + nI p = nI (121 * b + p) := by rw [show (121 : Int32) = nI 121 from rfl, pk_mul, Int32.add_zero, nI_add]
        have g2 : ¬ ixBad (nI p) 32 := ixg hp (by decide)
        have c2 : (nI p).toNatClampNeg = p := nI_clamp (by omega)
        have g3 : ¬ ixBad (nI (121 * b + p)) 242 := ixg (by omega) (by decide)
        have c3 : (nI (121 * b + p)).toNatClampNeg = 121 * b + p := nI_clamp (by omega)
        unfold p_X11_chooses_L45b
        rw [if_neg (show ¬ (32 : Int32) ≤ nI p from nI_ge (b := 32) hp (by decide))]
        simp only [e1, g2, c2, g3, c3, ↓reduceIte, nI_1])
      (fun fuel a _ => by
        show p_X11_chooses_L45b F x10 da ck wy (nI b) _ (nI 32) x14 x15 1 m27 m28 a B1 B2 B3 B4 B5 B6 = _
        unfold p_X11_chooses_L45b
        rw [if_pos (by decide)]) (fun _ _ _ _ => trivial) 32 0 F to (by omega) (by omega) trivial
    have h2 : ∀ d, d ≤ 32 → fo (fun p (a : AA) => upd a (121 * b + p) (B2 p)) d 0 to = fun x => if 121 * b ≤ x ∧ x < 121 * b + d then B2 (x - 121 * b) else to x := by
      intro d
      induction d with
      | zero => intro _; funext x; show to x = if 121 * b ≤ x ∧ x < 121 * b + 0 then _ else _; rw [if_neg (by omega)]
      | succ d ih =>
        intro hd
        rw [fo_succ, ih (by omega)]
        funext x
        rw [upd_at]
        simp only [Nat.zero_add]
        by_cases c : x = 121 * b + d
        · rw [if_pos c, if_pos (by omega), show x - 121 * b = d by omega]
        · rw [if_neg c]
          by_cases c2 : 121 * b ≤ x ∧ x < 121 * b + d
          · rw [if_pos c2, if_pos (by omega)]
          · rw [if_neg c2, if_neg (by omega)]
    rw [h2 32 (Nat.le_refl _)] at key
    exact key
  unfold p_X11_chooses p_X11_fail
  rw [if_pos rfl]
  simp only [g1, c1, ↓reduceIte]
  rw [hc]
  simp only [Option.bind_some]
  by_cases c : r = 0
  · rw [if_pos c, if_pos c, if_pos c, if_pos (show (0 : Int32) ≤ 0 by decide)]
    simp only [Option.bind_some]
    exact loop 4 x10
  · rw [if_neg c, if_neg c, if_neg c]
    exact loop 0 x15
theorem M_chosen {x10 x14 x15 : Int32} {mq : MqT} {da ck wy to : AA} : p_X11_chooses F x10 x14 x15 1 mq.1 mq.2.1 da ck wy to mq.2.2.1 mq.2.2.2.1 mq.2.2.2.2.1 mq.2.2.2.2.2.1 mq.2.2.2.2.2.2.1 mq.2.2.2.2.2.2.2 (nI b) = some (x14, x15, 1, mq.1, mq.2.1, to, mq.2.2.1, mq.2.2.2.1, mq.2.2.2.2.1, mq.2.2.2.2.2.1, mq.2.2.2.2.2.2.1, mq.2.2.2.2.2.2.2) := by
  unfold p_X11_chooses
  rw [if_neg i32_1_0]
end Prm
