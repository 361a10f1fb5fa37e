/-! lines of a code: data, checks, way, pairs -/
section Lin
variable {F L b : Nat} {u : Nat → Nat} {tx tm lets : AA}
/-- the token from p on is this word -/
abbrev QW (L : Nat) (u : Nat → Nat) (p w : Nat) : Prop := tK L u (tJ L u p) = 1 ∧ tokL u (tJ L u p) (tE L u (tJ L u p)) = kwN w
theorem QW_ne {p w v : Nat} (hw : w < 9) (hv : v < 9) (h : QW L u p w) (hne : w ≠ v) : ¬ QW L u p v := fun q => hne (kwN_inj w hw v hv (h.2.symm.trans q.2))
theorem tokIs (hF : 1000 < F) (h : TP L u tx tm) {p s w : Nat} (hp : p ≤ L) (hs : s < 9) (hw : kjN s = w) : p_X3_tokenIs F (nI (tE L u (tJ L u p))) (nI (tJ L u p)) (nI (tK L u (tJ L u p))) (nI L) tx s = some (if QW L u p w then 1 else 0) := by
  subst hw
  have hje : tJ L u p ≤ tE L u (tJ L u p) := by
    by_cases c : tJ L u p < L
    · have := (tE_le (u := u) c).1; omega
    · unfold tE; rw [if_pos (by omega)]; exact Nat.le_refl _
  exact X3_tokenIs hF h (tK_le _) hs hje (tE_le' hp)
theorem X3_head (hF : 1000 < F) (h : TP L u tx tm) {p : Nat} (hp : p ≤ L) {ch : Int32} : p_X3_endsHead F (nI (tE L u (tJ L u p))) (nI (tJ L u p)) (nI (tK L u (tJ L u p))) 0 ch (nI L) tx = some (if ch = 0 ∧ (tK L u (tJ L u p) = 0 ∨ QW L u p 7 ∨ QW L u p 8) then 1 else 0) := by
  have hk4 := tK_le (L := L) (u := u) (tJ L u p)
  unfold p_X3_endsHead
  rw [tokIs (w := 7) hF h hp (by decide) rfl, tokIs (w := 8) hF h hp (by decide) rfl]
  simp only [Option.bind_some, ite0]
  by_cases c : ch = 0
  · rw [if_pos c, if_pos trivial]
    by_cases c0 : tK L u (tJ L u p) = 0
    · rw [if_pos (show nI (tK L u (tJ L u p)) = 0 by rw [c0]; rfl), if_pos ⟨c, Or.inl c0⟩]
    · rw [if_neg (show ¬ nI (tK L u (tJ L u p)) = 0 from nI_ne0 (by omega) (by omega))]
      by_cases c7 : QW L u p 7
      · rw [if_pos c7, if_pos ⟨c, Or.inr (Or.inl c7)⟩]
      · rw [if_neg c7]
        by_cases c8 : QW L u p 8
        · rw [if_pos c8, if_pos ⟨c, Or.inr (Or.inr c8)⟩]
        · rw [if_neg c8, if_neg (fun q => q.2.elim c0 (fun r => r.elim c7 c8))]
  · rw [if_neg c, if_neg (fun q => c q.1)]
/-- a line's first word, as the class takes it -/
def tellC (j : Nat) (wy tl ch sj d0 d1 d2 : Int32) (A1 A2 A3 A4 : AA) (bit nx d2' : Int32) : Option (Int32 × Int32 × Int32 × Int32 × Int32 × Int32 × Int32 × Int32 × Int32 × AA × AA × AA × AA) :=
  if ch = 0 ∧ tl &&& bit = 0 then some (0, -1, nx, wy, tl ||| bit, sj, d0, d1, d2', A1, A2, A3, A4) else some (nI 3, nI j, 0, wy, tl, sj, d0, d1, d2', A1, A2, A3, A4)
theorem T_line (hF : 1000 < F) (h : TP L u tx tm) {p : Nat} (hp : p ≤ L) {x9 wy tl ch sj d0 d1 d2 : Int32} {A1 A2 A3 A4 : AA} : p_X3_takeToken F 0 (-1) (nI (tE L u (tJ L u p))) (nI (tJ L u p)) (nI (tK L u (tJ L u p))) x9 0 wy tl ch sj (nI L) tx d0 d1 d2 A1 A2 A3 A4 =
    if QW L u p 0 then tellC (tJ L u p) wy tl ch sj d0 d1 d2 A1 A2 A3 A4 1 2 d2 else if QW L u p 1 then tellC (tJ L u p) wy tl ch sj d0 d1 d2 A1 A2 A3 A4 2 3 d2 else if QW L u p 2 then tellC (tJ L u p) wy tl ch sj d0 d1 d2 A1 A2 A3 A4 4 4 d2 else if QW L u p 6 then tellC (tJ L u p) wy tl ch sj d0 d1 d2 A1 A2 A3 A4 8 1 1
    else if QW L u p 7 then some (0, -1, 5, wy, tl, sj, d0, d1, d2, A1, A2, A3, A4) else if QW L u p 8 then some (0, -1, 7, wy, tl, sj, d0, d1, d2, A1, A2, A3, A4) else some (nI 1, nI (tJ L u p), 0, wy, tl, sj, d0, d1, d2, A1, A2, A3, A4) := by
  have tell : ∀ (bit nx : Int32), p_X3_tellOnce F 0 (-1) (nI (tJ L u p)) 0 tl ch bit nx = if ch = 0 ∧ tl &&& bit = 0 then some (0, -1, nx, tl ||| bit) else some (nI 3, nI (tJ L u p), 0, tl) := fun bit nx => by
    unfold p_X3_tellOnce p_X3_tellOnce_J16 p_X3_fail
    by_cases c : ch = 0
    · rw [if_pos c]
      by_cases c2 : tl &&& bit = 0
      · rw [if_pos c2, if_pos ⟨c, c2⟩]
      · rw [if_neg c2, if_neg (fun q => c2 q.2)]; rfl
    · rw [if_neg c, if_neg (fun q => c q.1)]; rfl
  unfold p_X3_takeToken p_X3_takeLine p_X3_fail tellC
  rw [if_pos (show (0 : Int32) = 0 from rfl), tokIs (w := 0) hF h hp (s := 2) (by decide) rfl, tokIs (w := 1) hF h hp (s := 3) (by decide) rfl, tokIs (w := 2) hF h hp (s := 4) (by decide) rfl, tokIs (w := 6) hF h hp (s := 5) (by decide) rfl, tokIs (w := 7) hF h hp (s := 0) (by decide) rfl, tokIs (w := 8) hF h hp (s := 1) (by decide) rfl, tell, tell, tell, tell]
  simp only [Option.bind_some, ite0]
  by_cases c0 : QW L u p 0
  · rw [if_pos c0, if_pos c0]
    by_cases c : ch = 0 ∧ tl &&& 1 = 0
    · rw [if_pos c, if_pos c]; rfl
    · rw [if_neg c, if_neg c]; rfl
  · rw [if_neg c0, if_neg c0]
    by_cases c1 : QW L u p 1
    · rw [if_pos c1, if_pos c1]
      by_cases c : ch = 0 ∧ tl &&& 2 = 0
      · rw [if_pos c, if_pos c]; rfl
      · rw [if_neg c, if_neg c]; rfl
    · rw [if_neg c1, if_neg c1]
      by_cases c2 : QW L u p 2
      · rw [if_pos c2, if_pos c2]
        by_cases c : ch = 0 ∧ tl &&& 4 = 0
        · rw [if_pos c, if_pos c]; rfl
        · rw [if_neg c, if_neg c]; rfl
      · rw [if_neg c2, if_neg c2]
        by_cases c6 : QW L u p 6
        · rw [if_pos c6, if_pos c6]
          by_cases c : ch = 0 ∧ tl &&& 8 = 0
          · rw [if_pos c, if_pos c]; rfl
          · rw [if_neg c, if_neg c]; rfl
        · rw [if_neg c6, if_neg c6]
          by_cases c7 : QW L u p 7
          · rw [if_pos c7, if_pos c7]; rfl
          · rw [if_neg c7, if_neg c7]
            by_cases c8 : QW L u p 8
            · rw [if_pos c8, if_pos c8]; rfl
            · rw [if_neg c8, if_neg c8]; rfl
/-- the class goes on behind a line's first word -/
theorem C_head (hF : 1000 < F) (h : TP L u tx tm) {f i p : Nat} (hp : p ≤ L) (hi : i ≤ 600) (hk : tK L u (tJ L u p) ≠ 0) {J : I3} {wy tl ch sj : Int32} {q : ChT} {d d' : I3} {co co' : CoT} {td td' : AA} {fk fp wt' wy' tl' sj' : Int32} (hno : ¬ (ch = 0 ∧ (tK L u (tJ L u p) = 0 ∨ QW L u p 7 ∨ QW L u p 8)))
    (ht : p_X3_takeToken F 0 (-1) (nI (tE L u (tJ L u p))) (nI (tJ L u p)) (nI (tK L u (tJ L u p))) (nX F L u tx p J.2.2) 0 wy tl ch sj (nI L) tx d.1 d.2.1 d.2.2 co.1 co.2.1 co.2.2 td = some (fk, fp, wt', wy', tl', sj', d'.1, d'.2.1, d'.2.2, co'.1, co'.2.1, co'.2.2, td')) :
    CL F L tx (f + 1) i p J 0 wy tl ch sj q d co td = p_X3_parse_L6 F (nI L) tx f (nI (i + 1)) fk fp (nI (tE L u (tJ L u p))) (nI (tJ L u p)) (nI (tK L u (tJ L u p))) (nX F L u tx p J.2.2) wt' wy' tl' ch sj' q.1 q.2.1 q.2.2.1 q.2.2.2.1 q.2.2.2.2.1 q.2.2.2.2.2 d'.1 d'.2.1 d'.2.2 co'.1 co'.2.1 co'.2.2 td' :=
  X3_go hF h hp hi hk (by rw [X3_head hF h hp, if_neg hno]) ht
theorem RL_data_fail {p : Nat} {g : G5} (hg : MR F L u tm p g) (hQ : QW L u p 0) {fa sn ch sn' fd fa' : Int32} {mq : MqT} {da ck wy to : AA} (ho : p_X11_isOnce F (nI L) g.1 g.2.1 g.2.2.1 g.2.2.2.1 g.2.2.2.2 0 fa sn ch tm lets 0 = some (0, g.1, g.2.1, g.2.2.1, g.2.2.2.1, g.2.2.2.2, fd, fa', sn')) : RLn F L tm lets b g 0 fa sn ch mq da ck wy to = some (mk21 g fd fa' sn' ch mq da ck wy to) := by
  unfold RLn p_X11_readLine
  rw [M_isWord (w := 0) (c := 0) hg (by decide) rfl]
  simp only [Option.bind_some, ite0]
  rw [if_pos hQ]
  rw [ho]
  rfl
theorem RL_checks_fail {p : Nat} {g : G5} (hg : MR F L u tm p g) (hQ : QW L u p 1) {fa sn ch sn' fd fa' : Int32} {mq : MqT} {da ck wy to : AA} (ho : p_X11_isOnce F (nI L) g.1 g.2.1 g.2.2.1 g.2.2.2.1 g.2.2.2.2 0 fa sn ch tm lets 1 = some (0, g.1, g.2.1, g.2.2.1, g.2.2.2.1, g.2.2.2.2, fd, fa', sn')) : RLn F L tm lets b g 0 fa sn ch mq da ck wy to = some (mk21 g fd fa' sn' ch mq da ck wy to) := by
  unfold RLn p_X11_readLine
  rw [M_isWord (w := 0) (c := 0) hg (by decide) rfl]
  simp only [Option.bind_some, ite0]
  rw [if_neg (QW_ne (by decide) (by decide) hQ (show 1 ≠ 0 by decide))]
  rw [M_isWord (w := 1) (c := 1) hg (by decide) rfl]
  simp only [Option.bind_some, ite0]
  rw [if_pos hQ]
  rw [ho]
  rfl
theorem RL_way_fail {p : Nat} {g : G5} (hg : MR F L u tm p g) (hQ : QW L u p 2) {fa sn ch sn' fd fa' : Int32} {mq : MqT} {da ck wy to : AA} (ho : p_X11_isOnce F (nI L) g.1 g.2.1 g.2.2.1 g.2.2.2.1 g.2.2.2.2 0 fa sn ch tm lets 2 = some (0, g.1, g.2.1, g.2.2.1, g.2.2.2.1, g.2.2.2.2, fd, fa', sn')) : RLn F L tm lets b g 0 fa sn ch mq da ck wy to = some (mk21 g fd fa' sn' ch mq da ck wy to) := by
  unfold RLn p_X11_readLine
  rw [M_isWord (w := 0) (c := 0) hg (by decide) rfl]
  simp only [Option.bind_some, ite0]
  rw [if_neg (QW_ne (by decide) (by decide) hQ (show 2 ≠ 0 by decide))]
  rw [M_isWord (w := 1) (c := 1) hg (by decide) rfl]
  simp only [Option.bind_some, ite0]
  rw [if_neg (QW_ne (by decide) (by decide) hQ (show 2 ≠ 1 by decide))]
  rw [M_isWord (w := 2) (c := 2) hg (by decide) rfl]
  simp only [Option.bind_some, ite0]
  rw [if_pos hQ]
  rw [ho]
  rfl
theorem RL_pairs_fail {p : Nat} {g : G5} (hg : MR F L u tm p g) (hQ : QW L u p 6) {fa sn ch sn' fd fa' : Int32} {mq : MqT} {da ck wy to : AA} (ho : p_X11_isOnce F (nI L) g.1 g.2.1 g.2.2.1 g.2.2.2.1 g.2.2.2.2 0 fa sn ch tm lets 6 = some (0, g.1, g.2.1, g.2.2.1, g.2.2.2.1, g.2.2.2.2, fd, fa', sn')) : RLn F L tm lets b g 0 fa sn ch mq da ck wy to = some (mk21 g fd fa' sn' ch mq da ck wy to) := by
  unfold RLn p_X11_readLine
  rw [M_isWord (w := 0) (c := 0) hg (by decide) rfl]
  simp only [Option.bind_some, ite0]
  rw [if_neg (QW_ne (by decide) (by decide) hQ (show 6 ≠ 0 by decide))]
  rw [M_isWord (w := 1) (c := 1) hg (by decide) rfl]
  simp only [Option.bind_some, ite0]
  rw [if_neg (QW_ne (by decide) (by decide) hQ (show 6 ≠ 1 by decide))]
  rw [M_isWord (w := 2) (c := 2) hg (by decide) rfl]
  simp only [Option.bind_some, ite0]
  rw [if_neg (QW_ne (by decide) (by decide) hQ (show 6 ≠ 2 by decide))]
  rw [M_isWord (w := 6) (c := 6) hg (by decide) rfl]
  simp only [Option.bind_some, ite0]
  rw [if_pos hQ]
  rw [ho]
  rfl
theorem RL_data_num {p : Nat} (hb : b < 2) {g g1 g2 : G5} (hg : MR F L u tm p g) (hQ : QW L u p 0) {fa sn ch sn' fd fa' x : Int32} {mq : MqT} {da ck wy to : AA} (ho : p_X11_isOnce F (nI L) g.1 g.2.1 g.2.2.1 g.2.2.2.1 g.2.2.2.2 0 fa sn ch tm lets 0 = some (1, g1.1, g1.2.1, g1.2.2.1, g1.2.2.2.1, g1.2.2.2.2, 0, fa, sn')) (hn : p_X11_numeral F (nI L) g1.1 g1.2.1 g1.2.2.1 g1.2.2.2.1 g1.2.2.2.2 0 fa tm lets 4 24 = some (x, g2.1, g2.2.1, g2.2.2.1, g2.2.2.2.1, g2.2.2.2.2, fd, fa')) : RLn F L tm lets b g 0 fa sn ch mq da ck wy to = some (mk21 g2 fd fa' sn' ch mq (upd da b x) ck wy to) := by
  unfold RLn p_X11_readLine
  rw [M_isWord (w := 0) (c := 0) hg (by decide) rfl]
  simp only [Option.bind_some, ite0]
  rw [if_pos hQ]
  rw [ho]
  simp only [Option.bind_some]
  rw [if_neg i32_1_0, hn]
  simp only [Option.bind_some]
  rw [if_neg (ixg hb (by decide)), nI_clamp (by omega)]
  rfl
theorem RL_checks_num {p : Nat} (hb : b < 2) {g g1 g2 : G5} (hg : MR F L u tm p g) (hQ : QW L u p 1) {fa sn ch sn' fd fa' x : Int32} {mq : MqT} {da ck wy to : AA} (ho : p_X11_isOnce F (nI L) g.1 g.2.1 g.2.2.1 g.2.2.2.1 g.2.2.2.2 0 fa sn ch tm lets 1 = some (1, g1.1, g1.2.1, g1.2.2.1, g1.2.2.2.1, g1.2.2.2.2, 0, fa, sn')) (hn : p_X11_numeral F (nI L) g1.1 g1.2.1 g1.2.2.1 g1.2.2.2.1 g1.2.2.2.2 0 fa tm lets 4 8 = some (x, g2.1, g2.2.1, g2.2.2.1, g2.2.2.2.1, g2.2.2.2.2, fd, fa')) : RLn F L tm lets b g 0 fa sn ch mq da ck wy to = some (mk21 g2 fd fa' sn' ch mq da (upd ck b x) wy to) := by
  unfold RLn p_X11_readLine
  rw [M_isWord (w := 0) (c := 0) hg (by decide) rfl]
  simp only [Option.bind_some, ite0]
  rw [if_neg (QW_ne (by decide) (by decide) hQ (show 1 ≠ 0 by decide))]
  rw [M_isWord (w := 1) (c := 1) hg (by decide) rfl]
  simp only [Option.bind_some, ite0]
  rw [if_pos hQ]
  rw [ho]
  simp only [Option.bind_some]
  rw [if_neg i32_1_0, hn]
  simp only [Option.bind_some]
  rw [if_neg (ixg hb (by decide)), nI_clamp (by omega)]
  rfl
theorem RL_pairs_ok {p : Nat} (hb : b < 2) {g g1 : G5} (hg : MR F L u tm p g) (hQ : QW L u p 6) {fa sn ch sn' : Int32} {mq : MqT} {da ck wy to : AA} (ho : p_X11_isOnce F (nI L) g.1 g.2.1 g.2.2.1 g.2.2.2.1 g.2.2.2.2 0 fa sn ch tm lets 6 = some (1, g1.1, g1.2.1, g1.2.2.1, g1.2.2.2.1, g1.2.2.2.2, 0, fa, sn')) : RLn F L tm lets b g 0 fa sn ch mq da ck wy to = some (mk21 g1 0 fa sn' ch mq da ck wy (upd to (121 * b + 32) 1)) := by
  unfold RLn p_X11_readLine
  rw [M_isWord (w := 0) (c := 0) hg (by decide) rfl]
  simp only [Option.bind_some, ite0]
  rw [if_neg (QW_ne (by decide) (by decide) hQ (show 6 ≠ 0 by decide))]
  rw [M_isWord (w := 1) (c := 1) hg (by decide) rfl]
  simp only [Option.bind_some, ite0]
  rw [if_neg (QW_ne (by decide) (by decide) hQ (show 6 ≠ 1 by decide))]
  rw [M_isWord (w := 2) (c := 2) hg (by decide) rfl]
  simp only [Option.bind_some, ite0]
  rw [if_neg (QW_ne (by decide) (by decide) hQ (show 6 ≠ 2 by decide))]
  rw [M_isWord (w := 6) (c := 6) hg (by decide) rfl]
  simp only [Option.bind_some, ite0]
  rw [if_pos hQ]
  rw [ho]
  simp only [Option.bind_some]
  have e : (121 : Int32) * nI b + 32 = nI (121 * b + 32) := by rw [show (121 : Int32) = nI 121 from rfl, show (32 : Int32) = nI 32 from rfl, pk_mul, nI_add]
  rw [if_neg i32_1_0, e, if_neg (ixg (by omega) (by decide)), nI_clamp (by omega)]
  rfl
theorem RL_way_ok {p : Nat} {g g1 g2 : G5} (hg : MR F L u tm p g) (hQ : QW L u p 2) {fa sn ch sn' fd fa' : Int32} {mq : MqT} {da ck wy wy' to : AA} (ho : p_X11_isOnce F (nI L) g.1 g.2.1 g.2.2.1 g.2.2.2.1 g.2.2.2.2 0 fa sn ch tm lets 2 = some (1, g1.1, g1.2.1, g1.2.2.1, g1.2.2.2.1, g1.2.2.2.2, 0, fa, sn')) (hn : p_X11_readWay F (nI L) g1.1 g1.2.1 g1.2.2.1 g1.2.2.2.1 g1.2.2.2.2 0 fa wy tm lets (nI b) = some (g2.1, g2.2.1, g2.2.2.1, g2.2.2.2.1, g2.2.2.2.2, fd, fa', wy')) : RLn F L tm lets b g 0 fa sn ch mq da ck wy to = some (mk21 g2 fd fa' sn' ch mq da ck wy' to) := by
  unfold RLn p_X11_readLine
  rw [M_isWord (w := 0) (c := 0) hg (by decide) rfl]
  simp only [Option.bind_some, ite0]
  rw [if_neg (QW_ne (by decide) (by decide) hQ (show 2 ≠ 0 by decide))]
  rw [M_isWord (w := 1) (c := 1) hg (by decide) rfl]
  simp only [Option.bind_some, ite0]
  rw [if_neg (QW_ne (by decide) (by decide) hQ (show 2 ≠ 1 by decide))]
  rw [M_isWord (w := 2) (c := 2) hg (by decide) rfl]
  simp only [Option.bind_some, ite0]
  rw [if_pos hQ]
  rw [ho]
  simp only [Option.bind_some]
  rw [if_neg i32_1_0, hn]
  rfl
theorem RL_none {p : Nat} {g : G5} (hg : MR F L u tm p g) (hQ : ∀ w, w = 0 ∨ w = 1 ∨ w = 2 ∨ w = 6 ∨ w = 7 ∨ w = 8 → ¬ QW L u p w) {fa sn ch : Int32} {mq : MqT} {da ck wy to : AA} : RLn F L tm lets b g 0 fa sn ch mq da ck wy to = some (mk21 g (nI 1) (nI (tJ L u p)) sn ch mq da ck wy to) := by
  unfold RLn p_X11_readLine p_X11_fail
  rw [M_isWord (w := 0) (c := 0) hg (by decide) rfl]
  simp only [Option.bind_some, ite0]
  rw [if_neg (hQ 0 (by decide))]
  rw [M_isWord (w := 1) (c := 1) hg (by decide) rfl]
  simp only [Option.bind_some, ite0]
  rw [if_neg (hQ 1 (by decide))]
  rw [M_isWord (w := 2) (c := 2) hg (by decide) rfl]
  simp only [Option.bind_some, ite0]
  rw [if_neg (hQ 2 (by decide))]
  rw [M_isWord (w := 6) (c := 6) hg (by decide) rfl]
  simp only [Option.bind_some, ite0]
  rw [if_neg (hQ 6 (by decide))]
  rw [M_isWord (w := 7) (c := 7) hg (by decide) rfl]
  simp only [Option.bind_some, ite0]
  rw [if_neg (hQ 7 (by decide))]
  rw [M_isWord (w := 8) (c := 8) hg (by decide) rfl]
  simp only [Option.bind_some, ite0]
  rw [if_neg (hQ 8 (by decide))]
  rw [if_pos (by decide), hg.2.1]
  simp only [Option.bind_some]
  have e := hg.2.1
  unfold mk21
  rw [e]
  rfl
end Lin
