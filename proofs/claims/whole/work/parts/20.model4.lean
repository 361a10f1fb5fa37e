/-! mending, scrubbing, storms of the model, beside the class's -/
theorem fit_oh {m i : Nat} (hi : i < m) (hm : m ≤ 32) : Fit m (oh i) := fun j hj => by rw [bt_oh (by omega)]; exact decide_eq_false (by omega)
theorem fit_or {m : Nat} {x y : Int32} (h1 : Fit m x) (h2 : Fit m y) : Fit m (x ||| y) := fun j hj => by rw [b_or, h1 j hj, h2 j hj]; rfl
theorem fit_xor {m : Nat} {x y : Int32} (h1 : Fit m x) (h2 : Fit m y) : Fit m (x ^^^ y) := fun j hj => by rw [b_xor, h1 j hj, h2 j hj]; rfl
theorem fit_0 {m : Nat} : Fit m 0 := fun j _ => b_0 j
theorem fit_turn {m : Nat} {stk x : Int32} (h : Fit m x) : Fit m (turnM stk x) := fun j hj => by rw [turnM, b_and, h j hj]; rfl
theorem rdS_fit {col : Nat → Int32} {m : Nat} {pr s a b stk : Int32} (hm : m ≤ 32) (hk : Stk m stk a b) : Fit m (rdS col m pr s a b).2.2 := by
  have ha : ¬ 0 ≤ a ∨ ∃ i, i < m ∧ a = nI i := by
    rcases hk with ⟨_, h, _⟩ | ⟨i, h1, _, h2, _⟩ | ⟨i, j, h1, h2, _, h3, _⟩
    · left; rw [h]; decide
    · right; exact ⟨i, h1, h2⟩
    · right; exact ⟨i, by omega, h3⟩
  have hb : ¬ 0 ≤ b ∨ ∃ i, i < m ∧ b = nI i := by
    rcases hk with ⟨_, _, h⟩ | ⟨i, _, _, _, h⟩ | ⟨i, j, h1, h2, _, _, h3⟩
    · left; rw [h]; decide
    · left; rw [h]; decide
    · right; exact ⟨j, h2, h3⟩
  have fa : 0 ≤ a → Fit m (ohI a) := fun h => by
    rcases ha with h' | ⟨i, hi, rfl⟩
    · exact absurd h h'
    · exact fit_oh hi hm
  have fb : 0 ≤ b → Fit m (ohI b) := fun h => by
    rcases hb with h' | ⟨i, hi, rfl⟩
    · exact absurd h h'
    · exact fit_oh hi hm
  have fp : ∀ q, ¬ plc col m q = -1 → Fit m (ohI (plc col m q)) := fun q h => by
    rcases plc_cases col m q with ⟨i, hi, _, e⟩ | e
    · rw [e]; exact fit_oh hi hm
    · exact absurd e h
  unfold rdS
  split
  · exact fit_0
  split
  · rename_i h; exact fa h.1
  split
  · rename_i h; exact fb h.1
  split
  · rename_i h; exact fit_or (fa h.1) (fb h.2.1)
  split
  · rename_i h; exact fp _ h
  split
  · rename_i h; exact fit_or (fp _ h.2.2) (fa h.1)
  split
  · rename_i h
    rcases prc_cases col m s with ⟨i, hi, _, e⟩ | e
    · show Fit m ((3 : Int32) <<< (prc col m s &&& 31))
      rw [e, oh3 i (by omega)]
      exact fit_xor (fit_oh (by omega) hm) (fit_oh (by omega) hm)
    · exact absurd e h.2
  · exact fit_0
theorem rdS_told' (col : Nat → Int32) (m : Nat) (pr s a b : Int32) : (rdS col m pr s a b).2.2 = 0 ∨ (¬ (rdS col m pr s a b).1 = 3 ∧ ¬ (rdS col m pr s a b).1 = 4) := by
  unfold rdS
  repeat' split
  all_goals first | exact Or.inl rfl | exact Or.inr ⟨(by decide : ¬ (5 : Int32) = 3), (by decide : ¬ (5 : Int32) = 4)⟩ | exact Or.inr ⟨(by decide : ¬ (1 : Int32) = 3), (by decide : ¬ (1 : Int32) = 4)⟩ | exact Or.inr ⟨(by decide : ¬ (2 : Int32) = 3), (by decide : ¬ (2 : Int32) = 4)⟩
theorem rdS_told {col : Nat → Int32} {m : Nat} {pr s a b : Int32} (h : (rdS col m pr s a b).1 = 3 ∨ (rdS col m pr s a b).1 = 4) : (rdS col m pr s a b).2.2 = 0 := by
  rcases rdS_told' col m pr s a b with h1 | ⟨h1, h2⟩
  · exact h1
  · rcases h with h | h
    · exact absurd h h1
    · exact absurd h h2
/-- the class's syndromes are those of its bits, and no bit stands too high -/
def AI (n k : Nat) (col : Nat → Int32) (z : A3) : Prop := ∀ w, w < 16 → Fit (n + k) (z.1 w) ∧ z.2.1 w = sy col (z.1 w) (n + k)
theorem AI_upd {n k w : Nat} {col : Nat → Int32} {z : A3} {t : Int32} {tl : Nat → Int32} (h : AI n k col z) (ht : Fit (n + k) t) : AI n k col (upd z.1 w (z.1 w ^^^ t), upd z.2.1 w (z.2.1 w ^^^ sy col t (n + k)), tl) := by
  intro v hv
  obtain ⟨h1, h2⟩ := h v hv
  simp only [upd_at]
  by_cases e : v = w
  · subst e
    rw [if_pos rfl, if_pos rfl, h2, sy_xor]
    exact ⟨fit_xor h1 ht, rfl⟩
  · rw [if_neg e, if_neg e]
    exact ⟨h1, h2⟩
theorem mdS_AI {n k w : Nat} {col stk mea : Nat → Int32} {pr : Int32} {ab : Nat → Int32 × Int32} {z : A3} (hm : n + k ≤ 32) (hS : StkA (n + k) stk ab) (hw : w < 16) (h : AI n k col z) : AI n k col (mdS col (n + k) pr stk mea ab w z) := AI_upd h (fit_turn (rdS_fit hm (hS w hw)))
theorem slS_AI {n k w p : Nat} {col stk : Nat → Int32} {z : A3} (hm : n + k ≤ 32) (hp : p < n + k) (h : AI n k col z) : AI n k col (slS col (n + k) stk w (oh p) z) := AI_upd h (fit_turn (fit_oh hp hm))
theorem scS_AI {n k : Nat} {col stk mea : Nat → Int32} {pr : Int32} {ab : Nat → Int32 × Int32} {z : A3} (hm : n + k ≤ 32) (hS : StkA (n + k) stk ab) (h : AI n k col z) : AI n k col (scS col (n + k) pr stk mea ab z) :=
  fo_inv (g := maS col (n + k) pr stk mea ab) (I := fun _ q => AI n k col q.2) (n := 16) (fun i a hi ha => mdS_AI hm hS hi ha) 16 0 (0, z) (by omega) h
theorem RA.stk {n k : Nat} {all col : Nat → Int32} {pr : Int32} {bits mea stk tal : Nat → Int32} {ab : Nat → Int32 × Int32} (h : RA n k all col pr bits mea stk tal ab) : StkA (n + k) stk ab := fun w hw => (h.2.2.1 w hw).2.2.2.stk
section Mod2
variable {F b n k w : Nat} {all col dat chk : Nat → Int32} {pr : Int32} {bits mea stk tal : Nat → Int32} {ab : Nat → Int32 × Int32}
theorem BC.hm (hb : BC b n k dat chk col) : n + k ≤ 32 := by obtain ⟨b1, b2, b3, b4, b5, b6, b7, b8⟩ := hb; omega
theorem BC.hn (hb : BC b n k dat chk col) : n < 31 := by obtain ⟨b1, b2, b3, b4, b5, b6, b7, b8⟩ := hb; omega
theorem M_readWord (hF : 40 < F) (hb : BC b n k dat chk col) (h : RA n k all col pr bits mea stk tal ab) (hw : w < 16) (hx : Fit (n + k) (bits w)) (z0 z1 z2 z3 : Int32) :
    p_X11_readWordNow F (nI b) z0 z1 z2 z3 all dat chk (nI w) = some (rrM n (bits w) (rdS col (n + k) pr (sy col (bits w) (n + k)) (ab w).1 (ab w).2)) := by
  have hm := hb.hm
  obtain ⟨q1, q2, q3, q4⟩ := h.2.2.1 w hw
  have hrd := (h.mc hb).read hF hx q4.stk z0 z1 z2 z3
  have e33 : (33 : Int32) + nI w = nI (33 + w) := nI_lit 33 w
  have e49 : (49 : Int32) + nI w = nI (49 + w) := nI_lit 49 w
  have g33 : ¬ ixBad (nI (33 + w)) 121 := ixg (by omega) (by decide)
  have g49 : ¬ ixBad (nI (49 + w)) 121 := ixg (by omega) (by decide)
  have c33 : (nI (33 + w)).toNatClampNeg = 33 + w := nI_clamp (by omega)
  have c49 : (nI (49 + w)).toNatClampNeg = 49 + w := nI_clamp (by omega)
  have m1 : (-1 : Int32) < 0 := by decide
  unfold p_X11_readWordNow p_X11_readWordNow_J50
  rw [M_stuckAt0 hw, M_stuckAt1 hw]
  simp only [Option.bind_some, e33, e49, g33, g49, c33, c49, q1, q2, ↓reduceIte]
  rcases q4 with ⟨t1, t2, t3, t4, t5⟩ | ⟨i, hi, t1, t2, t3, t4, t5⟩ | ⟨i, j, hij, hj, t1, t2, t3, ⟨t4, t5⟩ | ⟨t4, t5⟩⟩
  · rw [t2, t3] at hrd ⊢
    rw [t4, t5, z1m, if_pos m1, hrd]; rfl
  · rw [t2, t3] at hrd ⊢
    rw [t4, t5, z1m, nI_s1, if_pos m1, hrd]; rfl
  · rw [t2, t3] at hrd ⊢
    rw [t4, t5, nI_s1, nI_s1, if_neg (nI_pos (by omega)), if_pos (nI_le (by omega) (by omega)), hrd]; rfl
  · rw [t2, t3] at hrd ⊢
    rw [t4, t5, nI_s1, nI_s1, if_neg (nI_pos (by omega)), if_neg (nI_ge hij (by omega)), hrd]; rfl
theorem M_isRight (hF : 40 < F) (hb : BC b n k dat chk col) (h : RA n k all col pr bits mea stk tal ab) (hW : WI n k col mea) (hw : w < 16) (y : Int32) : p_X11_isRight F (nI b) (DD n y) (CC n y) all dat (nI w) = some (if y = mea w then 1 else 0) := by
  have hc := (h.mc hb).checks (F := F) hF
  obtain ⟨q1, q2, q3, q4⟩ := h.2.2.1 w hw
  obtain ⟨b1, b2, b3, b4, b5, b6, b7, b8⟩ := hb
  have e65 : (65 : Int32) + nI w = nI (65 + w) := nI_lit 65 w
  have g65 : ¬ ixBad (nI (65 + w)) 121 := ixg (by omega) (by decide)
  have c65 : (nI (65 + w)).toNatClampNeg = 65 + w := nI_clamp (by omega)
  unfold p_X11_isRight
  simp only [e65, g65, c65, q3, ↓reduceIte]
  rw [hc, whole_CC (by omega) (by omega) b7 b8 (hW w hw).1 (hW w hw).2]
  simp only [Option.bind_some]
  by_cases h1 : y = mea w
  · rw [if_pos (by rw [h1]), if_pos (by rw [h1]), if_pos h1]
  · rw [if_neg h1]
    by_cases h2 : DD n y = DD n (mea w)
    · rw [if_pos h2, if_neg (fun h3 => h1 (fit_eq (k := k) (by omega) h2 h3))]
    · rw [if_neg h2]
theorem M_isTold (F : Nat) (kd : Int32) : p_X11_isTold F kd = some (if kd = 3 ∨ kd = 4 then 1 else 0) := X2_told F kd
theorem M_tallies (hF : 40 < F) (hb : BC b n k dat chk col) (h : RA n k all col pr bits mea stk tal ab) (hW : WI n k col mea) (hw : w < 16) {q : Nat} (hq : q < 6) (tu : Int32) :
    ∃ all', p_X11_tallies F (nI b) (nI q) (DD n (bits w ^^^ tu)) (CC n (bits w ^^^ tu)) all dat (nI w) = some all' ∧ RA n k all' col pr bits mea stk (tl1 tal (nI q) tu (bits w ^^^ mea w)) ab := by
  have hm := hb.hm
  have e : (113 : Int32) + nI q = nI (113 + q) := nI_lit 113 q
  have g : ¬ ixBad (nI (113 + q)) 121 := ixg (by omega) (by decide)
  have c : (nI (113 + q)).toNatClampNeg = 113 + q := nI_clamp (by omega)
  have cq : (nI q).toNatClampNeg = q := nI_clamp (by omega)
  have c9 : (119 : Int32).toNatClampNeg = 113 + 6 := rfl
  have ht := h.2.2.2 q (by omega)
  have h1 := h.tally hm (t := q) (by omega) (tal q + 1)
  unfold p_X11_tallies
  simp only [e, g, c, c9, ht, ↓reduceIte]
  rw [M_isTold, M_isRight hF hb h1 hW hw]
  simp only [Option.bind_some]
  unfold tl1 jdS
  simp only [cq]
  by_cases h2 : nI q = 3 ∨ nI q = 4
  · rw [if_pos h2, if_neg (by decide), if_pos h2, if_neg (by decide)]
    exact ⟨_, rfl, h1⟩
  · rw [if_neg h2, if_pos rfl, if_neg h2]
    have hy : (bits w ^^^ tu = mea w) ↔ tu = bits w ^^^ mea w := by
      constructor
      · intro e; rw [← e, ← xo_assoc, xo_self, zero_xo]
      · intro e; rw [e, ← xo_assoc, xo_self, zero_xo]
    by_cases h3 : tu = bits w ^^^ mea w
    · rw [if_pos (hy.mpr h3), if_neg (by decide), if_pos h3, if_neg (by decide)]
      exact ⟨_, rfl, h1⟩
    · rw [if_neg (fun e => h3 (hy.mp e)), if_pos rfl, if_neg h3, if_pos rfl]
      have h4 := h1.tally hm (t := 6) (by omega) (upd tal q (tal q + 1) 6 + 1)
      have e6 : upd all (113 + q) (tal q + 1) (113 + 6) = upd tal q (tal q + 1) 6 := h1.2.2.2 6 (by omega)
      rw [e6]
      exact ⟨_, rfl, h4⟩
theorem put_turn (stk x t : Int32) : putB stk x (x ^^^ t) = x ^^^ turnM stk t := b_ext fun i hi => by
  simp only [putB, turnM, b_or, b_and, b_xor, b_m1 i hi]
  cases bt x i <;> cases bt t i <;> cases bt stk i <;> rfl
theorem M_mend (hF : 40 < F) (hb : BC b n k dat chk col) {z : A3} (h : RA n k all col pr z.1 mea stk z.2.2 ab) (hW : WI n k col mea) (hI : AI n k col z) (hw : w < 16) (z0 z1 z2 z3 : Int32) :
    ∃ all' y0 y1 y2, p_X11_mendNow F (nI b) z0 z1 z2 z3 all dat chk (nI w) = some ((rdS col (n + k) pr (z.2.1 w) (ab w).1 (ab w).2).1, (rdS col (n + k) pr (z.2.1 w) (ab w).1 (ab w).2).1, y0, y1, y2, all') ∧ RA n k all' col pr (mdS col (n + k) pr stk mea ab w z).1 mea stk (mdS col (n + k) pr stk mea ab w z).2.2 ab := by
  have hm := hb.hm
  obtain ⟨hx, hs⟩ := hI w hw
  unfold p_X11_mendNow
  rw [M_readWord hF hb h hw hx, ← hs]
  obtain ⟨q, hq, eq⟩ := rdS_kind col (n + k) pr (z.2.1 w) (ab w).1 (ab w).2
  have htold := @rdS_told col (n + k) pr (z.2.1 w) (ab w).1 (ab w).2
  unfold mdS
  generalize rdS col (n + k) pr (z.2.1 w) (ab w).1 (ab w).2 = r at *
  obtain ⟨kd, pl, tu⟩ := r
  simp only at eq htold
  subst eq
  simp only [rrM, Option.bind_some]
  obtain ⟨al1, a1, a2⟩ := M_tallies hF hb h hW hw hq tu
  rw [a1, M_isTold]
  simp only [Option.bind_some]
  by_cases h2 : nI q = 3 ∨ nI q = 4
  · rw [if_pos h2, if_neg (by decide)]
    refine ⟨al1, _, _, _, rfl, ?_⟩
    rw [htold h2, turnM_0, xo_zero, upd_same, ← htold h2]
    exact a2
  · rw [if_neg h2, if_pos rfl]
    obtain ⟨al2, a3, a4⟩ := M_writeBits (F := F) hb a2 hw (z.1 w ^^^ tu)
    rw [a3]
    refine ⟨al2, _, _, _, rfl, ?_⟩
    rw [← put_turn]
    exact a4
end Mod2
