/-! lines side by side: column, word, the end -/
def mk17 (g : G5) (fd fa ch : Int32) (mq : MqT) (to : AA) : Int32 × Int32 × Int32 × Int32 × Int32 × Int32 × Int32 × Int32 × Int32 × Int32 × AA × AA × AA × AA × AA × AA × AA :=
  (g.1, g.2.1, g.2.2.1, g.2.2.2.1, g.2.2.2.2, fd, fa, ch, mq.1, mq.2.1, to, mq.2.2.1, mq.2.2.2.1, mq.2.2.2.2.1, mq.2.2.2.2.2.1, mq.2.2.2.2.2.2.1, mq.2.2.2.2.2.2.2)
def RC (F L : Nat) (tm lets : AA) (b : Nat) (g : G5) (ch : Int32) (mq : MqT) (da ck wy to : AA) := p_X11_readColumn F (nI L) g.1 g.2.1 g.2.2.1 g.2.2.2.1 g.2.2.2.2 0 (-1) ch mq.1 mq.2.1 da ck wy to tm lets mq.2.2.1 mq.2.2.2.1 mq.2.2.2.2.1 mq.2.2.2.2.2.1 mq.2.2.2.2.2.2.1 mq.2.2.2.2.2.2.2 (nI b)
def RW (F L : Nat) (tm lets : AA) (b : Nat) (g : G5) (ch : Int32) (mq : MqT) (da ck wy to : AA) := p_X11_readWord F (nI L) g.1 g.2.1 g.2.2.1 g.2.2.2.1 g.2.2.2.2 0 (-1) ch mq.1 mq.2.1 da ck wy to tm lets mq.2.2.1 mq.2.2.2.1 mq.2.2.2.2.1 mq.2.2.2.2.2.1 mq.2.2.2.2.2.2.1 mq.2.2.2.2.2.2.2 (nI b)
section Lin4
variable {F L b : Nat} {u : Nat → Nat} {tx tm lets : AA}
theorem RL_col {p : Nat} {g g' : G5} (hg : MR F L u tm p g) (hQ : QW L u p 7) {sn ch fd fa' ch' : Int32} {mq mq' : MqT} {da ck wy to to' : AA} (hr : RC F L tm lets b g ch mq da ck wy to = some (mk17 g' fd fa' ch' mq' to')) : RLn F L tm lets b g 0 (-1) sn ch mq da ck wy to = some (mk21 g' fd fa' sn ch' mq' da ck wy to') := by
  unfold RLn p_X11_readLine
  rw [M_isWord (w := 0) (c := 0) hg (by decide) rfl]
  simp only [Option.bind_some, ite0]
  rw [if_neg (QW_ne (by decide) (by decide) hQ (show 7 ≠ 0 by decide))]
  rw [M_isWord (w := 1) (c := 1) hg (by decide) rfl]
  simp only [Option.bind_some, ite0]
  rw [if_neg (QW_ne (by decide) (by decide) hQ (show 7 ≠ 1 by decide))]
  rw [M_isWord (w := 2) (c := 2) hg (by decide) rfl]
  simp only [Option.bind_some, ite0]
  rw [if_neg (QW_ne (by decide) (by decide) hQ (show 7 ≠ 2 by decide))]
  rw [M_isWord (w := 6) (c := 6) hg (by decide) rfl]
  simp only [Option.bind_some, ite0]
  rw [if_neg (QW_ne (by decide) (by decide) hQ (show 7 ≠ 6 by decide))]
  rw [M_isWord (w := 7) (c := 7) hg (by decide) rfl]
  simp only [Option.bind_some, ite0]
  rw [if_pos hQ]
  unfold RC at hr
  rw [hr]
  rfl
theorem RL_word {p : Nat} {g g' : G5} (hg : MR F L u tm p g) (hQ : QW L u p 8) {sn ch fd fa' ch' : Int32} {mq mq' : MqT} {da ck wy to to' : AA} (hr : RW F L tm lets b g ch mq da ck wy to = some (mk17 g' fd fa' ch' mq' to')) : RLn F L tm lets b g 0 (-1) sn ch mq da ck wy to = some (mk21 g' fd fa' sn ch' mq' da ck wy to') := by
  unfold RLn p_X11_readLine
  rw [M_isWord (w := 0) (c := 0) hg (by decide) rfl]
  simp only [Option.bind_some, ite0]
  rw [if_neg (QW_ne (by decide) (by decide) hQ (show 8 ≠ 0 by decide))]
  rw [M_isWord (w := 1) (c := 1) hg (by decide) rfl]
  simp only [Option.bind_some, ite0]
  rw [if_neg (QW_ne (by decide) (by decide) hQ (show 8 ≠ 1 by decide))]
  rw [M_isWord (w := 2) (c := 2) hg (by decide) rfl]
  simp only [Option.bind_some, ite0]
  rw [if_neg (QW_ne (by decide) (by decide) hQ (show 8 ≠ 2 by decide))]
  rw [M_isWord (w := 6) (c := 6) hg (by decide) rfl]
  simp only [Option.bind_some, ite0]
  rw [if_neg (QW_ne (by decide) (by decide) hQ (show 8 ≠ 6 by decide))]
  rw [M_isWord (w := 7) (c := 7) hg (by decide) rfl]
  simp only [Option.bind_some, ite0]
  rw [if_neg (QW_ne (by decide) (by decide) hQ (show 8 ≠ 7 by decide))]
  rw [M_isWord (w := 8) (c := 8) hg (by decide) rfl]
  simp only [Option.bind_some, ite0]
  rw [if_pos hQ]
  unfold RW at hr
  rw [hr]
  rfl
theorem RC_head {g : G5} {ch x : Int32} {mq mq' : MqT} {da ck wy to to' : AA} (hc : CC5 F b g.2.1 ch mq da ck wy to = some (mkC mq' (nI 4) x 1 to')) : RC F L tm lets b g ch mq da ck wy to = some (mk17 g (nI 4) x 1 mq' to') := by
  unfold RC p_X11_readColumn
  unfold CC5 at hc
  rw [hc]
  unfold mkC
  simp only [Option.bind_some]
  rw [if_neg (by decide)]
  rfl
theorem RW_head {g : G5} {ch x : Int32} {mq mq' : MqT} {da ck wy to to' : AA} (hc : CC5 F b g.2.1 ch mq da ck wy to = some (mkC mq' (nI 4) x 1 to')) : RW F L tm lets b g ch mq da ck wy to = some (mk17 g (nI 4) x 1 mq' to') := by
  unfold RW p_X11_readWord
  unfold CC5 at hc
  rw [hc]
  unfold mkC
  simp only [Option.bind_some]
  rw [if_neg (by decide)]
  rfl
theorem RC_num (hb : b < 2) {g g1 g2 : G5} {ch fd fa' x hiI : Int32} {mq mq' : MqT} {da ck wy to to' : AA} (hc : CC5 F b g.2.1 ch mq da ck wy to = some (mkC mq' 0 (-1) 1 to')) (hs : p_X11_scan F (nI L) g.1 g.2.1 g.2.2.1 g.2.2.2.1 g.2.2.2.2 tm lets = some g1) (hhi : da b - 1 = hiI) (hn : p_X11_numeral F (nI L) g1.1 g1.2.1 g1.2.2.1 g1.2.2.2.1 g1.2.2.2.2 0 (-1) tm lets 0 hiI = some (x, g2.1, g2.2.1, g2.2.2.1, g2.2.2.2.1, g2.2.2.2.2, fd, fa')) :
    RC F L tm lets b g ch mq da ck wy to = if fd ≤ 0 then (if g2.2.2.1 = 3 then ((p_X11_isOfData F g2.2.2.2.1 (ck b)).bind fun r => if r = 0 then p_X11_readColumn_J84 F (nI L) da ck wy tm lets (nI b) x g2.1 g2.2.1 g2.2.2.1 g2.2.2.2.1 g2.2.2.2.2 fd fa' 1 mq'.1 mq'.2.1 to' mq'.2.2.1 mq'.2.2.2.1 mq'.2.2.2.2.1 mq'.2.2.2.2.2.1 mq'.2.2.2.2.2.2.1 mq'.2.2.2.2.2.2.2 else ((p_X11_isElsewhere F da to' (nI b) g2.2.2.2.1 x).bind fun r => if r = 0 then p_X11_readColumn_J89 F (nI L) da ck wy tm lets (nI b) x g2.1 g2.2.1 g2.2.2.1 g2.2.2.2.1 g2.2.2.2.2 fd fa' 1 mq'.1 mq'.2.1 to' mq'.2.2.1 mq'.2.2.2.1 mq'.2.2.2.2.1 mq'.2.2.2.2.2.1 mq'.2.2.2.2.2.2.1 mq'.2.2.2.2.2.2.2 else p_X11_readColumn_J84 F (nI L) da ck wy tm lets (nI b) x g2.1 g2.2.1 g2.2.2.1 g2.2.2.2.1 g2.2.2.2.2 fd fa' 1 mq'.1 mq'.2.1 to' mq'.2.2.1 mq'.2.2.2.1 mq'.2.2.2.2.1 mq'.2.2.2.2.2.1 mq'.2.2.2.2.2.2.1 mq'.2.2.2.2.2.2.2)) else ((p_X11_fail F g2.2.1 fd fa' 1).bind fun z => p_X11_readColumn_J89 F (nI L) da ck wy tm lets (nI b) x g2.1 g2.2.1 g2.2.2.1 g2.2.2.2.1 g2.2.2.2.2 z.1 z.2 1 mq'.1 mq'.2.1 to' mq'.2.2.1 mq'.2.2.2.1 mq'.2.2.2.2.1 mq'.2.2.2.2.2.1 mq'.2.2.2.2.2.2.1 mq'.2.2.2.2.2.2.2)) else some (mk17 g2 fd fa' 1 mq' to') := by
  have g1' : ¬ ixBad (nI b) 2 := ixg hb (by decide)
  have c1 : (nI b).toNatClampNeg = b := nI_clamp (by omega)
  unfold RC p_X11_readColumn
  unfold CC5 at hc
  rw [hc]
  unfold mkC
  simp only [Option.bind_some]
  rw [if_pos (show (0 : Int32) ≤ 0 by decide), hs]
  simp only [Option.bind_some, g1', c1, ↓reduceIte]
  rw [hhi, hn]
  simp only [Option.bind_some]
  rfl
theorem RC_J89_fail {g : G5} {x fd fa ch : Int32} {mq : MqT} {da ck wy to : AA} (hf : ¬ fd ≤ 0) : p_X11_readColumn_J89 F (nI L) da ck wy tm lets (nI b) x g.1 g.2.1 g.2.2.1 g.2.2.2.1 g.2.2.2.2 fd fa ch mq.1 mq.2.1 to mq.2.2.1 mq.2.2.2.1 mq.2.2.2.2.1 mq.2.2.2.2.2.1 mq.2.2.2.2.2.2.1 mq.2.2.2.2.2.2.2 = some (mk17 g fd fa ch mq to) := by
  unfold p_X11_readColumn_J89
  rw [if_neg hf]
  rfl
theorem RC_J89_ok (hb : b < 2) {v : Nat} (hv : v < 32) {g g3 : G5} {fa ch : Int32} {mq : MqT} {da ck wy to : AA} (hs : p_X11_scan F (nI L) g.1 g.2.1 g.2.2.1 g.2.2.2.1 g.2.2.2.2 tm lets = some g3) : p_X11_readColumn_J89 F (nI L) da ck wy tm lets (nI b) (nI v) g.1 g.2.1 g.2.2.1 g.2.2.2.1 g.2.2.2.2 0 fa ch mq.1 mq.2.1 to mq.2.2.1 mq.2.2.2.1 mq.2.2.2.2.1 mq.2.2.2.2.2.1 mq.2.2.2.2.2.2.1 mq.2.2.2.2.2.2.2 = some (mk17 g3 0 fa ch mq (upd to (121 * b + v) g.2.2.2.1)) := by
  have e1 : (121 : Int32) * nI b + 0 + nI v = nI (121 * b + v) := by rw [show (121 : Int32) = nI 121 from rfl, pk_mul, Int32.add_zero, nI_add]
  have g1' : ¬ ixBad (nI (121 * b + v)) 242 := ixg (by omega) (by decide)
  have c1 : (nI (121 * b + v)).toNatClampNeg = 121 * b + v := nI_clamp (by omega)
  unfold p_X11_readColumn_J89
  rw [if_pos (show (0 : Int32) ≤ 0 by decide)]
  simp only [e1, g1', c1, ↓reduceIte]
  rw [hs]
  rfl
theorem M_isElsewhere (hF : 1000 < F) (hb : b < 2) {n v : Nat} (hn : n ≤ 24) {da to : AA} (hd : da b = nI n) (hv : v < n) (c : Int32) : p_X11_isElsewhere F da to (nI b) c (nI v) = some (if fi (fun p => decide (p ≠ v) && decide (to (121 * b + p) = c)) n = -1 then 0 else 1) := by
  have g1' : ¬ ixBad (nI b) 2 := ixg hb (by decide)
  have c1 : (nI b).toNatClampNeg = b := nI_clamp (by omega)
  have key : ∀ (d i fuel : Nat), i + d = n → d < fuel → (∀ j, j < i → (decide (j ≠ v) && decide (to (121 * b + j) = c)) = false) → p_X11_isElsewhere_L3 F da to (nI b) c (nI v) fuel (nI i) = some (if fi (fun p => decide (p ≠ v) && decide (to (121 * b + p) = c)) n = -1 then 0 else 1) := by
    intro d
    induction d with
    | zero =>
      intro i fuel hi hf hno
      obtain ⟨fuel, rfl⟩ : ∃ q, fuel = q + 1 := ⟨fuel - 1, by omega⟩
      have e : i = n := by omega
      subst e
      show p_X11_isElsewhere_L3b F da to (nI b) c (nI v) _ (nI i) = _
      unfold p_X11_isElsewhere_L3b
      simp only [g1', c1, hd, ↓reduceIte]
      rw [if_pos (nI_le (Nat.le_refl _) (by omega)), if_pos (fi_none hno)]
    | succ d ih =>
      intro i fuel hi hf hno
      obtain ⟨fuel, rfl⟩ : ∃ q, fuel = q + 1 := ⟨fuel - 1, by omega⟩
      have e1 : (121 : Int32) * nI b + 0 + nI i = nI (121 * b + i) := by rw [show (121 : Int32) = nI 121 from rfl, pk_mul, Int32.add_zero, nI_add]
      have g2 : ¬ ixBad (nI (121 * b + i)) 242 := ixg (by omega) (by decide)
      have c2 : (nI (121 * b + i)).toNatClampNeg = 121 * b + i := nI_clamp (by omega)
      show p_X11_isElsewhere_L3b F da to (nI b) c (nI v) _ (nI i) = _
      unfold p_X11_isElsewhere_L3b p_X11_isElsewhere_J40
      simp only [g1', c1, hd, ↓reduceIte, e1, g2, c2, nI_1]
      rw [if_neg (nI_ge (by omega) (by omega))]
      by_cases q1 : i = v
      · rw [if_pos (by rw [q1])]
        exact ih (i + 1) fuel (by omega) (by omega) (fun j hj => by
          by_cases e : j = i
          · subst e; simp [q1]
          · exact hno j (by omega))
      · rw [if_neg (by rw [nI_eq (by omega) (by omega)]; exact q1)]
        by_cases q2 : to (121 * b + i) = c
        · rw [if_pos q2, if_neg]
          rw [fi_at (show i < n by omega) (by simp [q1, q2]) hno]
          exact nI_ne_m1 (by omega)
        · rw [if_neg q2]
          exact ih (i + 1) fuel (by omega) (by omega) (fun j hj => by
            by_cases e : j = i
            · subst e; simp [q2]
            · exact hno j (by omega))
  exact key n 0 F (by omega) (by omega) (fun j hj => absurd hj (by omega))
theorem X1_give {n k v a : Nat} {col a2 a3 : AA} (hF : 300 < F) (hm : n + k ≤ 32) (hv : v < 32) (hB : ColB (n + k) (upd col v (nI a))) : ∃ pl pr, p_X1_giveColumn F (nI n) (nI k) col a2 a3 (nI v) (nI a) = some (upd col v (nI a), pl, pr) ∧ TabOK (n + k) (upd col v (nI a)) pl pr := by
  obtain ⟨pl, pr, e1, e2⟩ := X1_look (a2 := a2) (a3 := a3) hF hm hB
  refine ⟨pl, pr, ?_, e2⟩
  have g1 : ¬ ixBad (nI v) 32 := ixg hv (by decide)
  have c1 : (nI v).toNatClampNeg = v := nI_clamp (by omega)
  unfold p_X1_giveColumn
  simp only [g1, c1, ↓reduceIte]
  rw [e1]
  rfl
theorem CodeOK.give {n k v : Nat} {col : AA} {c : Int32} (h : CodeOK n k col) (hv : v < n) (hc : DCol k c) (hne : ∀ p, p < n → p ≠ v → col p ≠ c) : CodeOK n k (upd col v c) := by
  obtain ⟨h1, h2, h3, h4, h5, h6, h7⟩ := h
  refine ⟨h1, h2, h3, h4, fun p hp => ?_, fun x hx => ?_, fun p q hp hq e => ?_⟩
  · rw [upd_at]
    by_cases e : p = v
    · rw [if_pos e]; exact hc
    · rw [if_neg e]; exact h5 p hp
  · rw [upd_at, if_neg (by omega)]; exact h6 x hx
  · rw [upd_at, upd_at] at e
    by_cases e1 : p = v
    · by_cases e2 : q = v
      · omega
      · rw [if_pos e1, if_neg e2] at e; exact absurd e.symm (hne q hq e2)
    · by_cases e2 : q = v
      · rw [if_neg e1, if_pos e2] at e; exact absurd e (hne p hp e1)
      · rw [if_neg e1, if_neg e2] at e; exact h7 p q hp hq e
/-- a column is told: both take it, or both find the same fault -/
theorem col_agree {n k v a : Nat} {col to : AA} (hc : CodeOK n k col) (hto : ∀ p, p < n + k → to (121 * b + p) = col p) (hv : v < n) (hd : DCp k (nI a)) : (plc col (n + k) (nI a) = -1 ∨ plc col (n + k) (nI a) = nI v) ↔ fi (fun p => decide (p ≠ v) && decide (to (121 * b + p) = nI a)) n = -1 := by
  have hm := hc.hm
  rw [fi_neg (by omega)]
  constructor
  · intro hh p hp
    by_cases e1 : p = v
    · simp [e1]
    · by_cases e2 : to (121 * b + p) = nI a
      · exfalso
        rw [hto p (by omega)] at e2
        rcases plc_cases col (n + k) (nI a) with ⟨j, hj, ej, e⟩ | e
        · have : p = j := hc.inj (by omega) hj (e2.trans ej.symm)
          subst this
          rcases hh with hh | hh
          · rw [hh] at e; exact nI_ne_m1 (by omega) e.symm
          · rw [hh, nI_eq (by omega) (by omega)] at e; exact e1 e.symm
        · have := (fi_neg (show n + k < 2 ^ 31 by omega)).mp e p (by omega)
          simp [e2] at this
      · simp [e2]
  · intro hh
    rcases plc_cases col (n + k) (nI a) with ⟨j, hj, ej, e⟩ | e
    · right
      rw [e]
      by_cases e1 : j = v
      · rw [e1]
      · exfalso
        by_cases e2 : j < n
        · have := hh j e2
          rw [hto j hj, ej] at this
          simp [e1] at this
        · have h6 := hc.2.2.2.2.2.1 (j - n) (by omega)
          rw [show n + (j - n) = j by omega, ej] at h6
          have h9 := hd.2.2.1
          rw [h6, pcn_oh (by omega)] at h9
          omega
    · exact Or.inl e
theorem X3_col (hF : 1000 < F) {n k v a j : Nat} {co : CoT} (hc : CodeOK n k co.1) (ht : TabOK (n + k) co.1 co.2.1 co.2.2) (hv : v < n) :
    ((¬ DCp k (nI a) ∨ ¬ (plc co.1 (n + k) (nI a) = -1 ∨ plc co.1 (n + k) (nI a) = nI v)) → p_X3_takeColumn F 0 (-1) (nI j) (nI a) (nI v) (nI n) (nI k) co.1 co.2.1 co.2.2 = some (nI 2, nI j, co.1, co.2.1, co.2.2)) ∧
    (DCp k (nI a) → (plc co.1 (n + k) (nI a) = -1 ∨ plc co.1 (n + k) (nI a) = nI v) → ∃ co' : CoT, CodeOK n k co'.1 ∧ TabOK (n + k) co'.1 co'.2.1 co'.2.2 ∧ co'.1 = upd co.1 v (nI a) ∧ p_X3_takeColumn F 0 (-1) (nI j) (nI a) (nI v) (nI n) (nI k) co.1 co.2.1 co.2.2 = some (0, -1, co'.1, co'.2.1, co'.2.2)) := by
  have hm := hc.hm
  have hk : k ≤ 8 := hc.2.2.2.1
  have hn := hc.2.1
  unfold p_X3_takeColumn p_X3_takeColumn_J39 p_X3_takeColumn_J45 p_X3_fail
  rw [X1_placeWith hc.colB ht, X1_isDataColumn_eq hk]
  simp only [Option.bind_some, ite0]
  constructor
  · intro hh
    by_cases c1 : DCp k (nI a)
    · have hno := hh.resolve_left (fun q => q c1)
      rw [if_pos c1, if_neg (fun q => hno (Or.inl q)), if_neg (fun q => hno (Or.inr q))]
      rfl
    · rw [if_neg c1]; rfl
  · intro c1 hh
    have hne : ∀ p, p < n → p ≠ v → co.1 p ≠ nI a := fun p hp hpv e => by
      rcases plc_cases co.1 (n + k) (nI a) with ⟨i, hi, ei, e3⟩ | e3
      · have : p = i := hc.inj (by omega) hi (e.trans ei.symm)
        subst this
        rcases hh with hh | hh
        · rw [hh] at e3; exact nI_ne_m1 (by omega) e3.symm
        · rw [hh, nI_eq (by omega) (by omega)] at e3; exact hpv e3.symm
      · have := (fi_neg (show n + k < 2 ^ 31 by omega)).mp e3 p (by omega)
        simp [e] at this
    have hcode := hc.give hv (c1.dcol hk) hne
    obtain ⟨pl, pr, e1, e2⟩ := X1_give (F := F) (v := v) (a := a) (a2 := co.2.1) (a3 := co.2.2) (by omega) hm (by omega) hcode.colB
    refine ⟨(upd co.1 v (nI a), pl, pr), hcode, e2, rfl, ?_⟩
    rw [if_pos c1, e1]
    by_cases c2 : plc co.1 (n + k) (nI a) = -1
    · rw [if_pos c2]; rfl
    · rw [if_neg c2, if_pos (hh.resolve_left c2)]; rfl
theorem T6_fail {x6 x7 x8 x9 wy tl ch sj d0 d1 d2 : Int32} {A1 A2 A3 A4 : AA} {q pl : Int32} (hw : p_X3_isNumberWithin F 0 (-1) x7 x8 x9 6 0 255 1 = some (0, q, pl, 6)) : p_X3_takeToken F 0 (-1) x6 x7 x8 x9 6 wy tl ch sj (nI L) tx d0 d1 d2 A1 A2 A3 A4 = some (q, pl, 6, wy, tl, sj, d0, d1, d2, A1, A2, A3, A4) := by
  unfold p_X3_takeToken
  rw [if_neg (show ¬ (6 : Int32) = 0 by decide), if_neg (show ¬ (6 : Int32) = 1 by decide), if_neg (show ¬ (6 : Int32) = 2 by decide), if_neg (show ¬ (6 : Int32) = 3 by decide), if_neg (show ¬ (6 : Int32) = 4 by decide), if_neg (show ¬ (6 : Int32) = 5 by decide), if_pos (show (6 : Int32) = 6 from rfl), hw]
  rfl
theorem T6_ok {x6 x7 x8 x9 wy tl ch sj d0 d1 d2 fk fp : Int32} {A1 A2 A3 A4 B1 B2 B3 : AA} (hw : p_X3_isNumberWithin F 0 (-1) x7 x8 x9 6 0 255 1 = some (1, 0, -1, 1)) (hc : p_X3_takeColumn F 0 (-1) x7 x9 sj d0 d1 A1 A2 A3 = some (fk, fp, B1, B2, B3)) : p_X3_takeToken F 0 (-1) x6 x7 x8 x9 6 wy tl ch sj (nI L) tx d0 d1 d2 A1 A2 A3 A4 = some (fk, fp, 1, wy, tl, sj, d0, d1, d2, B1, B2, B3, A4) := by
  unfold p_X3_takeToken
  rw [if_neg (show ¬ (6 : Int32) = 0 by decide), if_neg (show ¬ (6 : Int32) = 1 by decide), if_neg (show ¬ (6 : Int32) = 2 by decide), if_neg (show ¬ (6 : Int32) = 3 by decide), if_neg (show ¬ (6 : Int32) = 4 by decide), if_neg (show ¬ (6 : Int32) = 5 by decide), if_pos (show (6 : Int32) = 6 from rfl), hw]
  simp only [Option.bind_some]
  rw [if_neg i32_1_0, hc]
  rfl
theorem T8_fail {n : Nat} (hn : n < 31) {x6 x7 x8 x9 wy tl ch sj d0 d1 d2 : Int32} {A1 A2 A3 A4 : AA} {q pl : Int32} (hd : d0 = nI n) (hw : p_X3_isNumberWithin F 0 (-1) x7 x8 x9 8 0 (mk n) 1 = some (0, q, pl, 8)) : p_X3_takeToken F 0 (-1) x6 x7 x8 x9 8 wy tl ch sj (nI L) tx d0 d1 d2 A1 A2 A3 A4 = some (q, pl, 8, wy, tl, sj, d0, d1, d2, A1, A2, A3, A4) := by
  subst hd
  unfold p_X3_takeToken
  rw [if_neg (show ¬ (8 : Int32) = 0 by decide), if_neg (show ¬ (8 : Int32) = 1 by decide), if_neg (show ¬ (8 : Int32) = 2 by decide), if_neg (show ¬ (8 : Int32) = 3 by decide), if_neg (show ¬ (8 : Int32) = 4 by decide), if_neg (show ¬ (8 : Int32) = 5 by decide), if_neg (show ¬ (8 : Int32) = 6 by decide), if_neg (show ¬ (8 : Int32) = 7 by decide), X1_mask hn]
  simp only [Option.bind_some]
  rw [hw]
  rfl
theorem T8_ok {n v : Nat} (hn : n < 31) (hv : v < 16) {x6 x7 x8 x9 wy tl ch d0 d1 d2 : Int32} {A1 A2 A3 A4 : AA} (hd : d0 = nI n) (hw : p_X3_isNumberWithin F 0 (-1) x7 x8 x9 8 0 (mk n) 1 = some (1, 0, -1, 1)) : p_X3_takeToken F 0 (-1) x6 x7 x8 x9 8 wy tl ch (nI v) (nI L) tx d0 d1 d2 A1 A2 A3 A4 = some (0, -1, 1, wy, tl, nI v, d0, d1, d2, A1, A2, A3, upd A4 v x9) := by
  subst hd
  unfold p_X3_takeToken
  rw [if_neg (show ¬ (8 : Int32) = 0 by decide), if_neg (show ¬ (8 : Int32) = 1 by decide), if_neg (show ¬ (8 : Int32) = 2 by decide), if_neg (show ¬ (8 : Int32) = 3 by decide), if_neg (show ¬ (8 : Int32) = 4 by decide), if_neg (show ¬ (8 : Int32) = 5 by decide), if_neg (show ¬ (8 : Int32) = 6 by decide), if_neg (show ¬ (8 : Int32) = 7 by decide), X1_mask hn]
  simp only [Option.bind_some]
  rw [hw]
  simp only [Option.bind_some]
  rw [if_neg i32_1_0, if_neg (ixg hv (by decide)), nI_clamp (by omega)]
theorem M_numeral_f {q : Nat} (hq : 1 ≤ q) (hq4 : q ≤ 4) {g : G5} {fa lo hi : Int32} : p_X11_numeral F (nI L) g.1 g.2.1 g.2.2.1 g.2.2.2.1 g.2.2.2.2 (nI q) fa tm lets lo hi = some (g.2.2.2.1, g.1, g.2.1, g.2.2.1, g.2.2.2.1, g.2.2.2.2, nI q, fa) := by
  have n0 : ¬ nI q = 0 := nI_ne0 (by omega) (by omega)
  have n1 : ¬ nI q ≤ 0 := nI_nle (by omega) (by omega)
  unfold p_X11_numeral p_X11_numeral_J33 p_X11_fail
  rw [M_isIn]
  simp only [n0, n1, ↓reduceIte, Option.bind_some, ite_self]
theorem RW_num (hb : b < 2) {g g1 g2 g3 : G5} {ch fd fa' fd2 fa2 x y hiI : Int32} {mq mq' : MqT} {da ck wy to to' : AA} (hc : CC5 F b g.2.1 ch mq da ck wy to = some (mkC mq' 0 (-1) 1 to')) (hs : p_X11_scan F (nI L) g.1 g.2.1 g.2.2.1 g.2.2.2.1 g.2.2.2.2 tm lets = some g1) (hn : p_X11_numeral F (nI L) g1.1 g1.2.1 g1.2.2.1 g1.2.2.2.1 g1.2.2.2.2 0 (-1) tm lets 0 15 = some (x, g2.1, g2.2.1, g2.2.2.1, g2.2.2.2.1, g2.2.2.2.2, fd, fa')) (hhi : ((1 : Int32) <<< (da b &&& 31)) - 1 = hiI) (hn2 : p_X11_numeral F (nI L) g2.1 g2.2.1 g2.2.2.1 g2.2.2.2.1 g2.2.2.2.2 fd fa' tm lets 0 hiI = some (y, g3.1, g3.2.1, g3.2.2.1, g3.2.2.2.1, g3.2.2.2.2, fd2, fa2)) :
    RW F L tm lets b g ch mq da ck wy to = if fd2 = 0 then (if ixBad (((121 : Int32) * nI b + 65) + x) 242 then none else some (mk17 g3 fd2 fa2 1 mq' (upd to' (((121 : Int32) * nI b + 65) + x).toNatClampNeg y))) else some (mk17 g3 fd2 fa2 1 mq' to') := by
  have g1' : ¬ ixBad (nI b) 2 := ixg hb (by decide)
  have c1 : (nI b).toNatClampNeg = b := nI_clamp (by omega)
  unfold RW p_X11_readWord
  unfold CC5 at hc
  rw [hc]
  unfold mkC
  simp only [Option.bind_some]
  rw [if_pos (show (0 : Int32) ≤ 0 by decide), hs]
  simp only [Option.bind_some]
  rw [hn]
  simp only [Option.bind_some, g1', c1, ↓reduceIte]
  rw [hhi, hn2]
  simp only [Option.bind_some]
  rfl
theorem ML_end {f : Nat} (hF : 1000 < F) (hb : b < 2) {g : G5} {sn ch fd fa ch' : Int32} {mq mq' : MqT} {da ck wy to to' : AA} (ht : g.2.2.1 = 0) (hc : CC5 F b g.2.1 ch mq da ck wy to = some (mkC mq' fd fa ch' to')) : ML F L tm lets b (f + 1) g 0 (-1) sn ch mq da ck wy to = some (mk21 g fd fa sn ch' mq' da ck wy (cpW b to')) := by
  rw [← M_copy (L := L) (tm := tm) (lets := lets) hF hb]
  show p_X11_finish_L9b F (nI L) tm lets (nI b) _ g.1 g.2.1 g.2.2.1 g.2.2.2.1 g.2.2.2.2 0 (-1) sn ch mq.1 mq.2.1 da ck wy to mq.2.2.1 mq.2.2.2.1 mq.2.2.2.2.1 mq.2.2.2.2.2.1 mq.2.2.2.2.2.2.1 mq.2.2.2.2.2.2.2 = _
  unfold p_X11_finish_L9b p_X11_finish_J50
  rw [if_pos rfl, if_pos ht, if_pos rfl]
  unfold CC5 at hc
  rw [hc]
  rfl
end Lin4
