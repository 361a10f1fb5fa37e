/-! columns so that pairs side by side can be told apart: class and model try alike -/
theorem ct_more {p q : Nat → Bool} {k0 : Nat} (h0 : p k0 = false) (h1 : q k0 = true) : ∀ {n : Nat}, (∀ k, k < n → p k = true → q k = true) → k0 < n → fb_ct p n + 1 ≤ fb_ct q n
  | 0, _, h => absurd h (by omega)
  | n + 1, h, hk => by
    rw [fb_ct_succ, fb_ct_succ]
    by_cases e : k0 = n
    · subst e
      have := fb_ct_sub (p := p) (q := q) (n := k0) (fun k hk => h k (by omega))
      rw [h0, h1]
      simp
      omega
    · have := ct_more h0 h1 (n := n) (fun k hk => h k (by omega)) (by omega)
      have h2 := h n (by omega)
      cases hp : p n
      · cases hq : q n <;> simp <;> omega
      · rw [h2 hp]; simp; omega
def PE (F n k : Nat) (oX oM : Nat → Int32) : Prop := 3000000 < F ∧ 4 ≤ n ∧ n ≤ 24 ∧ 4 ≤ k ∧ k ≤ 8 ∧ n ≤ cN k ∧ (∀ i, i < cN k → oX i = nI (oN k i)) ∧ ∀ i, i < cN k → oM i = nI (oN k i)
def PI (n k p x t stp : Nat) (a2 a3 a4 a6 b2 b3 b4 b5 : Nat → Int32) : Prop :=
  p < n ∧ x ≤ cN k ∧ t ≤ 20000 ∧ (∀ c, c < 256 → a2 c = b4 c ∧ a3 c = b5 c) ∧
    (∀ q, q < p → ∃ i, i < cN k ∧ a6 q = nI (oN k i) ∧ b2 q = nI (oN k i) ∧ a4 q = nI (i + 1) ∧ b3 q = nI i ∧ a2 (oN k i) ≠ 0) ∧ a4 p = nI x ∧
    (∀ c, c < 256 → a2 c ≠ 0 → ∃ q, q < p ∧ a6 q = nI c) ∧ (∀ q r, q < r → r < p → a6 q ≠ a6 r) ∧
    stp + 25 * p ≤ 50 * t + fb_ct (fun q => decide ((a4 q).toNatClampNeg ≤ x)) p
theorem PI.stp_le {n k p x t stp : Nat} {a2 a3 a4 a6 b2 b3 b4 b5 : Nat → Int32} (h : PI n k p x t stp a2 a3 a4 a6 b2 b3 b4 b5) (hn : n ≤ 24) : stp ≤ 1000024 := by
  obtain ⟨h1, h2, h3, h4, h5, h6, h7, h8, h9⟩ := h
  have := fb_ct_le (fun q => decide ((a4 q).toNatClampNeg ≤ x)) p
  omega
section Pai
variable {F n k p x t stp pv c fx fi : Nat} {oX oM a2 a3 a4 a6 b2 b3 b4 b5 : Nat → Int32}
/-- does it fit -/
def ftB (n p : Nat) (a3 : Nat → Int32) (pv c : Nat) : Bool := (decide (p = 0) || decide (a3 (pv ^^^ c) = 0)) && (decide (p + 1 < n) || decide (a3 (c ^^^ 1) = 0))
theorem X0_fits (hn : n ≤ 24) (hp : p < n) (hc : c < 256) (hpv : 0 < p → a6 (p - 1) = nI pv ∧ pv < 256) : p_X0_fits F a3 (nI n) a6 (nI p) (nI c) = some (if ftB n p a3 pv c = true then 1 else 0) := by
  have en : nI n - 1 = nI (n - 1) := by have := nI_pred (n - 1); rw [show n - 1 + 1 = n by omega] at this; exact this
  have x1 : nI c ^^^ 1 = nI (c ^^^ 1) := nI_xor c 1
  have hx1 : c ^^^ 1 < 256 := xor_256 hc (by decide)
  have g1 : ¬ ixBad (nI (c ^^^ 1)) 256 := ixg hx1 (by decide)
  have c1 : (nI (c ^^^ 1)).toNatClampNeg = c ^^^ 1 := nI_clamp (by omega)
  have J : p_X0_fits_J24 F a3 (nI n) a6 (nI p) (nI c) = some (if (decide (p + 1 < n) || decide (a3 (c ^^^ 1) = 0)) = true then 1 else 0) := by
    unfold p_X0_fits_J24
    simp only [en, x1, g1, c1, ↓reduceIte]
    by_cases q : p + 1 < n
    · rw [if_pos (nI_lt (by omega) (by omega)), if_pos (by simp [q])]
    · rw [if_neg (nI_nlt (by omega) (by omega))]
      by_cases q2 : a3 (c ^^^ 1) = 0
      · rw [if_pos q2, if_pos (by simp [q2])]
      · rw [if_neg q2, if_neg (by simp [q, q2])]
  unfold p_X0_fits ftB
  by_cases q0 : p = 0
  · subst q0
    rw [if_pos (by decide), J]
    simp
  · obtain ⟨e1, e2⟩ := hpv (by omega)
    have ep : nI p - 1 = nI (p - 1) := by have := nI_pred (p - 1); rw [show p - 1 + 1 = p by omega] at this; exact this
    have g2 : ¬ ixBad (nI (p - 1)) 32 := ixg (by omega) (by decide)
    have c2 : (nI (p - 1)).toNatClampNeg = p - 1 := nI_clamp (by omega)
    have hx2 : pv ^^^ c < 256 := xor_256 e2 hc
    have g3 : ¬ ixBad (nI (pv ^^^ c)) 256 := ixg hx2 (by decide)
    have c3 : (nI (pv ^^^ c)).toNatClampNeg = pv ^^^ c := nI_clamp (by omega)
    rw [if_neg (nI_nle (by omega) (by omega))]
    simp only [ep, g2, c2, e1, nI_xor, g3, c3, ↓reduceIte, J, q0]
    by_cases q2 : a3 (pv ^^^ c) = 0
    · rw [if_pos q2]
      simp [q2]
    · rw [if_neg q2]
      simp [q2]
theorem M_canTake (hn : n ≤ 24) (hp : p < n) (hc : c < 256) (ht : t ≤ 20000) (hpv : 0 < p → b2 (p - 1) = nI pv ∧ pv < 256 ∧ pv ≠ 1) :
    p_X11_canTake F (nI t) b2 b4 b5 (nI p) (nI n) (nI c) = if b4 c = 0 then (if t + 1 ≤ 20000 then some (if ftB n p b5 pv c = true then 1 else 0, nI (t + 1)) else some (0, nI (t + 1))) else some (0, nI t) := by
  have en : nI n - 1 = nI (n - 1) := by have := nI_pred (n - 1); rw [show n - 1 + 1 = n by omega] at this; exact this
  have x1 : nI c ^^^ 1 = nI (c ^^^ 1) := nI_xor c 1
  have hx1 : c ^^^ 1 < 256 := xor_256 hc (by decide)
  have g1 : ¬ ixBad (nI (c ^^^ 1)) 256 := ixg hx1 (by decide)
  have c1 : (nI (c ^^^ 1)).toNatClampNeg = c ^^^ 1 := nI_clamp (by omega)
  have g0 : ¬ ixBad (nI c) 256 := ixg hc (by decide)
  have c0 : (nI c).toNatClampNeg = c := nI_clamp (by omega)
  have J : ∀ (ah : Int32), (0 < p → ah ≠ nI (c ^^^ 1)) → ∀ bh : Int32, (p + 1 = n → bh = nI (c ^^^ 1)) → p_X11_canTake_J85 F b2 b4 b5 (nI p) (nI n) ah bh (nI (t + 1)) = some (if (decide (p + 1 < n) || decide (b5 (c ^^^ 1) = 0)) = true then 1 else 0, nI (t + 1)) := by
    intro ah hah bh hbh
    unfold p_X11_canTake_J85
    rw [en]
    by_cases q : p + 1 < n
    · rw [if_pos (nI_lt (by omega) (by omega)), if_pos (by simp [q])]
    · rw [if_neg (nI_nlt (by omega) (by omega)), hbh (by omega)]
      simp only [g1, c1, ↓reduceIte]
      by_cases q2 : b5 (c ^^^ 1) = 0
      · rw [if_pos q2, if_pos (show (decide (p + 1 < n) || decide (b5 (c ^^^ 1) = 0)) = true by simp [q2])]
        by_cases q3 : p = 0
        · rw [if_pos (by rw [q3]; rfl)]
        · rw [if_neg (nI_ne0 (by omega) (by omega)), if_neg (hah (by omega))]
      · rw [if_neg q2, if_neg (by simp [q, q2])]
  unfold p_X11_canTake
  simp only [g0, c0, ↓reduceIte, nI_1]
  by_cases qt : b4 c = 0
  · rw [if_pos qt, if_pos qt]
    by_cases ql : t + 1 ≤ 20000
    · rw [if_pos (show nI (t + 1) ≤ (20000 : Int32) from nI_le (b := 20000) ql (by decide)), if_pos ql]
      unfold p_X11_canTake_J51 p_X11_canTake_J67 ftB
      rw [en, x1]
      by_cases q0 : p = 0
      · subst q0
        have z0 : nI 0 ≤ 0 := by decide
        simp only [z0, ↓reduceIte]
        by_cases q1 : nI 0 = nI (n - 1)
        · rw [if_pos q1, J 0 (fun h => absurd h (by omega)) _ (fun _ => rfl)]
          simp
        · rw [if_neg q1, J 0 (fun h => absurd h (by omega)) _ (fun h => absurd (by rw [show n - 1 = 0 by omega]) q1)]
          simp
      · obtain ⟨e1, e2, e3⟩ := hpv (by omega)
        have ep : nI p - 1 = nI (p - 1) := by have := nI_pred (p - 1); rw [show p - 1 + 1 = p by omega] at this; exact this
        have g2 : ¬ ixBad (nI (p - 1)) 32 := ixg (by omega) (by decide)
        have c2 : (nI (p - 1)).toNatClampNeg = p - 1 := nI_clamp (by omega)
        have hx2 : c ^^^ pv < 256 := xor_256 hc e2
        have g3 : ¬ ixBad (nI (c ^^^ pv)) 256 := ixg hx2 (by decide)
        have c3 : (nI (c ^^^ pv)).toNatClampNeg = c ^^^ pv := nI_clamp (by omega)
        have z0 : ¬ nI p ≤ 0 := nI_nle (by omega) (by omega)
        have hah : 0 < p → nI (c ^^^ pv) ≠ nI (c ^^^ 1) := fun _ e => by
          rw [nI_eq (by omega) (by omega)] at e
          have e9 := congrArg (fun z => c ^^^ z) e
          simp only [← Nat.xor_assoc, Nat.xor_self, Nat.zero_xor] at e9
          exact e3 e9
        simp only [z0, ↓reduceIte, ep, g2, c2, e1, nI_xor, g3, c3, q0, Nat.xor_comm pv c]
        have fin : (if b5 (c ^^^ pv) = 0 then some ((if (decide (p + 1 < n) || decide (b5 (c ^^^ 1) = 0)) = true then (1 : Int32) else 0), nI (t + 1)) else some (0, nI (t + 1))) = some (if ((decide False || decide (b5 (c ^^^ pv) = 0)) && (decide (p + 1 < n) || decide (b5 (c ^^^ 1) = 0))) = true then 1 else 0, nI (t + 1)) := by
          by_cases q2 : b5 (c ^^^ pv) = 0
          · rw [if_pos q2]; simp [q2]
          · rw [if_neg q2]; simp [q2]
        by_cases q1 : nI p = nI (n - 1)
        · rw [if_pos q1, J _ hah _ (fun _ => rfl)]
          exact fin
        · rw [if_neg q1, J _ hah _ (fun h => absurd (by rw [show n - 1 = p by omega]) q1)]
          exact fin
    · rw [if_neg (show ¬ nI (t + 1) ≤ (20000 : Int32) from nI_ge (a := 20000) (by omega) (by omega)), if_neg ql]
  · rw [if_neg qt, if_neg qt]
/-- what stands joined when a column is put, or taken away -/
def jnP (p : Nat) (a3 : Nat → Int32) (v : Nat) (y : Int32) : Nat → Int32 := if p = 0 then a3 else upd a3 v y
theorem X0_put (hp : p < 24) (hc : c < 256) (hpv : 0 < p → a6 (p - 1) = nI pv ∧ pv < 256) : p_X0_put F a2 a3 a6 (nI p) (nI c) = some (upd a2 c 1, jnP p a3 (pv ^^^ c) 1, upd a6 p (nI c)) := by
  have g0 : ¬ ixBad (nI c) 256 := ixg hc (by decide)
  have c0 : (nI c).toNatClampNeg = c := nI_clamp (by omega)
  have g1 : ¬ ixBad (nI p) 32 := ixg (by omega) (by decide)
  have c1 : (nI p).toNatClampNeg = p := nI_clamp (by omega)
  unfold p_X0_put jnP
  simp only [g0, c0, g1, c1, ↓reduceIte, nar1]
  by_cases q0 : p = 0
  · subst q0
    rw [if_pos (by decide), if_pos rfl]
  · obtain ⟨e1, e2⟩ := hpv (by omega)
    have ep : nI p - 1 = nI (p - 1) := by have := nI_pred (p - 1); rw [show p - 1 + 1 = p by omega] at this; exact this
    have g2 : ¬ ixBad (nI (p - 1)) 32 := ixg (by omega) (by decide)
    have c2 : (nI (p - 1)).toNatClampNeg = p - 1 := nI_clamp (by omega)
    have hx2 : pv ^^^ c < 256 := xor_256 e2 hc
    have g3 : ¬ ixBad (nI (pv ^^^ c)) 256 := ixg hx2 (by decide)
    have c3 : (nI (pv ^^^ c)).toNatClampNeg = pv ^^^ c := nI_clamp (by omega)
    have np : ¬ p - 1 = p := by omega
    rw [if_neg (nI_nle (by omega) (by omega)), if_neg q0]
    simp only [ep, g2, c2, upd_at, np, e1, nI_xor, g3, c3, ↓reduceIte]
theorem M_takeOn (hp : p < n) (hn : n ≤ 24) (hc : c < 256) (hpv : 0 < p → b2 (p - 1) = nI pv ∧ pv < 256) : p_X11_takeOn F b2 b4 b5 (nI p) (nI n) (nI c) = some (upd b2 p (nI c), upd b4 c 1, if p + 1 = n then upd (jnP p b5 (pv ^^^ c) 1) (c ^^^ 1) 1 else jnP p b5 (pv ^^^ c) 1) := by
  have en : nI n - 1 = nI (n - 1) := by have := nI_pred (n - 1); rw [show n - 1 + 1 = n by omega] at this; exact this
  have x1 : nI c ^^^ 1 = nI (c ^^^ 1) := nI_xor c 1
  have hx1 : c ^^^ 1 < 256 := xor_256 hc (by decide)
  have g4 : ¬ ixBad (nI (c ^^^ 1)) 256 := ixg hx1 (by decide)
  have c4 : (nI (c ^^^ 1)).toNatClampNeg = c ^^^ 1 := nI_clamp (by omega)
  have g0 : ¬ ixBad (nI c) 256 := ixg hc (by decide)
  have c0 : (nI c).toNatClampNeg = c := nI_clamp (by omega)
  have g1 : ¬ ixBad (nI p) 32 := ixg (by omega) (by decide)
  have c1 : (nI p).toNatClampNeg = p := nI_clamp (by omega)
  have J : ∀ y1 y2 y3 : Nat → Int32, p_X11_takeOn_J34 F (nI p) (nI n) (nI c) y1 y2 y3 = some (y1, y2, if p + 1 = n then upd y3 (c ^^^ 1) 1 else y3) := by
    intro y1 y2 y3
    unfold p_X11_takeOn_J34
    rw [en, x1]
    simp only [g4, c4, ↓reduceIte, nar1]
    by_cases q : p + 1 = n
    · rw [if_pos (by rw [show n - 1 = p by omega]), if_pos q]
    · rw [if_neg (by rw [nI_eq (by omega) (by omega)]; omega), if_neg q]
  unfold p_X11_takeOn jnP
  simp only [g0, c0, g1, c1, ↓reduceIte, nar1]
  by_cases q0 : p = 0
  · subst q0
    rw [if_pos (by decide), J, if_pos rfl]
  · obtain ⟨e1, e2⟩ := hpv (by omega)
    have ep : nI p - 1 = nI (p - 1) := by have := nI_pred (p - 1); rw [show p - 1 + 1 = p by omega] at this; exact this
    have g2 : ¬ ixBad (nI (p - 1)) 32 := ixg (by omega) (by decide)
    have c2 : (nI (p - 1)).toNatClampNeg = p - 1 := nI_clamp (by omega)
    have hx2 : c ^^^ pv < 256 := xor_256 hc e2
    have g3 : ¬ ixBad (nI (c ^^^ pv)) 256 := ixg hx2 (by decide)
    have c3 : (nI (c ^^^ pv)).toNatClampNeg = c ^^^ pv := nI_clamp (by omega)
    have np : ¬ p - 1 = p := by omega
    rw [if_neg (nI_nle (by omega) (by omega)), if_neg q0]
    simp only [ep, g2, c2, upd_at, np, e1, nI_xor, g3, c3, ↓reduceIte]
    rw [J, Nat.xor_comm c pv]
theorem X0_away (hp : p < 24) (hc : c < 256) (hcp : a6 p = nI c) (hpv : 0 < p → a6 (p - 1) = nI pv ∧ pv < 256) : p_X0_takeAway F a2 a3 a6 (nI p) = some (upd a2 c 0, jnP p a3 (pv ^^^ c) 0) := by
  have g0 : ¬ ixBad (nI c) 256 := ixg hc (by decide)
  have c0 : (nI c).toNatClampNeg = c := nI_clamp (by omega)
  have g1 : ¬ ixBad (nI p) 32 := ixg (by omega) (by decide)
  have c1 : (nI p).toNatClampNeg = p := nI_clamp (by omega)
  unfold p_X0_takeAway jnP
  simp only [g1, c1, hcp, g0, c0, ↓reduceIte, nar0]
  by_cases q0 : p = 0
  · subst q0
    rw [if_pos (by decide), if_pos rfl]
  · obtain ⟨e1, e2⟩ := hpv (by omega)
    have ep : nI p - 1 = nI (p - 1) := by have := nI_pred (p - 1); rw [show p - 1 + 1 = p by omega] at this; exact this
    have g2 : ¬ ixBad (nI (p - 1)) 32 := ixg (by omega) (by decide)
    have c2 : (nI (p - 1)).toNatClampNeg = p - 1 := nI_clamp (by omega)
    have hx2 : pv ^^^ c < 256 := xor_256 e2 hc
    have g3 : ¬ ixBad (nI (pv ^^^ c)) 256 := ixg hx2 (by decide)
    have c3 : (nI (pv ^^^ c)).toNatClampNeg = pv ^^^ c := nI_clamp (by omega)
    rw [if_neg (nI_nle (by omega) (by omega)), if_neg q0]
    simp only [ep, g2, c2, e1, nI_xor, g3, c3, ↓reduceIte]
theorem M_takeOff (hp : p + 1 < n) (hn : n ≤ 24) (hc : c < 256) (hcp : b2 p = nI c) (hpv : 0 < p → b2 (p - 1) = nI pv ∧ pv < 256) : p_X11_takeOff F b2 b4 b5 (nI p) (nI n) = some (upd b4 c 0, jnP p b5 (pv ^^^ c) 0) := by
  have en : nI n - 1 = nI (n - 1) := by have := nI_pred (n - 1); rw [show n - 1 + 1 = n by omega] at this; exact this
  have g0 : ¬ ixBad (nI c) 256 := ixg hc (by decide)
  have c0 : (nI c).toNatClampNeg = c := nI_clamp (by omega)
  have g1 : ¬ ixBad (nI p) 32 := ixg (by omega) (by decide)
  have c1 : (nI p).toNatClampNeg = p := nI_clamp (by omega)
  have J : ∀ y2 y3 : Nat → Int32, p_X11_takeOff_J34 F b2 (nI p) (nI n) (nI c) y2 y3 = some (y2, y3) := by
    intro y2 y3
    unfold p_X11_takeOff_J34
    rw [en, if_neg (by rw [nI_eq (by omega) (by omega)]; omega)]
  unfold p_X11_takeOff jnP
  simp only [g1, c1, hcp, g0, c0, ↓reduceIte, nar0]
  by_cases q0 : p = 0
  · subst q0
    rw [if_pos (by decide), J, if_pos rfl]
  · obtain ⟨e1, e2⟩ := hpv (by omega)
    have ep : nI p - 1 = nI (p - 1) := by have := nI_pred (p - 1); rw [show p - 1 + 1 = p by omega] at this; exact this
    have g2 : ¬ ixBad (nI (p - 1)) 32 := ixg (by omega) (by decide)
    have c2 : (nI (p - 1)).toNatClampNeg = p - 1 := nI_clamp (by omega)
    have hx2 : c ^^^ pv < 256 := xor_256 hc e2
    have g3 : ¬ ixBad (nI (c ^^^ pv)) 256 := ixg hx2 (by decide)
    have c3 : (nI (c ^^^ pv)).toNatClampNeg = c ^^^ pv := nI_clamp (by omega)
    rw [if_neg (nI_nle (by omega) (by omega)), if_neg q0]
    simp only [ep, g2, c2, e1, nI_xor, g3, c3, ↓reduceIte]
    rw [J, Nat.xor_comm c pv]
theorem jnP_at {v j : Nat} {y : Int32} : jnP p a3 v y j = if p = 0 then a3 j else if j = v then y else a3 j := by
  unfold jnP
  by_cases h : p = 0
  · rw [if_pos h, if_pos h]
  · rw [if_neg h, if_neg h]; rfl
end Pai
