/-! the search, whole -/
section Pai3
variable {F n k : Nat} {oX oM : Nat → Int32}
theorem M_end (hn : n ≤ 24) (fo' t : Nat) (b2 b3 b4 b5 : Nat → Int32) : p_X11_choosePaired_L44 F (nI (cN k)) oM (nI n) (fo' + 1) (nI n) (nI t) b2 b3 b4 b5 = some (1, nI t, b2, b3, b4, b5) := by
  show p_X11_choosePaired_L44b F (nI (cN k)) oM (nI n) _ (nI n) (nI t) b2 b3 b4 b5 = _
  unfold p_X11_choosePaired_L44b p_X11_choosePaired_J187
  rw [if_neg (nI_pos (by omega)), if_pos (nI_le (Nat.le_refl _) (by omega)), if_pos rfl]
theorem M_new {p : Nat} (hn : n ≤ 24) (hp : p < n) (fo' t : Nat) (b2 b3 b4 b5 : Nat → Int32) (h3 : b3 p = -1) : p_X11_choosePaired_L44 F (nI (cN k)) oM (nI n) (fo' + 1) (nI p) (nI t) b2 b3 b4 b5 = p_X11_choosePaired_L78 F (nI (cN k)) oM (nI n) (nI p) (p_X11_choosePaired_L44 F (nI (cN k)) oM (nI n) fo') F (nI 0) (nI t) b2 b3 b4 b5 := by
  have g1 : ¬ ixBad (nI p) 32 := ixg (by omega) (by decide)
  have c1 : (nI p).toNatClampNeg = p := nI_clamp (by omega)
  show p_X11_choosePaired_L44b F (nI (cN k)) oM (nI n) _ (nI p) (nI t) b2 b3 b4 b5 = _
  unfold p_X11_choosePaired_L44b p_X11_choosePaired_J68
  rw [if_neg (nI_pos (by omega)), if_neg (nI_ge hp (by omega))]
  simp only [g1, c1, h3, ↓reduceIte]
  rw [if_pos (by decide)]
  rfl
theorem pair_loop (E : PE F n k oX oM) : ∀ (d p x t stp fx fi fo' : Nat) (a2 a3 a4 a6 b2 b3 b4 b5 : Nat → Int32), stp + d = 1100000 → d < fx → d < fi → d < fo' → PI n k p x t stp a2 a3 a4 a6 b2 b3 b4 b5 →
    ∃ r a2' a3' a4' a6' t' b2' b3' b4' b5', (r = 0 ∨ r = 1) ∧ (r = 1 → ChO n k a6' b2' ∧ ∀ q, n ≤ q → a6' q = a6 q ∧ b2' q = b2 q) ∧
      p_X0_choosePaired_L22 F (nI (cN k)) oX (nI n) (nI k) fx (nI p) (nI t) (nI stp) a2 a3 a4 a6 = some (r, a2', a3', a4', a6') ∧
      p_X11_choosePaired_L78 F (nI (cN k)) oM (nI n) (nI p) (p_X11_choosePaired_L44 F (nI (cN k)) oM (nI n) fo') fi (nI x) (nI t) b2 b3 b4 b5 = some (r, t', b2', b3', b4', b5') := by
  have EE := E
  obtain ⟨E1, E2, E3, E4, E5, E6, E7, E8⟩ := E
  intro d
  induction d with
  | zero =>
    intro p x t stp fx fi fo' a2 a3 a4 a6 b2 b3 b4 b5 hd _ _ _ h
    have := h.stp_le E3
    omega
  | succ d ih =>
    intro p x t stp fx fi fo' a2 a3 a4 a6 b2 b3 b4 b5 hd f1 f2 f3 h
    obtain ⟨fx, rfl⟩ : ∃ q, fx = q + 1 := ⟨fx - 1, by omega⟩
    obtain ⟨fi, rfl⟩ : ∃ q, fi = q + 1 := ⟨fi - 1, by omega⟩
    obtain ⟨fo', rfl⟩ : ∃ q, fo' = q + 1 := ⟨fo' - 1, by omega⟩
    have hp := h.1
    by_cases hx : x < cN k
    · obtain ⟨pv, hpv⟩ := h.prev E5
      rw [Xp_in EE h hx hpv, Mp_in EE h hx hpv]
      by_cases q1 : a2 (oN k x) = 0
      · rw [if_pos q1, if_pos q1]
        by_cases q2 : t + 1 ≤ 20000
        · rw [if_pos q2, if_pos q2]
          by_cases q3 : ftB n p a3 pv (oN k x) = true
          · rw [if_pos q3, if_pos q3]
            by_cases q4 : n ≤ p + 1
            · have en : p + 1 = n := by omega
              rw [if_pos q4, if_pos q4, en, M_end E3]
              refine ⟨1, _, _, _, _, _, _, _, _, _, Or.inr rfl, fun _ => ⟨⟨fun q hq => ?_, fun q r hqr hr => ?_⟩, fun q hq => ⟨?_, ?_⟩⟩, rfl, rfl⟩
              · by_cases e : q = p
                · subst e
                  rw [upd_at, upd_at, if_pos rfl, if_pos rfl]
                  exact ⟨oN_dcol hx, rfl⟩
                · obtain ⟨i, i1, i2, i3, _⟩ := h.2.2.2.2.1 q (by omega)
                  rw [upd_at, upd_at, if_neg e, if_neg e, i2, i3]
                  exact ⟨oN_dcol i1, rfl⟩
              · by_cases e : r = p
                · subst e
                  rw [upd_at, upd_at, if_neg (by omega), if_pos rfl]
                  obtain ⟨i, i1, i2, i3, i4, i5, i6⟩ := h.2.2.2.2.1 q hqr
                  have l1 := oN_lt i1
                  have l2 := oN_lt hx
                  have l3 := pow_le8 E5
                  intro e
                  rw [i2, nI_eq (by omega) (by omega)] at e
                  rw [e] at i6
                  exact i6 q1
                · rw [upd_at, upd_at, if_neg (by omega), if_neg e]
                  exact h.2.2.2.2.2.2.2.1 q r hqr (by omega)
              · rw [upd_at, if_neg (by omega)]
              · rw [upd_at, if_neg (by omega)]
            · rw [if_neg q4, if_neg q4, M_new E3 (by omega) _ _ _ _ _ _ (by rw [upd_at, if_pos rfl])]
              obtain ⟨r, a2', a3', a4', a6', t', b2', b3', b4', b5', r1, r2, r3, r4⟩ := ih (p + 1) 0 (t + 1) (stp + 1) fx F fo' _ _ _ _ _ _ _ _ (by omega) (by omega) (by omega) (by omega) (h.put E3 E5 hx q2 q1 (by omega) pv)
              refine ⟨r, a2', a3', a4', a6', t', b2', b3', b4', b5', r1, fun hr => ⟨(r2 hr).1, fun q hq => ?_⟩, r3, r4⟩
              obtain ⟨s1, s2⟩ := (r2 hr).2 q hq
              rw [s1, s2, upd_at, upd_at, if_neg (by omega), if_neg (by omega)]
              exact ⟨rfl, rfl⟩
          · rw [if_neg q3, if_neg q3]
            exact ih p (x + 1) (t + 1) (stp + 1) fx fi (fo' + 1) _ _ _ _ _ _ _ _ (by omega) (by omega) (by omega) (by omega) (h.no E5 hx q2)
        · rw [if_neg q2, if_neg q2]
          exact ⟨0, _, _, _, _, _, _, _, _, _, Or.inl rfl, fun hr => absurd hr (by decide), rfl, rfl⟩
      · rw [if_neg q1, if_neg q1]
        exact ih p (x + 1) t (stp + 1) fx fi (fo' + 1) _ _ _ _ _ _ _ _ (by omega) (by omega) (by omega) (by omega) (h.skip E5 hx q1)
    · have hx' : x = cN k := by have := h.2.1; omega
      rw [Xp_out EE h hx', Mp_out EE h hx']
      by_cases q : p = 0
      · subst q
        rw [if_pos rfl]
        refine ⟨0, _, _, _, _, nI t, b2, b3, b4, b5, Or.inl rfl, fun hr => absurd hr (by decide), rfl, ?_⟩
        show p_X11_choosePaired_L44b F (nI (cN k)) oM (nI n) _ (nI 0 + (-1)) (nI t) b2 b3 b4 b5 = _
        unfold p_X11_choosePaired_L44b p_X11_choosePaired_J187
        rw [if_pos (by decide), if_neg]
        intro e
        have e2 : (-1 : Int32) = nI n := e
        exact nI_ne_m1 (by omega) e2.symm
      · obtain ⟨p, rfl⟩ : ∃ q, p = q + 1 := ⟨p - 1, by omega⟩
        obtain ⟨i, i1, i2, i3, i4, i5, i6⟩ := h.2.2.2.2.1 p (by omega)
        have l1 := oN_lt i1
        have l3 := pow_le8 E5
        have hc := cN_le E5
        have hprev : ∃ pv, 0 < p → a6 (p - 1) = nI pv ∧ b2 (p - 1) = nI pv ∧ pv < 256 := by
          by_cases q : 0 < p
          · obtain ⟨j, j1, j2, j3, _⟩ := h.2.2.2.2.1 (p - 1) (by omega)
            have := oN_lt j1
            exact ⟨oN k j, fun _ => ⟨j2, j3, by omega⟩⟩
          · exact ⟨0, fun h => absurd h q⟩
        obtain ⟨pv, hpv⟩ := hprev
        rw [if_neg q, show p + 1 - 1 = p by omega, X0_away (by omega) (by omega) i2 (fun q => ⟨(hpv q).1, (hpv q).2.2⟩), pk_m1]
        simp only [Option.bind_some]
        have hM : p_X11_choosePaired_L44 F (nI (cN k)) oM (nI n) (fo' + 1) (nI p) (nI t) b2 b3 b4 b5 = p_X11_choosePaired_L78 F (nI (cN k)) oM (nI n) (nI p) (p_X11_choosePaired_L44 F (nI (cN k)) oM (nI n) fo') F (nI (i + 1)) (nI t) b2 b3 (upd b4 (oN k i) 0) (jnP p b5 (pv ^^^ oN k i) 0) := by
          have g1 : ¬ ixBad (nI p) 32 := ixg (by omega) (by decide)
          have c1 : (nI p).toNatClampNeg = p := nI_clamp (by omega)
          show p_X11_choosePaired_L44b F (nI (cN k)) oM (nI n) _ (nI p) (nI t) b2 b3 b4 b5 = _
          unfold p_X11_choosePaired_L44b p_X11_choosePaired_J68
          rw [if_neg (nI_pos (by omega)), if_neg (nI_ge (by omega) (by omega)), M_takeOff hp E3 (by omega) i3 (fun q => ⟨(hpv q).2.1, (hpv q).2.2⟩)]
          simp only [g1, c1, i5, ↓reduceIte, Option.bind_some, nI_1, jlet_eq]
          rw [if_neg (nI_pos (by omega))]
        rw [hM]
        exact ih p (i + 1) t (stp + 1) fx F fo' _ _ _ _ _ _ _ _ (by omega) (by omega) (by omega) (by omega) (h.back E3 E5 i1 i2 i4 pv)
/-- checks joined -/
def jcA (a : Nat → Int32) (k : Nat) : Nat → Int32 := fo (fun r a => upd a (3 * 2 ^ r) 1) (k - 1) 0 a
theorem join_tab : ∀ r, r < 7 → (3 : Int32) <<< ((nI (r + 1) - 1) &&& 31) = nI (3 * 2 ^ r) ∧ ((1 : Int32) <<< (nI r &&& 31)) ^^^ ((1 : Int32) <<< (nI (r + 1) &&& 31)) = nI (3 * 2 ^ r) ∧ 3 * 2 ^ r < 256 := by decide +kernel
theorem fo_shift {α : Type} (g : Nat → α → α) : ∀ (d i : Nat) (a : α), fo (fun r a => g (r - 1) a) d (i + 1) a = fo g d i a
  | 0, _, _ => rfl
  | d + 1, i, a => by
    show fo (fun r a => g (r - 1) a) d (i + 1 + 1) (g (i + 1 - 1) a) = fo g d (i + 1) (g i a)
    rw [show i + 1 - 1 = i by omega]
    exact fo_shift g d (i + 1) (g i a)
theorem X0_joinChecks (hF : 1000 < F) (hk4 : 4 ≤ k) (hk : k ≤ 8) (a : Nat → Int32) : p_X0_joinChecks F a (nI k) = some (jcA a k) := by
  have key := fold_loop (fun fuel (a : Nat → Int32) i => p_X0_joinChecks_L2 F (nI k) fuel i a) some (fun r a => (fun r a => upd a (3 * 2 ^ r) 1) (r - 1) a) (fun r _ => 1 ≤ r) k
    (fun fuel r a hr h1 => by
      show p_X0_joinChecks_L2b F (nI k) _ (nI r) a = _
      obtain ⟨t1, t2, t3⟩ := join_tab (r - 1) (by omega)
      rw [show r - 1 + 1 = r by omega] at t1
      have g1 : ¬ ixBad (nI (3 * 2 ^ (r - 1))) 256 := ixg t3 (by decide)
      have c1 : (nI (3 * 2 ^ (r - 1))).toNatClampNeg = 3 * 2 ^ (r - 1) := nI_clamp (by omega)
      unfold p_X0_joinChecks_L2b
      rw [if_neg (nI_ge hr (by omega))]
      simp only [t1, g1, c1, ↓reduceIte, nar1, nI_1])
    (fun fuel a _ => by
      show p_X0_joinChecks_L2b F (nI k) _ (nI k) a = _
      unfold p_X0_joinChecks_L2b
      rw [if_pos (nI_le (Nat.le_refl _) (by omega))]) (fun _ _ _ h => by omega) (k - 1) 1 F a (by omega) (by omega) (Nat.le_refl _)
  rw [fo_shift (fun r a => upd a (3 * 2 ^ r) 1) (k - 1) 0] at key
  exact key
theorem M_joinChecks (hF : 1000 < F) (hk4 : 4 ≤ k) (hk : k ≤ 8) (z0 : Int32) (b2 b3 b4 b5 : Nat → Int32) : p_X11_choosePaired F (nI (cN k)) z0 oM b2 b3 b4 b5 (nI n) (nI k) = p_X11_choosePaired_L44 F (nI (cN k)) oM (nI n) F 0 0 b2 (upd b3 0 (-1)) b4 (jcA b5 k) := by
  have key := fold_loop (fun fuel (a : Nat → Int32) i => p_X11_choosePaired_L2 F (nI (cN k)) oM (nI n) (nI k) fuel i z0 b2 b3 b4 a) (fun a => p_X11_choosePaired_L44 F (nI (cN k)) oM (nI n) F 0 0 b2 (upd b3 0 (-1)) b4 a) (fun r a => upd a (3 * 2 ^ r) 1) (fun _ _ => True) (k - 1)
    (fun fuel r a hr _ => by
      show p_X11_choosePaired_L2b F (nI (cN k)) oM (nI n) (nI k) _ (nI r) z0 b2 b3 b4 a = _
      obtain ⟨t1, t2, t3⟩ := join_tab r (by omega)
      have g1 : ¬ ixBad (nI (3 * 2 ^ r)) 256 := ixg t3 (by decide)
      have c1 : (nI (3 * 2 ^ r)).toNatClampNeg = 3 * 2 ^ r := nI_clamp (by omega)
      unfold p_X11_choosePaired_L2b
      rw [nI_1, if_neg (nI_ge (by omega) (by omega))]
      simp only [t2, g1, c1, ↓reduceIte, nar1])
    (fun fuel a _ => by
      show p_X11_choosePaired_L2b F (nI (cN k)) oM (nI n) (nI k) _ (nI (k - 1)) z0 b2 b3 b4 a = _
      unfold p_X11_choosePaired_L2b
      rw [nI_1, if_pos (nI_le (by omega) (by omega))]
      rfl) (fun _ _ _ _ => trivial) (k - 1) 0 F b5 (by omega) (by omega) trivial
  exact key
theorem pair_both (E : PE F n k oX oM) (z0 : Int32) (a2 a3 a4 a6 b2 b3 b4 b5 : Nat → Int32) (h0 : ∀ c, c < 256 → a2 c = 0 ∧ b4 c = 0 ∧ a3 c = b5 c) :
    ∃ r a2' a3' a4' a6' t' b2' b3' b4' b5', (r = 0 ∨ r = 1) ∧ (r = 1 → ChO n k a6' b2' ∧ ∀ q, n ≤ q → a6' q = a6 q ∧ b2' q = b2 q) ∧
      p_X0_choosePaired F (nI (cN k)) oX a2 a3 a4 (nI n) (nI k) a6 = some (r, a2', a3', a4', a6') ∧
      p_X11_choosePaired F (nI (cN k)) z0 oM b2 b3 b4 b5 (nI n) (nI k) = some (r, t', b2', b3', b4', b5') := by
  have EE := E
  obtain ⟨E1, E2, E3, E4, E5, E6, E7, E8⟩ := E
  have hj : ∀ c, c < 256 → jcA a3 k c = jcA b5 k c := fun c hc => by
    have inv : ∀ (d i : Nat) (x y : Nat → Int32), (∀ c, c < 256 → x c = y c) → ∀ c, c < 256 → fo (fun r a => upd a (3 * 2 ^ r) 1) d i x c = fo (fun r a => upd a (3 * 2 ^ r) 1) d i y c := by
      intro d
      induction d with
      | zero => intro i x y h; exact h
      | succ d ih =>
        intro i x y h
        exact ih (i + 1) _ _ (fun c hc => by
          show upd x (3 * 2 ^ i) 1 c = upd y (3 * 2 ^ i) 1 c
          rw [upd_at, upd_at, h c hc])
    exact inv (k - 1) 0 a3 b5 (fun c hc => (h0 c hc).2.2) c hc
  have hPI : PI n k 0 0 0 0 a2 (jcA a3 k) (upd a4 0 0) a6 b2 (upd b3 0 (-1)) b4 (jcA b5 k) :=
    ⟨by omega, by omega, by omega, fun c hc => ⟨by rw [(h0 c hc).1, (h0 c hc).2.1], hj c hc⟩, fun q hq => absurd hq (by omega), by rw [upd_at, if_pos rfl]; rfl, fun c hc hne => absurd (h0 c hc).1 hne, fun q r _ hr => absurd hr (by omega), by omega⟩
  obtain ⟨F', eF⟩ : ∃ q, F = q + 1 := ⟨F - 1, by omega⟩
  obtain ⟨r, a2', a3', a4', a6', t', b2', b3', b4', b5', r1, r2, r3, r4⟩ := pair_loop EE 1100000 0 0 0 0 F F F' a2 (jcA a3 k) (upd a4 0 0) a6 b2 (upd b3 0 (-1)) b4 (jcA b5 k) (by omega) (by omega) (by omega) (by omega) hPI
  refine ⟨r, a2', a3', a4', a6', t', b2', b3', b4', b5', r1, r2, ?_, ?_⟩
  · unfold p_X0_choosePaired
    rw [X0_joinChecks (by omega) E4 E5]
    exact r3
  · rw [M_joinChecks (by omega) E4 E5, ← r4]
    have := M_new (F := F) (k := k) (oM := oM) (n := n) (p := 0) E3 (by omega) F' 0 b2 (upd b3 0 (-1)) b4 (jcA b5 k) (by rw [upd_at, if_pos rfl])
    rw [← eF] at this
    exact this
end Pai3
