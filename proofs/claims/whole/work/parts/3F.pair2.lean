/-! the search, step by step -/
section Pai2
variable {F n k p x t stp fx fi : Nat} {oX oM a2 a3 a4 a6 b2 b3 b4 b5 : Nat → Int32}
theorem PI.prev (hk : k ≤ 8) (h : PI n k p x t stp a2 a3 a4 a6 b2 b3 b4 b5) : ∃ pv, 0 < p → a6 (p - 1) = nI pv ∧ b2 (p - 1) = nI pv ∧ pv < 256 ∧ pv ≠ 1 := by
  by_cases q : 0 < p
  · obtain ⟨i, h1, h2, h3, h4⟩ := h.2.2.2.2.1 (p - 1) (by omega)
    have hlt := oN_lt h1
    have := pow_le8 hk
    refine ⟨oN k i, fun _ => ⟨h2, h3, by omega, fun e => ?_⟩⟩
    have h5 := (oN_dcol h1).2.1
    rw [e] at h5
    exact absurd h5 (by decide +kernel)
  · exact ⟨0, fun h => absurd h q⟩
/-- goes on at the next column: it was taken -/
theorem PI.skip (hk : k ≤ 8) (h : PI n k p x t stp a2 a3 a4 a6 b2 b3 b4 b5) (hx : x < cN k) (ht : a2 (oN k x) ≠ 0) : PI n k p (x + 1) t (stp + 1) a2 a3 (upd a4 p (nI (x + 1))) a6 b2 b3 b4 b5 := by
  obtain ⟨h1, h2, h3, h4, h5, h6, h7, h8, h9⟩ := h
  have hlt := oN_lt hx
  have hp8 := pow_le8 hk
  have hc := cN_le hk
  refine ⟨h1, by omega, h3, h4, fun q hq => ?_, by rw [upd_at, if_pos rfl], h7, h8, ?_⟩
  · obtain ⟨i, q1, q2, q3, q4, q5, q6⟩ := h5 q hq
    exact ⟨i, q1, q2, q3, by rw [upd_at, if_neg (by omega)]; exact q4, q5, q6⟩
  · obtain ⟨q0, hq0, e0⟩ := h7 (oN k x) (by omega) ht
    obtain ⟨i, q1, q2, q3, q4, q5, q6⟩ := h5 q0 hq0
    have hli := oN_lt q1
    rw [q2, nI_eq (by omega) (by omega)] at e0
    have ei := oN_inj q1 hx e0
    subst ei
    have m := ct_more (p := fun q => decide ((a4 q).toNatClampNeg ≤ i)) (q := fun q => decide ((upd a4 p (nI (i + 1)) q).toNatClampNeg ≤ i + 1)) (k0 := q0) (n := p)
      (decide_eq_false (by rw [q4, nI_clamp (by omega)]; omega)) (decide_eq_true (by rw [upd_at, if_neg (by omega), q4, nI_clamp (by omega)]; omega))
      (fun q hq hh => by
        have hh' : decide ((a4 q).toNatClampNeg ≤ i) = true := hh
        rw [decide_eq_true_iff] at hh'
        show decide ((upd a4 p (nI (i + 1)) q).toNatClampNeg ≤ i + 1) = true
        rw [upd_at, if_neg (by omega), decide_eq_true_iff]
        omega) hq0
    omega
/-- goes on at the next column: it did not fit -/
theorem PI.no (hk : k ≤ 8) (h : PI n k p x t stp a2 a3 a4 a6 b2 b3 b4 b5) (hx : x < cN k) (ht : t + 1 ≤ 20000) : PI n k p (x + 1) (t + 1) (stp + 1) a2 a3 (upd a4 p (nI (x + 1))) a6 b2 b3 b4 b5 := by
  obtain ⟨h1, h2, h3, h4, h5, h6, h7, h8, h9⟩ := h
  refine ⟨h1, by omega, ht, h4, fun q hq => ?_, by rw [upd_at, if_pos rfl], h7, h8, ?_⟩
  · obtain ⟨i, q1, q2, q3, q4, q5, q6⟩ := h5 q hq
    exact ⟨i, q1, q2, q3, by rw [upd_at, if_neg (by omega)]; exact q4, q5, q6⟩
  · have m := fb_ct_sub (p := fun q => decide ((a4 q).toNatClampNeg ≤ x)) (q := fun q => decide ((upd a4 p (nI (x + 1)) q).toNatClampNeg ≤ x + 1)) (n := p)
      (fun q hq hh => by
        have hh' : decide ((a4 q).toNatClampNeg ≤ x) = true := hh
        rw [decide_eq_true_iff] at hh'
        show decide ((upd a4 p (nI (x + 1)) q).toNatClampNeg ≤ x + 1) = true
        rw [upd_at, if_neg (by omega), decide_eq_true_iff]
        omega)
    omega
/-- one more place has a column -/
theorem PI.put (hn : n ≤ 24) (hk : k ≤ 8) (h : PI n k p x t stp a2 a3 a4 a6 b2 b3 b4 b5) (hx : x < cN k) (ht : t + 1 ≤ 20000) (h0 : a2 (oN k x) = 0) (hpn : p + 1 < n) (pv : Nat) :
    PI n k (p + 1) 0 (t + 1) (stp + 1) (upd a2 (oN k x) 1) (jnP p a3 (pv ^^^ oN k x) 1) (upd (upd a4 p (nI (x + 1))) (p + 1) 0) (upd a6 p (nI (oN k x))) (upd b2 p (nI (oN k x))) (upd (upd b3 p (nI x)) (p + 1) (-1)) (upd b4 (oN k x) 1) (jnP p b5 (pv ^^^ oN k x) 1) := by
  obtain ⟨h1, h2, h3, h4, h5, h6, h7, h8, h9⟩ := h
  have hlt := oN_lt hx
  have hp8 := pow_le8 hk
  have hc := cN_le hk
  refine ⟨hpn, by omega, ht, fun c hc => ⟨?_, ?_⟩, fun q hq => ?_, by rw [upd_at, if_pos rfl]; rfl, fun c hc hne => ?_, fun q r hqr hr => ?_, ?_⟩
  · rw [upd_at, upd_at, (h4 c hc).1]
  · rw [jnP_at, jnP_at, (h4 c hc).2]
  · by_cases e : q = p
    · subst e
      refine ⟨x, hx, by rw [upd_at, if_pos rfl], by rw [upd_at, if_pos rfl], by rw [upd_at, if_neg (by omega), upd_at, if_pos rfl], by rw [upd_at, if_neg (by omega), upd_at, if_pos rfl], by rw [upd_at, if_pos rfl]; decide⟩
    · obtain ⟨i, q1, q2, q3, q4, q5, q6⟩ := h5 q (by omega)
      refine ⟨i, q1, by rw [upd_at, if_neg e]; exact q2, by rw [upd_at, if_neg e]; exact q3, by rw [upd_at, if_neg (by omega), upd_at, if_neg e]; exact q4, by rw [upd_at, if_neg (by omega), upd_at, if_neg e]; exact q5, ?_⟩
      rw [upd_at]
      by_cases e2 : oN k i = oN k x
      · rw [if_pos e2]; decide
      · rw [if_neg e2]; exact q6
  · rw [upd_at] at hne
    by_cases e : c = oN k x
    · exact ⟨p, by omega, by rw [upd_at, if_pos rfl, e]⟩
    · rw [if_neg e] at hne
      obtain ⟨q, hq, eq⟩ := h7 c hc hne
      exact ⟨q, by omega, by rw [upd_at, if_neg (by omega)]; exact eq⟩
  · have old : ∀ q, q < p → a6 q ≠ nI (oN k x) := fun q hq e => by
      obtain ⟨i, q1, q2, q3, q4, q5, q6⟩ := h5 q hq
      have hli := oN_lt q1
      rw [q2, nI_eq (by omega) (by omega)] at e
      rw [e] at q6
      exact q6 h0
    by_cases e : r = p
    · subst e
      rw [upd_at, upd_at, if_neg (by omega), if_pos rfl]
      exact old q hqr
    · rw [upd_at, upd_at, if_neg (by omega), if_neg e]
      exact h8 q r hqr (by omega)
  · have := fb_ct_le (fun q => decide ((a4 q).toNatClampNeg ≤ x)) p
    omega
/-- one place less -/
theorem PI.back (hn : n ≤ 24) (hk : k ≤ 8) (h : PI n k (p + 1) x t stp a2 a3 a4 a6 b2 b3 b4 b5) {i : Nat} (hi : i < cN k) (hci : a6 p = nI (oN k i)) (h4i : a4 p = nI (i + 1)) (pv : Nat) :
    PI n k p (i + 1) t (stp + 1) (upd a2 (oN k i) 0) (jnP p a3 (pv ^^^ oN k i) 0) a4 a6 b2 b3 (upd b4 (oN k i) 0) (jnP p b5 (pv ^^^ oN k i) 0) := by
  obtain ⟨h1, h2, h3, h4, h5, h6, h7, h8, h9⟩ := h
  have hlt := oN_lt hi
  have hp8 := pow_le8 hk
  refine ⟨by omega, by omega, h3, fun c hc => ⟨?_, ?_⟩, fun q hq => ?_, h4i, fun c hc hne => ?_, fun q r hqr hr => h8 q r hqr (by omega), ?_⟩
  · rw [upd_at, upd_at, (h4 c hc).1]
  · rw [jnP_at, jnP_at, (h4 c hc).2]
  · obtain ⟨j, q1, q2, q3, q4, q5, q6⟩ := h5 q (by omega)
    refine ⟨j, q1, q2, q3, q4, q5, ?_⟩
    have e : ¬ oN k j = oN k i := fun e => h8 q p hq (by omega) (by rw [q2, hci, e])
    rw [upd_at, if_neg e]
    exact q6
  · rw [upd_at] at hne
    by_cases e : c = oN k i
    · rw [if_pos e] at hne; exact absurd rfl hne
    · rw [if_neg e] at hne
      obtain ⟨q, hq, eq⟩ := h7 c hc hne
      by_cases e2 : q = p
      · subst e2
        rw [hci, nI_eq (by omega) (by omega)] at eq
        exact absurd eq.symm e
      · exact ⟨q, by omega, eq⟩
  · have := fb_ct_le (fun q => decide ((a4 q).toNatClampNeg ≤ x)) (p + 1)
    omega
theorem Xp_in (E : PE F n k oX oM) (h : PI n k p x t stp a2 a3 a4 a6 b2 b3 b4 b5) (hx : x < cN k) {pv : Nat} (hpv : 0 < p → a6 (p - 1) = nI pv ∧ b2 (p - 1) = nI pv ∧ pv < 256 ∧ pv ≠ 1) :
    p_X0_choosePaired_L22 F (nI (cN k)) oX (nI n) (nI k) (fx + 1) (nI p) (nI t) (nI stp) a2 a3 a4 a6 =
      if a2 (oN k x) = 0 then (if t + 1 ≤ 20000 then (if ftB n p a3 pv (oN k x) = true then (if n ≤ p + 1 then some (1, upd a2 (oN k x) 1, jnP p a3 (pv ^^^ oN k x) 1, upd a4 p (nI (x + 1)), upd a6 p (nI (oN k x)))
        else p_X0_choosePaired_L22 F (nI (cN k)) oX (nI n) (nI k) fx (nI (p + 1)) (nI (t + 1)) (nI (stp + 1)) (upd a2 (oN k x) 1) (jnP p a3 (pv ^^^ oN k x) 1) (upd (upd a4 p (nI (x + 1))) (p + 1) 0) (upd a6 p (nI (oN k x))))
        else p_X0_choosePaired_L22 F (nI (cN k)) oX (nI n) (nI k) fx (nI p) (nI (t + 1)) (nI (stp + 1)) a2 a3 (upd a4 p (nI (x + 1))) a6)
        else some (0, a2, a3, upd a4 p (nI (x + 1)), a6))
      else p_X0_choosePaired_L22 F (nI (cN k)) oX (nI n) (nI k) fx (nI p) (nI t) (nI (stp + 1)) a2 a3 (upd a4 p (nI (x + 1))) a6 := by
  have hst := h.stp_le E.2.2.1
  obtain ⟨E1, E2, E3, E4, E5, E6, E7, E8⟩ := E
  obtain ⟨h1, h2, h3, h4, h5, h6, h7, h8, h9⟩ := h
  have hlt := oN_lt hx
  have hp8 := pow_le8 E5
  have hc := cN_le E5
  have g0 : ¬ (2000000 : Int32) ≤ nI stp := nI_ge (b := 2000000) (by omega) (by decide)
  have g1 : ¬ ixBad (nI p) 24 := ixg (by omega) (by decide)
  have c1 : (nI p).toNatClampNeg = p := nI_clamp (by omega)
  have g2 : ¬ ixBad (nI x) 256 := ixg (by omega) (by decide)
  have c2 : (nI x).toNatClampNeg = x := nI_clamp (by omega)
  have g3 : ¬ ixBad (nI (oN k x)) 256 := ixg (by omega) (by decide)
  have c3 : (nI (oN k x)).toNatClampNeg = oN k x := nI_clamp (by omega)
  have l1 : nI x < nI (cN k) := nI_lt hx (by omega)
  show p_X0_choosePaired_L22b F (nI (cN k)) oX (nI n) (nI k) _ (nI p) (nI t) (nI stp) a2 a3 a4 a6 = _
  unfold p_X0_choosePaired_L22b p_X0_choosePaired_J153
  simp only [g0, g1, c1, h6, l1, g2, c2, E7 x hx, jlet_eq, g3, c3, ↓reduceIte, nI_1]
  by_cases q1 : a2 (oN k x) = 0
  · rw [if_pos q1, if_pos q1]
    by_cases q2 : t + 1 ≤ 20000
    · rw [if_pos (show nI (t + 1) ≤ (20000 : Int32) from nI_le (b := 20000) q2 (by decide)), if_pos q2, X0_fits E3 h1 (by omega) (fun q => ⟨(hpv q).1, (hpv q).2.2.1⟩)]
      simp only [Option.bind_some]
      by_cases q3 : ftB n p a3 pv (oN k x) = true
      · rw [if_pos q3, if_neg i32_1_0, if_pos q3, X0_put (by omega) (by omega) (fun q => ⟨(hpv q).1, (hpv q).2.2.1⟩)]
        simp only [Option.bind_some]
        by_cases q4 : n ≤ p + 1
        · rw [if_pos (nI_le q4 (by omega)), if_pos q4]
        · have g4 : ¬ ixBad (nI (p + 1)) 24 := ixg (by omega) (by decide)
          have c4 : (nI (p + 1)).toNatClampNeg = p + 1 := nI_clamp (by omega)
          rw [if_neg (nI_ge (by omega) (by omega)), if_neg q4, if_pos (show nI (p + 1) < (24 : Int32) from nI_lt (b := 24) (by omega) (by decide))]
          simp only [g4, c4, ↓reduceIte]
      · rw [if_neg q3, if_pos rfl, if_neg q3]
    · rw [if_neg (show ¬ nI (t + 1) ≤ (20000 : Int32) from nI_ge (a := 20000) (by omega) (by omega)), if_neg q2]
  · rw [if_neg q1, if_neg q1]
theorem Xp_out (E : PE F n k oX oM) (h : PI n k p x t stp a2 a3 a4 a6 b2 b3 b4 b5) (hx : x = cN k) :
    p_X0_choosePaired_L22 F (nI (cN k)) oX (nI n) (nI k) (fx + 1) (nI p) (nI t) (nI stp) a2 a3 a4 a6 =
      if p = 0 then some (0, a2, a3, a4, a6) else (p_X0_takeAway F a2 a3 a6 (nI (p - 1))).bind fun z => p_X0_choosePaired_L22 F (nI (cN k)) oX (nI n) (nI k) fx (nI (p - 1)) (nI t) (nI (stp + 1)) z.1 z.2 a4 a6 := by
  have hst := h.stp_le E.2.2.1
  obtain ⟨E1, E2, E3, E4, E5, E6, E7, E8⟩ := E
  obtain ⟨h1, h2, h3, h4, h5, h6, h7, h8, h9⟩ := h
  have hc := cN_le E5
  have g0 : ¬ (2000000 : Int32) ≤ nI stp := nI_ge (b := 2000000) (by omega) (by decide)
  have g1 : ¬ ixBad (nI p) 24 := ixg (by omega) (by decide)
  have c1 : (nI p).toNatClampNeg = p := nI_clamp (by omega)
  have l1 : ¬ nI x < nI (cN k) := nI_nlt (by omega) (by omega)
  show p_X0_choosePaired_L22b F (nI (cN k)) oX (nI n) (nI k) _ (nI p) (nI t) (nI stp) a2 a3 a4 a6 = _
  unfold p_X0_choosePaired_L22b p_X0_choosePaired_J153
  simp only [g0, g1, c1, h6, l1, ↓reduceIte, nI_1]
  by_cases q : p = 0
  · subst q
    rw [if_pos (show nI 0 = 0 from rfl), if_pos rfl]
  · have e : nI p + (-1) = nI (p - 1) := by
      have := pk_m1 (p - 1)
      rw [show p - 1 + 1 = p by omega] at this
      exact this
    rw [if_neg (nI_ne0 (by omega) (by omega)), if_neg q, e]
theorem Mp_in (E : PE F n k oX oM) (h : PI n k p x t stp a2 a3 a4 a6 b2 b3 b4 b5) (hx : x < cN k) {pv : Nat} (hpv : 0 < p → a6 (p - 1) = nI pv ∧ b2 (p - 1) = nI pv ∧ pv < 256 ∧ pv ≠ 1) (k44 : Int32 → Int32 → (Nat → Int32) → (Nat → Int32) → (Nat → Int32) → (Nat → Int32) → Option (Int32 × Int32 × (Nat → Int32) × (Nat → Int32) × (Nat → Int32) × (Nat → Int32))) :
    p_X11_choosePaired_L78 F (nI (cN k)) oM (nI n) (nI p) k44 (fi + 1) (nI x) (nI t) b2 b3 b4 b5 =
      if a2 (oN k x) = 0 then (if t + 1 ≤ 20000 then (if ftB n p a3 pv (oN k x) = true then (if n ≤ p + 1 then k44 (nI (p + 1)) (nI (t + 1)) (upd b2 p (nI (oN k x))) (upd b3 p (nI x)) (upd b4 (oN k x) 1) (upd (jnP p b5 (pv ^^^ oN k x) 1) (oN k x ^^^ 1) 1)
        else k44 (nI (p + 1)) (nI (t + 1)) (upd b2 p (nI (oN k x))) (upd (upd b3 p (nI x)) (p + 1) (-1)) (upd b4 (oN k x) 1) (jnP p b5 (pv ^^^ oN k x) 1))
        else p_X11_choosePaired_L78 F (nI (cN k)) oM (nI n) (nI p) k44 fi (nI (x + 1)) (nI (t + 1)) b2 b3 b4 b5)
        else some (0, nI (t + 1), b2, b3, b4, b5))
      else p_X11_choosePaired_L78 F (nI (cN k)) oM (nI n) (nI p) k44 fi (nI (x + 1)) (nI t) b2 b3 b4 b5 := by
  obtain ⟨E1, E2, E3, E4, E5, E6, E7, E8⟩ := E
  obtain ⟨h1, h2, h3, h4, h5, h6, h7, h8, h9⟩ := h
  have hlt := oN_lt hx
  have hp8 := pow_le8 E5
  have hc := cN_le E5
  have g1 : ¬ ixBad (nI p) 32 := ixg (by omega) (by decide)
  have c1 : (nI p).toNatClampNeg = p := nI_clamp (by omega)
  have g2 : ¬ ixBad (nI x) 128 := ixg (by omega) (by decide)
  have c2 : (nI x).toNatClampNeg = x := nI_clamp (by omega)
  have ef : ftB n p b5 pv (oN k x) = ftB n p a3 pv (oN k x) := by
    unfold ftB
    rw [(h4 (oN k x ^^^ 1) (xor_256 (by omega) (by decide))).2]
    by_cases q : p = 0
    · simp [q]
    · rw [(h4 (pv ^^^ oN k x) (xor_256 (hpv (by omega)).2.2.1 (by omega))).2]
  show p_X11_choosePaired_L78b F (nI (cN k)) oM (nI n) (nI p) k44 _ (nI x) (nI t) b2 b3 b4 b5 = _
  unfold p_X11_choosePaired_L78b p_X11_choosePaired_J121 p_X11_choosePaired_J184
  rw [if_neg (nI_ge hx (by omega))]
  simp only [g2, c2, E8 x hx, ↓reduceIte]
  rw [M_canTake E3 h1 (by omega) h3 (fun q => (hpv q).2), (h4 (oN k x) (by omega)).1.symm, ef]
  by_cases q1 : a2 (oN k x) = 0
  · rw [if_pos q1, if_pos q1]
    by_cases q2 : t + 1 ≤ 20000
    · rw [if_pos q2, if_pos q2]
      have lt : nI (t + 1) ≤ (20000 : Int32) := nI_le (b := 20000) q2 (by decide)
      simp only [Option.bind_some, lt, ↓reduceIte, nI_1]
      by_cases q3 : ftB n p a3 pv (oN k x) = true
      · rw [if_pos q3, if_neg i32_1_0, if_pos q3, if_neg (by rw [nI_eq (by omega) (by omega)]; omega)]
        simp only [g1, c1, ↓reduceIte]
        rw [M_takeOn h1 E3 (by omega) (fun q => ⟨(hpv q).2.1, (hpv q).2.2.1⟩)]
        simp only [Option.bind_some]
        by_cases q4 : n ≤ p + 1
        · rw [if_pos (nI_le q4 (by omega)), if_pos q4, if_pos (by omega)]
        · have g4 : ¬ ixBad (nI (p + 1)) 32 := ixg (by omega) (by decide)
          have c4 : (nI (p + 1)).toNatClampNeg = p + 1 := nI_clamp (by omega)
          have q5 : ¬ p + 1 = n := by omega
          rw [if_neg (nI_ge (by omega) (by omega)), if_neg q4]
          simp only [g4, c4, q5, ↓reduceIte]
      · rw [if_neg q3, if_pos rfl, if_neg q3]
    · have lt : ¬ nI (t + 1) ≤ (20000 : Int32) := nI_ge (a := 20000) (by omega) (by omega)
      rw [if_neg q2, if_neg q2]
      simp only [Option.bind_some, lt, ↓reduceIte]
  · have lt : nI t ≤ (20000 : Int32) := nI_le (b := 20000) h3 (by decide)
    rw [if_neg q1, if_neg q1]
    simp only [Option.bind_some, lt, ↓reduceIte, nI_1]
theorem Mp_out (E : PE F n k oX oM) (h : PI n k p x t stp a2 a3 a4 a6 b2 b3 b4 b5) (hx : x = cN k) (k44 : Int32 → Int32 → (Nat → Int32) → (Nat → Int32) → (Nat → Int32) → (Nat → Int32) → Option (Int32 × Int32 × (Nat → Int32) × (Nat → Int32) × (Nat → Int32) × (Nat → Int32))) :
    p_X11_choosePaired_L78 F (nI (cN k)) oM (nI n) (nI p) k44 (fi + 1) (nI x) (nI t) b2 b3 b4 b5 = k44 (nI p + (-1)) (nI t) b2 b3 b4 b5 := by
  obtain ⟨E1, E2, E3, E4, E5, E6, E7, E8⟩ := E
  obtain ⟨h1, h2, h3, h4, h5, h6, h7, h8, h9⟩ := h
  have hc := cN_le E5
  show p_X11_choosePaired_L78b F (nI (cN k)) oM (nI n) (nI p) k44 _ (nI x) (nI t) b2 b3 b4 b5 = _
  unfold p_X11_choosePaired_L78b p_X11_choosePaired_J121
  rw [if_pos (nI_le (by omega) (by omega)), if_pos (show nI t ≤ (20000 : Int32) from nI_le (b := 20000) h3 (by decide)), if_pos (by rw [hx])]
end Pai2
