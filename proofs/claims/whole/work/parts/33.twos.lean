/-! queries of threes, fours, twos -/
theorem lone_eq {M : Nat} {v : Nat → Nat} (hv : ∀ q, q < M → v q < 256) : fb_ct (fun x => decide (fb_ct (fun q => decide (v q = x)) M = 1)) 256 = fb_ct (fun p => decide (fb_ct (fun q => decide (v q = v p)) M = 1)) M := by
  rw [← sm_ct, ← sm_ct]
  have e1 : fb_sm (fun x => if decide (fb_ct (fun q => decide (v q = x)) M = 1) = true then 1 else 0) 256 = fb_sm (fun x => fb_sm (fun p => if v p = x then (if fb_ct (fun q => decide (v q = x)) M = 1 then 1 else 0) else 0) M) 256 := fb_sm_cong (fun x _ => by
    by_cases c : fb_ct (fun q => decide (v q = x)) M = 1
    · simp only [c, decide_true, ↓reduceIte]
      have := sm_ct (fun q => decide (v q = x)) M
      rw [c] at this
      refine this.symm.trans (fb_sm_cong (fun p _ => by simp))
    · simp only [c, decide_false, ↓reduceIte, ite_self]
      rw [if_neg (by decide)]
      exact (sm_zero (fun _ _ => rfl)).symm)
  rw [e1, sm_swap]
  refine fb_sm_cong (fun p hp => ?_)
  rw [fb_sm_cong (g := fun x => if x = v p then (if fb_ct (fun q => decide (v q = x)) M = 1 then 1 else 0) else 0) (fun x _ => by
    by_cases c : v p = x
    · rw [if_pos c, if_pos c.symm]
    · rw [if_neg c, if_neg (fun h => c h.symm)]), sm_at _ (hv p hp)]
  by_cases c : fb_ct (fun q => decide (v q = v p)) M = 1
  · simp [c]
  · simp [c]
section Qry8
variable {F b n k g a : Nat} {dat chk : Nat → Int32} {pr : Int32} {col pl prT bits mea stk syn tal al : Nat → Int32} {st : Nat → Option Nat}
theorem CodeOK.Inj (h : CodeOK n k col) : Inj col (n + k) := fun _ _ hp hq e => h.inj hp hq e
theorem m1_iff {N q : Nat} (hN : N ≤ 32) (hq : q < N) : (nI q = -1 ↔ q = N) := ⟨fun h => absurd h (nI_ne_m1 (by omega)), fun h => by omega⟩
theorem lay_all (hF : 1000 < F) (hb : MB b n k dat chk) (hc : CodeOK n k col) (hmc : MC b n k al dat chk col pr) (T : Nat → Int32) : ∃ T', p_X11_layThrees F (nI b) al dat chk T (-1) = some T' ∧ ∀ x, x < 256 → T' x = nI (w3 (n + k) (th col (nI x))) := by
  obtain ⟨T', h1, h2⟩ := M_layThrees hF hb hc hmc T (bI := -1) (but := n + k) (fun q hq => m1_iff hc.hm hq)
  refine ⟨T', h1, fun x hx => ?_⟩
  rw [h2 x hx]
  congr 1
  refine w3_cong (fun i j l h1 h2 h3 => ?_)
  unfold tb th
  rw [if_neg (by omega)]
theorem fo_cols (hc : CodeOK n k col) {T : Nat → Int32} (hT : ∀ x, x < 256 → T x = nI (w3 (n + k) (th col (nI x)))) : fo (fun p a => a + T (col p).toNatClampNeg) (n + k) 0 0 = nI (w3 (n + k) (fun i j l => hit col (n + k) (x3 col i j l))) := by
  have hm := hc.hm
  rw [fo_cong (g' := fun p a => a + nI (w3 (n + k) (th col (col p)))) (n + k) 0 0 (fun p a _ hp => by
    obtain ⟨v, hv, ev⟩ := hc.colB p (by omega)
    rw [ev, nI_clamp (by omega), hT v hv]), fo_sum, ← missed_sum (by omega) hc.Inj]
  show (0 : Int32) + _ = _
  rw [Int32.zero_add, fb_sm_cong (fun t _ => by rw [Nat.zero_add])]
theorem M_missed (hF : 1000 < F) (hb : MB b n k dat chk) (hc : CodeOK n k col) (hmc : MC b n k al dat chk col pr) (T : Nat → Int32) : ∃ T', p_X11_missed F (nI b) al dat chk T = some (nI (w3 (n + k) (fun i j l => hit col (n + k) (x3 col i j l))), T') := by
  have hm := hc.hm
  obtain ⟨T', h1, h2⟩ := lay_all hF hb hc hmc T
  refine ⟨T', ?_⟩
  unfold p_X11_missed
  rw [h1]
  simp only [Option.bind_some]
  have key := fold_loop (fun fuel a i => p_X11_missed_L9 F (nI b) al dat chk fuel a i T') (fun a => some (a, T')) (fun p a => a + T' (col p).toNatClampNeg) (fun _ _ => True) (n + k) (fun fuel i a hi _ => by
    show p_X11_missed_L9b F (nI b) al dat chk _ a (nI i) T' = _
    obtain ⟨v, hv, ev⟩ := hc.colB i hi
    have g : ¬ ixBad (nI v) 256 := ixg hv (by decide)
    unfold p_X11_missed_L9b
    rw [M_places hb.1 hb.2.1 hb.2.2, hmc.col hi]
    simp only [Option.bind_some]
    rw [if_neg (nI_ge hi (by omega)), ev]
    simp only [g, ↓reduceIte, nI_1]) (fun fuel a _ => by
    show p_X11_missed_L9b F (nI b) al dat chk _ a (nI (n + k)) T' = _
    unfold p_X11_missed_L9b
    rw [M_places hb.1 hb.2.1 hb.2.2]
    simp only [Option.bind_some]
    rw [if_pos (nI_le (Nat.le_refl _) (by omega))]) (fun _ _ _ _ => trivial) (n + k) 0 F 0 (by omega) (by omega) trivial
  rw [fo_cols hc h2] at key
  exact key
theorem M_fours (hF : 1000 < F) (hb : MB b n k dat chk) (hc : CodeOK n k col) (hmc : MC b n k al dat chk col pr) (T : Nat → Int32) : ∃ T', p_X11_fours F (nI b) al dat chk T = some (nI (w3 (n + k) (fun i j l => hit col (n + k) (x3 col i j l))) / 4, T') := by
  have hm := hc.hm
  obtain ⟨T', h1, h2⟩ := lay_all hF hb hc hmc T
  refine ⟨T', ?_⟩
  unfold p_X11_fours
  rw [h1]
  simp only [Option.bind_some]
  have key := fold_loop (fun fuel a i => p_X11_fours_L9 F (nI b) al dat chk fuel a i T') (fun a => some (a / 4, T')) (fun p a => a + T' (col p).toNatClampNeg) (fun _ _ => True) (n + k) (fun fuel i a hi _ => by
    show p_X11_fours_L9b F (nI b) al dat chk _ a (nI i) T' = _
    obtain ⟨v, hv, ev⟩ := hc.colB i hi
    have g : ¬ ixBad (nI v) 256 := ixg hv (by decide)
    unfold p_X11_fours_L9b
    rw [M_places hb.1 hb.2.1 hb.2.2, hmc.col hi]
    simp only [Option.bind_some]
    rw [if_neg (nI_ge hi (by omega)), ev]
    simp only [g, ↓reduceIte, nI_1]) (fun fuel a _ => by
    show p_X11_fours_L9b F (nI b) al dat chk _ a (nI (n + k)) T' = _
    unfold p_X11_fours_L9b
    rw [M_places hb.1 hb.2.1 hb.2.2]
    simp only [Option.bind_some]
    rw [if_pos (nI_le (Nat.le_refl _) (by omega))]) (fun _ _ _ _ => trivial) (n + k) 0 F 0 (by omega) (by omega) trivial
  rw [fo_cols hc h2] at key
  exact key
theorem X4_countUnseen (hF : 1000 < F) (hc : CodeOK n k col) (ht : TabOK (n + k) col pl prT) : p_X4_countUnseen F (nI n) (nI k) col pl = some (nI (w3 (n + k) (fun i j l => hit col (n + k) (x3 col i j l))) / 4) := by
  unfold p_X4_countUnseen p_X1_places
  simp only [Option.bind_some, nI_add]
  rw [X4_countMissed hF (Nat.le_refl _) hc.hm hc.colB ht]
  rfl
theorem Q_fours (hF : 1000 < F) (ha : a < 13) (hs : st a = some g) (hb : MB b n k dat chk) (h : SR n k pr col pl prT bits mea stk syn tal al) (T : Nat → Int32) : ∃ r T', p_X10_fours F g (nI a) st (nI n) (nI k) col pl = some r ∧ p_X11_fours F (nI b) al dat chk T = some (r, T') := by
  obtain ⟨h1, hc, ht, ⟨ab, hR⟩, hW, hI⟩ := h
  obtain ⟨T', hM⟩ := M_fours hF hb hc (hR.mc (hc.bc hb)) T
  refine ⟨_, T', ?_, hM⟩
  unfold p_X10_fours
  rw [now_eq ha hs, X4_countUnseen hF hc ht]
  rfl
theorem Q_threes (hF : 1000 < F) (ha : a < 13) (hs : st a = some g) (hb : MB b n k dat chk) (h : SR n k pr col pl prT bits mea stk syn tal al) (T : Nat → Int32) (v : Int32) : ∃ r T', p_X10_threes F g (nI a) st (nI n) (nI k) col pl v = some r ∧ p_X11_threes F (nI b) al dat chk T v = some (r, T') := by
  obtain ⟨h1, hc, ht, ⟨ab, hR⟩, hW, hI⟩ := h
  have hmc := hR.mc (hc.bc hb)
  obtain ⟨T', hM⟩ := M_missed hF hb hc hmc T
  unfold p_X10_threes p_X11_threes p_X1_places p_X10_threesOf
  rw [now_eq ha hs, M_places hb.1 hb.2.1 hb.2.2, hM, M_missedOfData hF hb hmc]
  simp only [Option.bind_some, nI_add]
  rw [X4_countMissed hF (Nat.le_refl _) hc.hm hc.colB ht, X4_countMissed hF (by omega) hc.hm hc.colB ht]
  simp only [Option.bind_some]
  by_cases c0 : v = 0
  · rw [if_pos c0, if_pos c0]; exact ⟨_, _, rfl, rfl⟩
  · by_cases c1 : v = 1
    · rw [if_neg c0, if_neg c0, if_pos c1, if_pos c1]; exact ⟨_, _, rfl, rfl⟩
    · by_cases c2 : v = 2
      · rw [if_neg c0, if_neg c0, if_neg c1, if_neg c1, if_pos c2, if_pos c2]; exact ⟨_, _, rfl, rfl⟩
      · rw [if_neg c0, if_neg c0, if_neg c1, if_neg c1, if_neg c2, if_neg c2]; exact ⟨_, _, rfl, rfl⟩
/-! mistaken twos -/
def pit (col : Nat → Int32) (m : Nat) (x : Int32) : Int32 := if prc col m x = -1 then 0 else 1
def mk2 (col : Nat → Int32) (m N : Nat) : Int32 := fo (fun i a => fo (fun j a => a + pit col m (col i ^^^ col j)) (N - (i + 2)) (i + 2) a) N 0 0
theorem X4_countMistaken (hF : 1000 < F) (hc : CodeOK n k col) (ht : TabOK (n + k) col pl prT) (hpr : pr = 0 ∨ pr = 1) : p_X4_countMistaken F (nI n) (nI k) pr col prT = some (if pr = 1 then mk2 col (n + k) (n + k) else 0) := by
  have hm := hc.hm
  have key : ∀ N, N ≤ n + k → p_X4_countMistaken_L21 F (nI n) (nI k) pr col prT (nI N) F 0 0 = some (mk2 col (n + k) N) := by
    intro N hN
    have inner : ∀ (i : Nat) (k21 : Int32 → Int32 → Option Int32) (u : Int32), i < N → p_X4_countMistaken_L33 F (nI n) (nI k) pr col prT (nI N) (nI i) k21 F u (nI (i + 2)) = k21 (fo (fun j a => a + pit col (n + k) (col i ^^^ col j)) (N - (i + 2)) (i + 2) u) (nI (i + 1)) := by
      intro i k21 u hi
      by_cases h2 : i + 2 ≤ N
      · exact fold_loop (fun fuel a j => p_X4_countMistaken_L33 F (nI n) (nI k) pr col prT (nI N) (nI i) k21 fuel a j) (fun a => k21 a (nI (i + 1))) (fun j a => a + pit col (n + k) (col i ^^^ col j)) (fun _ _ => True) N (fun fuel j a hj _ => by
          show p_X4_countMistaken_L33b F (nI n) (nI k) pr col prT (nI N) (nI i) k21 _ a (nI j) = _
          have g : ¬ ixBad (nI j) 32 := ixg (by omega) (by decide)
          have c : (nI j).toNatClampNeg = j := nI_clamp (by omega)
          have g2 : ¬ ixBad (nI i) 32 := ixg (by omega) (by decide)
          have c2 : (nI i).toNatClampNeg = i := nI_clamp (by omega)
          unfold p_X4_countMistaken_L33b p_X4_countMistaken_J68
          rw [if_neg (nI_ge hj (by omega))]
          simp only [g, c, g2, c2, ↓reduceIte]
          rw [X1_pairWith hc.colB ht]
          simp only [Option.bind_some, nI_1, pit]
          by_cases e : prc col (n + k) (col i ^^^ col j) = -1
          · rw [if_pos e, if_pos e]
          · rw [if_neg e, if_neg e]) (fun fuel a _ => by
          show p_X4_countMistaken_L33b F (nI n) (nI k) pr col prT (nI N) (nI i) k21 _ a (nI N) = _
          unfold p_X4_countMistaken_L33b
          rw [if_pos (nI_le (Nat.le_refl _) (by omega)), nI_1]) (fun _ _ _ _ => trivial) (N - (i + 2)) (i + 2) F u (by omega) (by omega) trivial
      · cases F with
        | zero => exact absurd hF (by omega)
        | succ F' =>
          show p_X4_countMistaken_L33b (F' + 1) (nI n) (nI k) pr col prT (nI N) (nI i) k21 _ u (nI (i + 2)) = _
          unfold p_X4_countMistaken_L33b
          rw [if_pos (nI_le (by omega) (by omega)), nI_1, show N - (i + 2) = 0 by omega]
          rfl
    exact fold_loop (fun fuel a i => p_X4_countMistaken_L21 F (nI n) (nI k) pr col prT (nI N) fuel a i) some (fun i a => fo (fun j a => a + pit col (n + k) (col i ^^^ col j)) (N - (i + 2)) (i + 2) a) (fun _ _ => True) N (fun fuel i a hi _ => by
      show p_X4_countMistaken_L21b F (nI n) (nI k) pr col prT (nI N) _ a (nI i) = _
      unfold p_X4_countMistaken_L21b
      rw [if_neg (nI_ge hi (by omega)), show nI i + 2 = nI (i + 2) from nI_add i 2]
      exact inner i _ a hi) (fun fuel a _ => by
      show p_X4_countMistaken_L21b F (nI n) (nI k) pr col prT (nI N) _ a (nI N) = _
      unfold p_X4_countMistaken_L21b
      rw [if_pos (nI_le (Nat.le_refl _) (by omega))]) (fun _ _ _ _ => trivial) N 0 F 0 (by omega) (by omega) trivial
  unfold p_X4_countMistaken p_X1_places p_X4_countMistaken_J17
  simp only [Option.bind_some, nI_add]
  rcases hpr with rfl | rfl
  · rw [if_pos rfl, if_neg (by decide)]
    exact key 0 (by omega)
  · rw [if_neg (by decide), if_pos rfl]
    exact key (n + k) (Nat.le_refl _)
theorem M_mistaken (hF : 1000 < F) (hb : MB b n k dat chk) (hc : CodeOK n k col) (hmc : MC b n k al dat chk col pr) : p_X11_mistaken F (nI b) al dat chk = some (if pr = 1 then mk2 col (n + k) (n + k) else 0) := by
  have hm := hc.hm
  have inner : ∀ (i : Nat) (k21 : Int32 → Int32 → Option Int32) (u : Int32), i < n + k → p_X11_mistaken_L16 F (nI b) al dat chk (nI i) k21 F u (nI (i + 2)) = k21 (fo (fun j a => a + pit col (n + k) (col i ^^^ col j)) ((n + k) - (i + 2)) (i + 2) u) (nI (i + 1)) := by
    intro i k21 u hi
    by_cases h2 : i + 2 ≤ n + k
    · exact fold_loop (fun fuel a j => p_X11_mistaken_L16 F (nI b) al dat chk (nI i) k21 fuel a j) (fun a => k21 a (nI (i + 1))) (fun j a => a + pit col (n + k) (col i ^^^ col j)) (fun _ _ => True) (n + k) (fun fuel j a hj _ => by
        show p_X11_mistaken_L16b F (nI b) al dat chk (nI i) k21 _ a (nI j) = _
        unfold p_X11_mistaken_L16b p_X11_mistaken_J48
        rw [M_places hb.1 hb.2.1 hb.2.2, hmc.col hi, hmc.col hj]
        simp only [Option.bind_some]
        rw [if_neg (nI_ge hj (by omega)), hmc.pair (by omega)]
        simp only [Option.bind_some, nI_1, pit]
        rcases prc_cases col (n + k) (col i ^^^ col j) with ⟨q, hq, _, e⟩ | e
        · rw [e, if_neg (nI_pos (by omega)), if_neg (nI_ne_m1 (by omega))]
        · rw [e, if_pos (by decide), if_pos rfl]) (fun fuel a _ => by
        show p_X11_mistaken_L16b F (nI b) al dat chk (nI i) k21 _ a (nI (n + k)) = _
        unfold p_X11_mistaken_L16b
        rw [M_places hb.1 hb.2.1 hb.2.2]
        simp only [Option.bind_some]
        rw [if_pos (nI_le (Nat.le_refl _) (by omega)), nI_1]) (fun _ _ _ _ => trivial) ((n + k) - (i + 2)) (i + 2) F u (by omega) (by omega) trivial
    · cases F with
      | zero => exact absurd hF (by omega)
      | succ F' =>
        show p_X11_mistaken_L16b (F' + 1) (nI b) al dat chk (nI i) k21 _ u (nI (i + 2)) = _
        unfold p_X11_mistaken_L16b
        rw [M_places hb.1 hb.2.1 hb.2.2]
        simp only [Option.bind_some]
        rw [if_pos (nI_le (by omega) (by omega)), nI_1, show (n + k) - (i + 2) = 0 by omega]
        rfl
  have e32 : al (Int32.toNatClampNeg 32) = pr := hmc.2.2.2.2.2.2.2.2.1
  exact fold_loop (fun fuel a i => p_X11_mistaken_L4 F (nI b) al dat chk fuel a i) (fun a => some (if pr = 1 then a else 0)) (fun i a => fo (fun j a => a + pit col (n + k) (col i ^^^ col j)) ((n + k) - (i + 2)) (i + 2) a) (fun _ _ => True) (n + k) (fun fuel i a hi _ => by
    show p_X11_mistaken_L4b F (nI b) al dat chk _ a (nI i) = _
    unfold p_X11_mistaken_L4b
    rw [M_places hb.1 hb.2.1 hb.2.2]
    simp only [Option.bind_some]
    rw [if_neg (nI_ge hi (by omega)), show nI i + 2 = nI (i + 2) from nI_add i 2]
    exact inner i _ a hi) (fun fuel a _ => by
    show p_X11_mistaken_L4b F (nI b) al dat chk _ a (nI (n + k)) = _
    unfold p_X11_mistaken_L4b
    rw [M_places hb.1 hb.2.1 hb.2.2]
    simp only [Option.bind_some]
    rw [if_pos (nI_le (Nat.le_refl _) (by omega)), e32, ite_some]) (fun _ _ _ _ => trivial) (n + k) 0 F 0 (by omega) (by omega) trivial
/-! XORs that stand alone -/
def sd2 (col : Nat → Int32) (q : Nat) : Int32 := col q ^^^ col (q + 1)
theorem ColB.sd {m q : Nat} (h : ColB m col) (hq : q + 1 < m) : ∃ v, v < 256 ∧ sd2 col q = nI v := by
  obtain ⟨a, ha, ea⟩ := h q (by omega)
  obtain ⟨b, hb, eb⟩ := h (q + 1) hq
  exact ⟨a ^^^ b, xor_256 ha hb, by unfold sd2; rw [ea, eb, nI_xor]⟩
def loN (col : Nat → Int32) (M : Nat) : Nat := fb_ct (fun p => decide (fb_ct (fun q => decide (sd2 col q = sd2 col p)) M = 1)) M
theorem M_alone (hF : 1000 < F) (hb : MB b n k dat chk) (hc : CodeOK n k col) (hmc : MC b n k al dat chk col pr) : p_X11_aloneMany F (nI b) al dat chk = some (nI (loN col (n + k - 1))) := by
  have hm := hc.hm
  have h4 := hc.1
  have hsd : ∀ q, q + 1 < n + k → p_X11_sideBySide F al (nI q) = some (sd2 col q) := by
    intro q hq
    unfold p_X11_sideBySide
    rw [hmc.col (by omega), nI_1, hmc.col hq]
    rfl
  have inner : ∀ (p : Nat) (u : Int32) (k4 : Int32 → Int32 → Option Int32), p + 1 < n + k → p_X11_aloneMany_L19 F (nI b) al dat chk u (nI p) k4 F 0 0 = k4 (u + (if decide (fb_ct (fun q => decide (sd2 col q = sd2 col p)) (n + k - 1) = 1) = true then 1 else 0)) (nI (p + 1)) := by
    intro p u k4 hp
    have key := fold_loop (fun fuel a j => p_X11_aloneMany_L19 F (nI b) al dat chk u (nI p) k4 fuel a j) (fun a => k4 (u + (if a = 1 then 1 else 0)) (nI (p + 1))) (fun q a => a + (if decide (sd2 col q = sd2 col p) = true then 1 else 0)) (fun _ _ => True) (n + k - 1) (fun fuel q a hq _ => by
      show p_X11_aloneMany_L19b F (nI b) al dat chk u (nI p) k4 _ a (nI q) = _
      unfold p_X11_aloneMany_L19b p_X11_aloneMany_J50
      rw [M_places hb.1 hb.2.1 hb.2.2, hsd q (by omega), hsd p hp, nI_1]
      simp only [Option.bind_some]
      rw [if_neg (nI_ge (by omega) (by omega))]
      by_cases e : sd2 col q = sd2 col p
      · simp [e]
      · simp [e]) (fun fuel a _ => by
      show p_X11_aloneMany_L19b F (nI b) al dat chk u (nI p) k4 _ a (nI (n + k - 1)) = _
      unfold p_X11_aloneMany_L19b p_X11_aloneMany_J69
      rw [M_places hb.1 hb.2.1 hb.2.2, nI_1]
      simp only [Option.bind_some]
      rw [if_pos (nI_le (by omega) (by omega)), nI_1]
      by_cases e : a = 1
      · simp only [e, ↓reduceIte]
      · simp only [e, ↓reduceIte]) (fun _ _ _ _ => trivial) (n + k - 1) 0 F (nI 0) (by omega) (by omega) trivial
    rw [ct_fold] at key
    have hle := fb_ct_le (fun q => decide (sd2 col q = sd2 col p)) (n + k - 1)
    have e1 : (nI (fb_ct (fun q => decide (sd2 col q = sd2 col p)) (n + k - 1)) = 1) ↔ fb_ct (fun q => decide (sd2 col q = sd2 col p)) (n + k - 1) = 1 := nI_eq (b := 1) (by omega) (by decide)
    simp only [e1] at key
    refine Eq.trans key ?_
    simp only [decide_eq_true_eq]
  have key := fold_loop (fun fuel a p => p_X11_aloneMany_L4 F (nI b) al dat chk fuel a p) some (fun p a => a + (if decide (fb_ct (fun q => decide (sd2 col q = sd2 col p)) (n + k - 1) = 1) = true then 1 else 0)) (fun _ _ => True) (n + k - 1) (fun fuel p a hp _ => by
      show p_X11_aloneMany_L4b F (nI b) al dat chk _ a (nI p) = _
      unfold p_X11_aloneMany_L4b
      rw [M_places hb.1 hb.2.1 hb.2.2, nI_1]
      simp only [Option.bind_some]
      rw [if_neg (nI_ge (by omega) (by omega))]
      exact inner p a _ (by omega)) (fun fuel a _ => by
      show p_X11_aloneMany_L4b F (nI b) al dat chk _ a (nI (n + k - 1)) = _
      unfold p_X11_aloneMany_L4b
      rw [M_places hb.1 hb.2.1 hb.2.2, nI_1]
      simp only [Option.bind_some]
      rw [if_pos (nI_le (by omega) (by omega))]) (fun _ _ _ _ => trivial) (n + k - 1) 0 F (nI 0) (by omega) (by omega) trivial
  rw [ct_fold] at key
  exact key
theorem X4_lone (hF : 1000 < F) (hc : CodeOK n k col) (T : Nat → Int32) : ∃ T', p_X4_countLoneXors F T (nI n) (nI k) col = some (nI (loN col (n + k - 1)), T') := by
  have hm := hc.hm
  have h4 := hc.1
  have hB := hc.colB
  let g := fun (p : Nat) (a : Nat → Int32) => bump (sd2 col (p - 1)).toNatClampNeg a
  have key : ∀ a0 : Nat → Int32, p_X4_countLoneXors_L10 F (nI n) (nI k) col F (nI 1) a0 = p_X4_countLoneXors_L52 F (nI n) (nI k) col F 0 0 (fo g (n + k - 1) 1 a0) := fun a0 =>
    fold_loop (fun fuel a p => p_X4_countLoneXors_L10 F (nI n) (nI k) col fuel p a) (fun a => p_X4_countLoneXors_L52 F (nI n) (nI k) col F 0 0 a) g (fun i _ => 1 ≤ i) (n + k) (fun fuel p a hp h1 => by
      show p_X4_countLoneXors_L10b F (nI n) (nI k) col _ (nI p) a = _
      obtain ⟨v, hv, ev⟩ := hB.sd (q := p - 1) (by omega)
      have ep : nI p - 1 = nI (p - 1) := by have := nI_pred (p - 1); rwa [show p - 1 + 1 = p by omega] at this
      have g1 : ¬ ixBad (nI p) 32 := ixg (by omega) (by decide)
      have g2 : ¬ ixBad (nI (p - 1)) 32 := ixg (by omega) (by decide)
      have c1 : (nI p).toNatClampNeg = p := nI_clamp (by omega)
      have c2 : (nI (p - 1)).toNatClampNeg = p - 1 := nI_clamp (by omega)
      have g3 : ¬ ixBad (nI v) 256 := ixg hv (by decide)
      have ev' : col (p - 1) ^^^ col p = nI v := by have := ev; unfold sd2 at this; rwa [show p - 1 + 1 = p by omega] at this
      unfold p_X4_countLoneXors_L10b p_X1_places
      simp only [Option.bind_some, nI_add]
      rw [if_neg (nI_ge hp (by omega))]
      simp only [ep, g1, g2, c1, c2, ev', g3, ↓reduceIte, nI_1]
      show _ = p_X4_countLoneXors_L10 F (nI n) (nI k) col fuel (nI (p + 1)) (bump (sd2 col (p - 1)).toNatClampNeg a)
      rw [ev]
      rfl) (fun fuel a _ => by
      show p_X4_countLoneXors_L10b F (nI n) (nI k) col _ (nI (n + k)) a = _
      unfold p_X4_countLoneXors_L10b p_X1_places
      simp only [Option.bind_some, nI_add]
      rw [if_pos (nI_le (Nat.le_refl _) (by omega))]) (fun i _ _ h => by omega) (n + k - 1) 1 F a0 (by omega) (by omega) (Nat.le_refl 1)
  have hv : ∃ v : Nat → Nat, ∀ q, q < n + k - 1 → v q < 256 ∧ sd2 col q = nI (v q) := by
    refine ⟨fun q => (sd2 col q).toNatClampNeg, fun q hq => ?_⟩
    obtain ⟨v, hv, ev⟩ := hB.sd (q := q) (by omega)
    show (sd2 col q).toNatClampNeg < 256 ∧ sd2 col q = nI (sd2 col q).toNatClampNeg
    rw [ev, nI_clamp (by omega)]
    exact ⟨hv, rfl⟩
  obtain ⟨v, hv⟩ := hv
  have hist : ∀ (d : Nat), d ≤ n + k - 1 → ∀ (a0 : Nat → Int32) (x : Nat), x < 256 → fo g d 1 a0 x = a0 x + nI (fb_ct (fun q => decide (v q = x)) d) := by
    intro d
    induction d with
    | zero => intro _ a0 x _; exact (Int32.add_zero _).symm
    | succ d ih =>
      intro hd a0 x hx
      rw [fo_succ]
      show bump (sd2 col (1 + d - 1)).toNatClampNeg (fo g d 1 a0) x = _
      rw [bump_at, ih (by omega) a0 x hx, show 1 + d - 1 = d by omega, (hv d (by omega)).2, nI_clamp (by have := (hv d (by omega)).1; omega), fb_ct_succ, ← nI_add, Int32.add_assoc]
      congr 3
      by_cases e : v d = x
      · simp [e]
      · simp [e]
  unfold p_X4_countLoneXors
  rw [fill_eq F 256 T 0 (by decide) (by omega)]
  simp only [Option.bind_some]
  refine ⟨fo g (n + k - 1) 1 (fun j => if j < 256 then 0 else T j), ?_⟩
  rw [show p_X4_countLoneXors_L10 F (nI n) (nI k) col F 1 (fun j => if j < 256 then 0 else T j) = _ from key _]
  have hh : ∀ x, x < 256 → fo g (n + k - 1) 1 (fun j => if j < 256 then 0 else T j) x = nI (fb_ct (fun q => decide (v q = x)) (n + k - 1)) := fun x hx => by
    rw [hist (n + k - 1) (Nat.le_refl _) _ x hx]
    simp only [hx, ↓reduceIte]
    exact Int32.zero_add _
  generalize fo g (n + k - 1) 1 (fun j => if j < 256 then 0 else T j) = H at hh
  have fin := fold_loop (fun fuel a x => p_X4_countLoneXors_L52 F (nI n) (nI k) col fuel a x H) (fun a => some (a, H)) (fun x a => a + (if decide (fb_ct (fun q => decide (v q = x)) (n + k - 1) = 1) = true then 1 else 0)) (fun _ _ => True) 256 (fun fuel x a hx _ => by
    show p_X4_countLoneXors_L52b F (nI n) (nI k) col _ a (nI x) H = _
    have g1 : ¬ ixBad (nI x) 256 := ixg hx (by decide)
    have c1 : (nI x).toNatClampNeg = x := nI_clamp (by omega)
    have hle := fb_ct_le (fun q => decide (v q = x)) (n + k - 1)
    have e1 : (nI (fb_ct (fun q => decide (v q = x)) (n + k - 1)) = 1) ↔ fb_ct (fun q => decide (v q = x)) (n + k - 1) = 1 := nI_eq (b := 1) (by omega) (by decide)
    unfold p_X4_countLoneXors_L52b p_X4_countLoneXors_J75
    rw [if_neg (show ¬ (256 : Int32) ≤ nI x from nI_ge (b := 256) hx (by decide))]
    simp only [g1, c1, ↓reduceIte, hh x hx, e1, nI_1, decide_eq_true_eq]
    by_cases e : fb_ct (fun q => decide (v q = x)) (n + k - 1) = 1
    · rw [if_pos e, if_pos e]
    · rw [if_neg e, if_neg e]) (fun fuel a _ => rfl) (fun _ _ _ _ => trivial) 256 0 F (nI 0) (by omega) (by omega) trivial
  rw [ct_fold, lone_eq (fun q hq => (hv q hq).1)] at fin
  refine Eq.trans fin ?_
  congr 3
  refine fb_ct_cong (fun p hp => ?_)
  congr 2
  refine fb_ct_cong (fun q hq => ?_)
  rw [(hv q hq).2, (hv p hp).2]
  have := (hv q hq).1
  have := (hv p hp).1
  simp only [nI_eq (show v q < 2 ^ 31 by omega) (show v p < 2 ^ 31 by omega)]
theorem Q_twos (hF : 1000 < F) (ha : a < 13) (hs : st a = some g) (hb : MB b n k dat chk) (h : SR n k pr col pl prT bits mea stk syn tal al) (T : Nat → Int32) (v : Int32) : ∃ r T', p_X10_twos F g (nI a) st T (nI n) (nI k) pr col prT v = some (r, T') ∧ p_X11_twos F (nI b) al dat chk v = some r := by
  obtain ⟨h1, hc, ht, ⟨ab, hR⟩, hW, hI⟩ := h
  have hmc := hR.mc (hc.bc hb)
  obtain ⟨T', hL⟩ := X4_lone hF hc T
  unfold p_X10_twos p_X11_twos p_X1_places
  rw [now_eq ha hs, M_places hb.1 hb.2.1 hb.2.2, hL, X4_countMistaken hF hc ht h1, M_mistaken hF hb hc hmc, M_alone hF hb hc hmc]
  simp only [Option.bind_some, nI_add]
  by_cases c0 : v = 0
  · rw [if_pos c0, if_pos c0]; exact ⟨_, _, rfl, rfl⟩
  · by_cases c1 : v = 1
    · rw [if_neg c0, if_neg c0, if_pos c1, if_pos c1]; exact ⟨_, _, rfl, rfl⟩
    · by_cases c2 : v = 2
      · rw [if_neg c0, if_neg c0, if_neg c1, if_neg c1, if_pos c2, if_pos c2]
        by_cases c3 : nI (loN col (n + k - 1)) = nI (n + k) - 1
        · rw [if_pos c3, if_pos c3]; exact ⟨_, _, rfl, rfl⟩
        · rw [if_neg c3, if_neg c3]; exact ⟨_, _, rfl, rfl⟩
      · rw [if_neg c0, if_neg c0, if_neg c1, if_neg c1, if_neg c2, if_neg c2]; exact ⟨_, _, rfl, rfl⟩
end Qry8
