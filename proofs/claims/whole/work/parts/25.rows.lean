/-! wires of rows, how deep their gates are -/
def wrN (col : Nat → Int32) (n r : Nat) : Nat := fb_ct (fun p => bt (col p) r) n
theorem jlet_eq {α β : Type} (e : α) (k : α → β) : jlet e k = k e := rfl
theorem X1_wires {F n r : Nat} {col : Nat → Int32} (hF : 40 < F) (hn : n ≤ 32) (hr : r < 32) : p_X1_wiresOf F (nI n) col (nI r) = some (nI (wrN col n r)) := by
  have key := fold_loop (fun fuel a i => p_X1_wiresOf_L4 F (nI n) col (nI r) fuel a i) some (fun p a => a + (if bt (col p) r = true then 1 else 0)) (fun _ _ => True) n (fun fuel i a hi _ => by
      show p_X1_wiresOf_L4b F (nI n) col (nI r) _ a (nI i) = _
      have g : ¬ ixBad (nI i) 32 := ixg (by omega) (by decide)
      have c : (nI i).toNatClampNeg = i := nI_clamp (by omega)
      unfold p_X1_wiresOf_L4b
      rw [if_neg (nI_ge hi (by omega))]
      simp only [g, c, ↓reduceIte, jlet_eq, nI_1]
      rw [bit1u _ hr]) (fun fuel a _ => by
      show p_X1_wiresOf_L4b F (nI n) col (nI r) _ a (nI n) = _
      unfold p_X1_wiresOf_L4b
      rw [if_pos (nI_le (Nat.le_refl _) (by omega))]) (fun _ _ _ _ => trivial) n 0 F 0 (by omega) (by omega) trivial
  exact key.trans (congrArg some (ct_fold n))
theorem MC.wires {F b n k r : Nat} {all dat chk col : Nat → Int32} {pr : Int32} (hF : 40 < F) (h : MC b n k all dat chk col pr) (hr : r < 32) : p_X11_wiresOf F (nI b) all dat (nI r) = some (nI (wrN col n r)) := by
  have hc := fun i (hi : i < n + k) => h.col (F := F) hi
  obtain ⟨hb, hd, hk, n1, n2, k1, k2, _⟩ := h
  have key := fold_loop (fun fuel a i => p_X11_wiresOf_L4 F (nI b) all dat (nI r) fuel a i) some (fun p a => a + (if bt (col p) r = true then 1 else 0)) (fun _ _ => True) n (fun fuel i a hi _ => by
      show p_X11_wiresOf_L4b F (nI b) all dat (nI r) _ a (nI i) = _
      unfold p_X11_wiresOf_L4b
      rw [M_data hb hd, hc i (by omega)]
      simp only [Option.bind_some, jlet_eq, nI_1]
      rw [if_neg (nI_ge hi (by omega)), bit1s _ hr]) (fun fuel a _ => by
      show p_X11_wiresOf_L4b F (nI b) all dat (nI r) _ a (nI n) = _
      unfold p_X11_wiresOf_L4b
      rw [M_data hb hd]
      simp only [Option.bind_some]
      rw [if_pos (nI_le (Nat.le_refl _) (by omega))]) (fun _ _ _ _ => trivial) n 0 F 0 (by omega) (by omega) trivial
  exact key.trans (congrArg some (ct_fold n))
theorem wrN_le (col : Nat → Int32) (n r : Nat) : wrN col n r ≤ n := fb_ct_le _ _
/-- how deep gates of w wires are -/
def dg (w : Nat) : Nat := fa_first (fun d => decide (w ≤ 2 ^ d)) 6
def dgI (w : Nat) : Int32 := if w = 0 then -1 else nI (dg w)
theorem dg_spec : ∀ w, w ≤ 32 → dg w < 6 ∧ w ≤ 2 ^ dg w ∧ ∀ e, e < dg w → ¬ w ≤ 2 ^ e := by decide +kernel
theorem X10_depth {F w : Nat} (hF : 40 < F) (hw : w ≤ 32) : p_X10_depthOfGates F (nI w) = some (dgI w) := by
  obtain ⟨h6, hle, hno⟩ := dg_spec w hw
  have key : ∀ (e d fuel : Nat), d + e = dg w → e < fuel → p_X10_depthOfGates_L11 F (nI w) fuel (nI d) (nI (2 ^ d)) = some (nI (dg w)) := by
    intro e
    induction e with
    | zero =>
      intro d fuel hd hf
      cases fuel with
      | zero => exact absurd hf (by omega)
      | succ fuel =>
        have hd : d = dg w := by omega
        show p_X10_depthOfGates_L11b F (nI w) _ (nI d) (nI (2 ^ d)) = _
        unfold p_X10_depthOfGates_L11b
        have h2 : 2 ^ d ≤ 2 ^ 5 := Nat.pow_le_pow_right (by decide) (by omega)
        rw [if_pos (nI_le (by rw [hd]; exact hle) (by omega)), hd]
    | succ e ih =>
      intro d fuel hd hf
      cases fuel with
      | zero => exact absurd hf (by omega)
      | succ fuel =>
        show p_X10_depthOfGates_L11b F (nI w) _ (nI d) (nI (2 ^ d)) = _
        unfold p_X10_depthOfGates_L11b
        have h2 : 2 ^ d ≤ 2 ^ 5 := Nat.pow_le_pow_right (by decide) (by omega)
        have h3 := hno d (by omega)
        rw [if_neg (nI_ge (by omega) (by omega)), if_neg (show ¬ (32 : Int32) ≤ nI d from nI_ge (b := 32) (by omega) (by decide)), nI_1, show (2 : Int32) = nI 2 from rfl, pk_mul, show 2 ^ d * 2 = 2 ^ (d + 1) from (Nat.pow_succ 2 d).symm]
        exact ih (d + 1) fuel (by omega) (by omega)
  unfold p_X10_depthOfGates dgI
  by_cases h0 : w = 0
  · subst h0
    rw [if_neg (by decide), if_pos rfl]
  · rw [if_pos (show (1 : Int32) ≤ nI w from nI_le (a := 1) (by omega) (by omega)), if_neg h0]
    exact key (dg w) 0 F (by omega) (by omega)
theorem MC.deep {F b n k r : Nat} {all dat chk col : Nat → Int32} {pr : Int32} (hF : 40 < F) (h : MC b n k all dat chk col pr) (hr : r < 32) : p_X11_deepOf F (nI b) all dat (nI r) = some (dgI (wrN col n r)) := by
  have hw := wrN_le col n r
  have hn : n ≤ 24 := h.2.2.2.2.1
  unfold p_X11_deepOf
  rw [h.wires hF hr]
  simp only [Option.bind_some]
  generalize wrN col n r = w at hw
  obtain ⟨h6, hle, hno⟩ := dg_spec w (by omega)
  have key : ∀ (e d fuel : Nat), d + e = dg w → e < fuel → p_X11_deepOf_L8 F (nI b) all dat (nI w) fuel (nI d) = some (dgI w) := by
    intro e
    induction e with
    | zero =>
      intro d fuel hd hf
      cases fuel with
      | zero => exact absurd hf (by omega)
      | succ fuel =>
        have hd : d = dg w := by omega
        show p_X11_deepOf_L8b F (nI b) all dat (nI w) _ (nI d) = _
        unfold p_X11_deepOf_L8b
        have h2 : 2 ^ d ≤ 2 ^ 5 := Nat.pow_le_pow_right (by decide) (by omega)
        rw [show (1 : Int32) <<< (nI d &&& 31) = nI (2 ^ d) from oh_val d (by omega), if_pos (nI_le (by rw [hd]; exact hle) (by omega)), hd]
        unfold dgI
        by_cases h0 : w = 0
        · rw [if_pos (by rw [h0]; rfl), if_pos h0]
        · rw [if_neg (nI_ne0 (by omega) (by omega)), if_neg h0]
    | succ e ih =>
      intro d fuel hd hf
      cases fuel with
      | zero => exact absurd hf (by omega)
      | succ fuel =>
        show p_X11_deepOf_L8b F (nI b) all dat (nI w) _ (nI d) = _
        unfold p_X11_deepOf_L8b
        have h2 : 2 ^ d ≤ 2 ^ 5 := Nat.pow_le_pow_right (by decide) (by omega)
        have h3 := hno d (by omega)
        rw [show (1 : Int32) <<< (nI d &&& 31) = nI (2 ^ d) from oh_val d (by omega), if_neg (nI_ge (by omega) (by omega)), nI_1]
        exact ih (d + 1) fuel (by omega) (by omega)
  exact key (dg w) 0 F (by omega) (by omega)
section Qry2
variable {F b n k g a : Nat} {dat chk : Nat → Int32} {pr : Int32} {col pl prT bits mea stk syn tal al : Nat → Int32} {st : Nat → Option Nat}
theorem Q_row (hF : 40 < F) (ha : a < 13) (hs : st a = some g) (hb : MB b n k dat chk) (h : SR n k pr col pl prT bits mea stk syn tal al) (v w : Int32) : ∃ r, p_X10_row F g (nI a) st (nI n) (nI k) col v w = some r ∧ p_X11_row F (nI b) al dat chk v w = some r := by
  obtain ⟨h1, hc, ht, ⟨ab, hR⟩, hW, hI⟩ := h
  have hmc := hR.mc (hc.bc hb)
  have hk8 := hc.2.2.2.1
  have hk4 := hc.2.2.1
  have hn := hc.2.1
  unfold p_X10_row p_X11_row
  rw [now_eq ha hs, M_chk hb.1 hb.2.2]
  simp only [Option.bind_some]
  rcases rng v (N := k) (by omega) with ⟨j, hj, rfl⟩ | ho
  · have hw := wrN_le col n j
    rw [if_neg (nI_pos (by omega)), if_pos (nI_lt hj (by omega)), isIn_in hj (by omega), X1_wires hF (by omega) (by omega), hmc.wires hF (by omega), hmc.deep hF (by omega)]
    simp only [Option.bind_some, X10_depth hF (show wrN col n j ≤ 32 by omega), ite_some]
    exact ⟨_, rfl, rfl⟩
  · rw [isIn_out (by omega) (by omega) ho]
    by_cases h1 : v < 0
    · rw [if_pos h1]; exact ⟨-1, rfl, rfl⟩
    · have h2 := out_neg ho h1
      rw [if_neg h1, if_neg (fun q => by rw [fa_le] at h2; rw [fa_lt] at q; omega)]; exact ⟨-1, rfl, rfl⟩
theorem deep_max : ∀ x, x ≤ 24 → ∀ y, y ≤ 24 → (if dgI x ≤ dgI y then dgI y else dgI x) = dgI (max x y) := by decide +kernel
theorem nI_maxL {x y : Nat} (hx : x < 1000) (hy : y < 1000) : (if nI x < nI y then nI y else nI x) = nI (max x y) := by
  by_cases h : x < y
  · rw [if_pos (nI_lt h (by omega)), Nat.max_eq_right (by omega)]
  · rw [if_neg (nI_nlt (by omega) (by omega)), Nat.max_eq_left (by omega)]
theorem nI_maxM {x y : Nat} (hx : x < 1000) (hy : y < 1000) : (if nI x ≤ nI y then nI y else nI x) = nI (max x y) := by
  by_cases h : x ≤ y
  · rw [if_pos (nI_le h (by omega)), Nat.max_eq_right h]
  · rw [if_neg (nI_ge (by omega) (by omega)), Nat.max_eq_left (by omega)]
theorem nI_minL {x y : Nat} (hx : x < 1000) (hy : y < 1000) : (if nI y < nI x then nI y else nI x) = nI (min x y) := by
  by_cases h : y < x
  · rw [if_pos (nI_lt h (by omega)), Nat.min_eq_right (by omega)]
  · rw [if_neg (nI_nlt (by omega) (by omega)), Nat.min_eq_left (by omega)]
theorem nI_minM {x y : Nat} (hx : x < 2 ^ 30) (hy : y < 2 ^ 30) : (if nI y ≤ nI x then nI y else nI x) = nI (min x y) := by
  by_cases h : y ≤ x
  · rw [if_pos (nI_le h (by omega)), Nat.min_eq_right h]
  · rw [if_neg (nI_ge (by omega) (by omega)), Nat.min_eq_left (by omega)]
/-- sum, most, least -/
def rwS (col : Nat → Int32) (n : Nat) (r : Nat) (z : Nat × Nat × Nat) : Nat × Nat × Nat := (z.1 + wrN col n r, max z.2.1 (wrN col n r), min z.2.2 (wrN col n r))
def rwR (w : Int32) (z : Nat × Nat × Nat) : Int32 := if w = 0 then nI z.1 else if w = 1 then nI z.2.1 - nI z.2.2 else dgI z.2.1
theorem X10_rows_loop (hF : 40 < F) (hn : n ≤ 24) (hk : k ≤ 8) (w : Int32) : ∀ (d i fuel : Nat) (z : Nat × Nat × Nat), i + d = k → d < fuel → z.2.1 ≤ 24 → z.2.2 ≤ 24 → p_X10_rows_L34 F g (nI a) st (nI n) (nI k) col w fuel (nI z.1) (nI z.2.1) (nI z.2.2) (nI i) = some (rwR w (fo (rwS col n) d i z)) := by
  intro d
  induction d with
  | zero =>
    intro i fuel z hd hf h1 h2
    cases fuel with
    | zero => exact absurd hf (by omega)
    | succ fuel =>
      have e : i = k := by omega
      subst e
      show p_X10_rows_L34b F g (nI a) st (nI n) (nI i) col w _ (nI z.1) (nI z.2.1) (nI z.2.2) (nI i) = _
      unfold p_X10_rows_L34b
      rw [if_pos (nI_le (Nat.le_refl _) (by omega)), X10_depth hF (by omega)]
      simp only [Option.bind_some, ite_some]
      rfl
  | succ d ih =>
    intro i fuel z hd hf h1 h2
    cases fuel with
    | zero => exact absurd hf (by omega)
    | succ fuel =>
      have hw := wrN_le col n i
      show p_X10_rows_L34b F g (nI a) st (nI n) (nI k) col w _ (nI z.1) (nI z.2.1) (nI z.2.2) (nI i) = _
      unfold p_X10_rows_L34b
      rw [if_neg (nI_ge (by omega) (by omega)), X1_wires hF (by omega) (by omega)]
      simp only [Option.bind_some, jlet_eq, nI_1, nI_add]
      rw [nI_maxL (by omega) (by omega), nI_minL (by omega) (by omega)]
      exact ih (i + 1) fuel (rwS col n i z) (by omega) (by omega) (by show max z.2.1 (wrN col n i) ≤ 24; omega) (by show min z.2.2 (wrN col n i) ≤ 24; omega)
theorem M_rows_loop (hF : 40 < F) (hb : MB b n k dat chk) (hmc : MC b n k al dat chk col pr) (hk4 : 4 ≤ k) (w : Int32) : ∀ (d i fuel : Nat) (z : Nat × Nat × Nat) (lst : Nat), i + d = k → d < fuel → z.2.1 ≤ 24 → z.2.2 ≤ 24 → ((i = 0 ∧ z.2.2 = 24 ∧ lst = 268435456) ∨ (0 < i ∧ lst = z.2.2)) → p_X11_rows_L14 F (nI b) al dat chk w fuel (nI z.1) (nI z.2.1) (nI lst) (dgI z.2.1) (nI i) = some (if w = 0 ∨ w = 1 ∨ w = 2 then rwR w (fo (rwS col n) d i z) else -1) := by
  have hn : n ≤ 24 := hmc.2.2.2.2.1
  have hk : k ≤ 8 := hmc.2.2.2.2.2.2.1
  intro d
  induction d with
  | zero =>
    intro i fuel z lst hd hf h1 h2 h3
    cases fuel with
    | zero => exact absurd hf (by omega)
    | succ fuel =>
      have e : i = k := by omega
      subst e
      have hl : lst = z.2.2 := by omega
      subst hl
      show p_X11_rows_L14b F (nI b) al dat chk w _ (nI z.1) (nI z.2.1) (nI z.2.2) (dgI z.2.1) (nI i) = _
      unfold p_X11_rows_L14b
      rw [M_chk hb.1 hb.2.2]
      simp only [Option.bind_some]
      rw [if_pos (nI_le (Nat.le_refl _) (by omega))]
      show _ = some (if w = 0 ∨ w = 1 ∨ w = 2 then rwR w z else -1)
      unfold rwR
      by_cases w0 : w = 0
      · simp [w0]
      · by_cases w1 : w = 1
        · simp [w1]
        · by_cases w2 : w = 2
          · simp [w2]
          · simp [w0, w1, w2]
  | succ d ih =>
    intro i fuel z lst hd hf h1 h2 h3
    cases fuel with
    | zero => exact absurd hf (by omega)
    | succ fuel =>
      have hw := wrN_le col n i
      show p_X11_rows_L14b F (nI b) al dat chk w _ (nI z.1) (nI z.2.1) (nI lst) (dgI z.2.1) (nI i) = _
      unfold p_X11_rows_L14b p_X11_more p_X11_less
      rw [M_chk hb.1 hb.2.2]
      simp only [Option.bind_some]
      rw [if_neg (nI_ge (by omega) (by omega)), hmc.wires hF (by omega), hmc.deep hF (by omega)]
      simp only [Option.bind_some, ite_some, nI_1, nI_add]
      rw [nI_maxM (by omega) (by omega), deep_max _ h1 _ (by omega), nI_minM (by omega) (by omega)]
      have e : min lst (wrN col n i) = min z.2.2 (wrN col n i) := by omega
      rw [e]
      exact ih (i + 1) fuel (rwS col n i z) (min z.2.2 (wrN col n i)) (by omega) (by omega) (by show max z.2.1 (wrN col n i) ≤ 24; omega) (by show min z.2.2 (wrN col n i) ≤ 24; omega) (Or.inr ⟨by omega, rfl⟩)
theorem Q_rows (hF : 40 < F) (ha : a < 13) (hs : st a = some g) (hb : MB b n k dat chk) (h : SR n k pr col pl prT bits mea stk syn tal al) (w : Int32) : ∃ r, p_X10_rows F g (nI a) st (nI n) (nI k) col w = some r ∧ p_X11_rows F (nI b) al dat chk w = some r := by
  obtain ⟨h1, hc, ht, ⟨ab, hR⟩, hW, hI⟩ := h
  have hk8 := hc.2.2.2.1
  have hk4 := hc.2.2.1
  have hn := hc.2.1
  have hM : p_X11_rows F (nI b) al dat chk w = some (if w = 0 ∨ w = 1 ∨ w = 2 then rwR w (fo (rwS col n) k 0 (0, 0, 24)) else -1) :=
    M_rows_loop hF hb (hR.mc (hc.bc hb)) hk4 w k 0 F (0, 0, 24) 268435456 (by omega) (by omega) (by decide) (by decide) (Or.inl ⟨rfl, rfl, rfl⟩)
  have hX : ∀ w, p_X10_rows_L34 F g (nI a) st (nI n) (nI k) col w F 0 0 24 0 = some (rwR w (fo (rwS col n) k 0 (0, 0, 24))) := fun w =>
    X10_rows_loop hF hn hk8 w k 0 F (0, 0, 24) (by omega) (by omega) (by decide) (by decide)
  rw [hM]
  unfold p_X10_rows
  rw [now_eq ha hs]
  simp only [Option.bind_some, hX]
  rcases rng w (N := 3) (by decide) with ⟨j, hj, rfl⟩ | ho
  · have e : nI j = 0 ∨ nI j = 1 ∨ nI j = 2 := by
      rcases (show j = 0 ∨ j = 1 ∨ j = 2 by omega) with rfl | rfl | rfl
      · exact Or.inl rfl
      · exact Or.inr (Or.inl rfl)
      · exact Or.inr (Or.inr rfl)
    rw [if_neg (nI_pos (by omega)), if_pos (show nI j ≤ 2 from nI_le (b := 2) (by omega) (by decide)), if_pos e]
    exact ⟨_, rfl, rfl⟩
  · have e : ¬ (w = 0 ∨ w = 1 ∨ w = 2) := by
      rintro (rfl | rfl | rfl) <;> revert ho <;> decide
    rw [if_neg e]
    by_cases h1 : w < 0
    · rw [if_pos h1]; exact ⟨-1, rfl, rfl⟩
    · have h2 := out_neg ho h1
      rw [if_neg h1, if_neg (fun q => by rw [fa_le] at h2 q; have e3 : (nI 3).toInt = 3 := rfl; have e4 : (2 : Int32).toInt = 2 := rfl; omega)]; exact ⟨-1, rfl, rfl⟩
end Qry2
