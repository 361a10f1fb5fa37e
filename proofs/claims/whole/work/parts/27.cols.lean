/-! columns that can be; fewest -/
theorem oh_val8 : ∀ c, c ≤ 8 → (1 : Int32) <<< (nI c &&& 31) = nI (2 ^ c) := by decide +kernel
def onC (o c : Nat) : Bool := decide (pcn (nI c) = o)
theorem nI_eqo {x o : Nat} (hx : x ≤ 32) (ho : o < 1000) : (nI x = nI o) ↔ x = o := nI_eq (by omega) (by omega)
theorem M_manyOf {F o k : Nat} (hF : 1000 < F) (hk : k ≤ 8) (ho : o < 1000) : p_X11_manyOf F (nI o) (nI k) = some (nI (fb_ct (onC o) (2 ^ k))) := by
  have h2 := pow_le8 hk
  have key := fold_loop (fun fuel a i => p_X11_manyOf_L4 F (nI o) (nI k) fuel a i) some (fun i a => a + (if onC o i = true then 1 else 0)) (fun _ _ => True) (2 ^ k) (fun fuel i a hi _ => by
      show p_X11_manyOf_L4b F (nI o) (nI k) _ a (nI i) = _
      have hp := pcn_le (nI i)
      unfold p_X11_manyOf_L4b p_X11_manyOf_J25
      rw [oh_val8 k hk, if_neg (nI_ge hi (by omega)), M_ones (by omega)]
      simp only [Option.bind_some, nI_1, nI_eqo hp ho]
      by_cases e : pcn (nI i) = o
      · simp [onC, e]
      · simp [onC, e]) (fun fuel a _ => by
      show p_X11_manyOf_L4b F (nI o) (nI k) _ a (nI (2 ^ k)) = _
      unfold p_X11_manyOf_L4b
      rw [oh_val8 k hk, if_pos (nI_le (Nat.le_refl _) (by omega))]) (fun _ _ _ _ => trivial) (2 ^ k) 0 F 0 (by omega) (by omega) trivial
  exact key.trans (congrArg some (ct_fold (2 ^ k)))
theorem fewest_tab : ∀ c, c ≤ 8 → 4 ≤ c → fb_ct (onC 3) (2 ^ c) + fb_ct (onC 5) (2 ^ c) + fb_ct (onC 7) (2 ^ c) = 2 ^ (c - 1) - c ∧ nI (2 ^ c / 2) - nI c = nI (2 ^ (c - 1) - c) ∧ nI c - 1 = nI (c - 1) := by decide +kernel
theorem Q_fewest {F : Nat} (hF : 1000 < F) (v : Int32) : ∃ r, p_X10_fewest F v = some r ∧ p_X11_fewest F v = some r := by
  have key : ∀ (d c fuel : Nat), c + d = 9 → d < fuel → 4 ≤ c → ∃ r, p_X10_fewest_L16 F v fuel (nI c) = some r ∧ p_X11_fewest_L15 F v fuel (nI c) = some r := by
    intro d
    induction d with
    | zero =>
      intro c fuel hd hf h4
      cases fuel with
      | zero => exact absurd hf (by omega)
      | succ fuel =>
        have e : c = 9 := by omega
        subst e
        exact ⟨-1, rfl, rfl⟩
    | succ d ih =>
      intro c fuel hd hf h4
      cases fuel with
      | zero => exact absurd hf (by omega)
      | succ fuel =>
        obtain ⟨t1, t2, t3⟩ := fewest_tab c (by omega) h4
        have hX : p_X10_dataColumns F (nI c) = some (nI (2 ^ (c - 1) - c)) := by
          unfold p_X10_dataColumns
          rw [t3, oh_val8 (c - 1) (by omega), ← t2, show 2 ^ c / 2 = 2 ^ (c - 1) by rw [show c = c - 1 + 1 by omega, Nat.pow_succ]; simp]
        obtain ⟨r, h1, h2⟩ := ih (c + 1) fuel (by omega) (by omega) (by omega)
        show ∃ r, p_X10_fewest_L16b F v (p_X10_fewest_L16 F v fuel) (nI c) = some r ∧ p_X11_fewest_L15b F v (p_X11_fewest_L15 F v fuel) (nI c) = some r
        unfold p_X10_fewest_L16b p_X11_fewest_L15b
        rw [hX, show (3 : Int32) = nI 3 from rfl, show (5 : Int32) = nI 5 from rfl, show (7 : Int32) = nI 7 from rfl, M_manyOf hF (by omega) (by decide), M_manyOf hF (by omega) (by decide), M_manyOf hF (by omega) (by decide), if_neg (show ¬ (8 : Int32) < nI c from nI_nlt (a := 8) (by omega) (by decide)), if_neg (show ¬ (9 : Int32) ≤ nI c from nI_ge (b := 9) (by omega) (by decide))]
        simp only [Option.bind_some, nI_1, nI_add, t1, h1, h2, ite_some]
        exact ⟨_, rfl, rfl⟩
  obtain ⟨r, h1, h2⟩ := key 5 4 F (by omega) (by omega) (by omega)
  unfold p_X10_fewest p_X11_fewest
  rw [M_isIn, show p_X10_fewest_L16 F v F 4 = some r from h1, show p_X11_fewest_L15 F v F 4 = some r from h2]
  simp only [Option.bind_some, ite0]
  by_cases c1 : v < 1
  · have : ¬ ((1 : Int32) ≤ v ∧ v ≤ 200) := fun q => by have := q.1; rw [fa_le] at this; rw [fa_lt] at c1; omega
    rw [if_pos c1, if_neg this]
    exact ⟨-1, rfl, rfl⟩
  · rw [if_neg c1]
    by_cases c2 : v ≤ 200
    · rw [if_pos c2, if_pos ⟨fa_of_nlt c1, c2⟩]
      exact ⟨r, rfl, rfl⟩
    · rw [if_neg c2, if_neg (fun q => c2 q.2)]
      exact ⟨-1, rfl, rfl⟩
theorem ct_free {N o : Nat} {col : Nat → Int32} (hN : N < 2 ^ 31) : ∀ n, (∀ p, p < n → ∃ v, v < N ∧ col p = nI v) → (∀ p q, p < n → q < n → col p = col q → p = q) →
    fb_ct (fun c => onC o c && decide (∀ p, p < n → ¬ col p = nI c)) N + fb_ct (fun p => decide (pcn (col p) = o)) n = fb_ct (onC o) N
  | 0, _, _ => by
    rw [fb_ct_cong (q := onC o) (fun c _ => by simp)]; rfl
  | n + 1, hv, hi => by
    have ih := ct_free (o := o) hN n (fun p hp => hv p (by omega)) (fun p q hp hq e => hi p q (by omega) (by omega) e)
    obtain ⟨v, hv1, hv2⟩ := hv n (by omega)
    have hfr : decide (∀ p, p < n → ¬ col p = nI v) = true := decide_eq_true (fun p hp e => by
      have := hi p n (by omega) (by omega) (e.trans hv2.symm); omega)
    have up := fb_ct_upd (fun c => onC o c && decide (∀ p, p < n → ¬ col p = nI c)) false hv1
    have e1 : fb_ct (fun c => onC o c && decide (∀ p, p < n + 1 → ¬ col p = nI c)) N = fb_ct (fun c => if c = v then false else (onC o c && decide (∀ p, p < n → ¬ col p = nI c))) N := fb_ct_cong (fun c hc => by
      by_cases e : c = v
      · subst e
        have : ¬ ∀ p, p < n + 1 → ¬ col p = nI c := fun q => q n (by omega) hv2
        simp [this]
      · rw [if_neg e]
        congr 1
        refine decide_eq_decide.mpr ⟨fun q p hp => q p (by omega), fun q p hp => ?_⟩
        by_cases e2 : p = n
        · subst e2
          rw [hv2]
          exact fun e3 => e ((nI_eq (by omega) (by omega)).mp e3).symm
        · exact q p (by omega))
    have e2 : decide (pcn (col n) = o) = onC o v := by rw [hv2]; rfl
    rw [fb_ct_succ, e1, e2]
    simp only [hfr, Bool.and_true] at up
    by_cases c : onC o v = true
    · simp [c] at up ⊢; omega
    · simp [c] at up ⊢; omega
section Qry4
variable {F b n k g a : Nat} {dat chk : Nat → Int32} {pr : Int32} {col pl prT bits mea stk syn tal al : Nat → Int32} {st : Nat → Option Nat}
theorem X1_countColumns {o fr : Nat} (hF : 1000 < F) (hk : k ≤ 8) (ho : o < 1000) (hB : ColB (n + k) col) (ht : TabOK (n + k) col pl prT) (hfr : fr = 0 ∨ fr = 1) : p_X1_countColumns F (nI k) pl (nI o) (nI fr) = some (nI (fb_ct (fun c => onC o c && (decide (fr = 0) || decide (plc col (n + k) (nI c) = -1))) (2 ^ k))) := by
  have h2 := pow_le8 hk
  have key := fold_loop (fun fuel a i => p_X1_countColumns_L5 F (nI k) pl (nI o) (nI fr) fuel a i) some (fun i a => a + (if (onC o i && (decide (fr = 0) || decide (plc col (n + k) (nI i) = -1))) = true then 1 else 0)) (fun _ _ => True) (2 ^ k) (fun fuel i a hi _ => by
      show p_X1_countColumns_L5b F (nI k) pl (nI o) (nI fr) _ a (nI i) = _
      have hp := pcn_le (nI i)
      unfold p_X1_countColumns_L5b p_X1_countColumns_J39 p_X1_countColumns_J42
      rw [oh_val8 k hk, if_neg (nI_ge hi (by omega)), bitCount_eq, X1_placeWith hB ht]
      simp only [Option.bind_some, nI_1, nI_eqo hp ho]
      by_cases e : pcn (nI i) = o
      · rcases hfr with rfl | rfl
        · simp [onC, e, show nI 0 = 0 from rfl]
        · by_cases e2 : plc col (n + k) (nI i) = -1
          · simp [onC, e, e2, show ¬ nI 1 = 0 by decide]
          · simp [onC, e, e2, show ¬ nI 1 = 0 by decide]
      · simp [onC, e]) (fun fuel a _ => by
      show p_X1_countColumns_L5b F (nI k) pl (nI o) (nI fr) _ a (nI (2 ^ k)) = _
      unfold p_X1_countColumns_L5b
      rw [oh_val8 k hk, if_pos (nI_le (Nat.le_refl _) (by omega))]) (fun _ _ _ _ => trivial) (2 ^ k) 0 F 0 (by omega) (by omega) trivial
  exact key.trans (congrArg some (ct_fold (2 ^ k)))
theorem M_columns_loop {o c0 : Nat} (hF : 1000 < F) (ho : o < 1000) (hmc : MC b n k al dat chk col pr) (hb : MB b n k dat chk) : p_X11_columns_L39 F (nI b) al dat chk (nI o) 1 F (nI c0) 0 = some (nI c0 - nI (fb_ct (fun p => decide (pcn (col p) = o)) n)) := by
  have hn : n ≤ 24 := hmc.2.2.2.2.1
  have key := fold_loop (fun fuel a i => p_X11_columns_L39 F (nI b) al dat chk (nI o) 1 fuel (nI c0 - a) i) (fun a => some (nI c0 - a)) (fun i a => a + (if decide (pcn (col i) = o) = true then 1 else 0)) (fun _ _ => True) n (fun fuel i a hi _ => by
      show p_X11_columns_L39b F (nI b) al dat chk (nI o) 1 _ (nI c0 - a) (nI i) = _
      have hp := pcn_le (col i)
      unfold p_X11_columns_L39b p_X11_columns_J72
      rw [M_data hb.1 hb.2.1, hmc.col (by omega)]
      simp only [Option.bind_some]
      rw [if_neg (nI_ge hi (by omega)), M_ones (by omega)]
      simp only [Option.bind_some, nI_1, nI_eqo hp ho, ↓reduceIte]
      by_cases e : pcn (col i) = o
      · simp only [e, ↓reduceIte, decide_true]
        rw [show nI c0 - a - 1 = nI c0 - (a + 1) by grind]
      · simp [e]) (fun fuel a _ => by
      show p_X11_columns_L39b F (nI b) al dat chk (nI o) 1 _ (nI c0 - a) (nI n) = _
      unfold p_X11_columns_L39b
      rw [M_data hb.1 hb.2.1]
      simp only [Option.bind_some]
      rw [if_pos (nI_le (Nat.le_refl _) (by omega))]) (fun _ _ _ _ => trivial) n 0 F (nI 0) (by omega) (by omega) trivial
  rw [show nI c0 - nI 0 = nI c0 from Int32.sub_zero _] at key
  exact key.trans (congrArg (fun x => some (nI c0 - x)) (ct_fold n))
theorem Q_columns (hF : 1000 < F) (ha : a < 13) (hs : st a = some g) (hb : MB b n k dat chk) (h : SR n k pr col pl prT bits mea stk syn tal al) (v w : Int32) : ∃ r, p_X10_columns F g (nI a) st (nI k) pl v w = some r ∧ p_X11_columns F (nI b) al dat chk v w = some r := by
  obtain ⟨h1, hc, ht, ⟨ab, hR⟩, hW, hI⟩ := h
  have hmc := hR.mc (hc.bc hb)
  have hk8 := hc.2.2.2.1
  have hn := hc.2.1
  have h2 := pow_le8 hk8
  have J : ∀ o, 3 ≤ o → o < 1000 → ∃ r, p_X10_columns_J16 F g (nI a) st (nI k) pl (nI o) w = some r ∧ p_X11_columns_J16 F (nI b) al dat chk (nI o) w = some r := by
    intro o ho3 ho
    unfold p_X10_columns_J16 p_X11_columns_J16 p_X10_columns_J48
    rw [now_eq ha hs, M_chk hb.1 hb.2.2]
    simp only [Option.bind_some]
    rcases rng w (N := 2) (by decide) with ⟨q, hq, rfl⟩ | hw
    · rw [isIn_inL 2 1 rfl hq (by decide), cls_in 2 1 rfl hq (by decide), M_manyOf hF hk8 ho]
      simp only [Option.bind_some, i32_1_0, ↓reduceIte]
      rw [show p_X1_countColumns F (nI k) pl (nI o) 1 = _ from X1_countColumns (fr := 1) hF hk8 ho hc.colB ht (Or.inr rfl), show p_X1_countColumns F (nI k) pl (nI o) 0 = _ from X1_countColumns (fr := 0) hF hk8 ho hc.colB ht (Or.inl rfl)]
      simp only [Option.bind_some]
      rcases (show q = 0 ∨ q = 1 by omega) with rfl | rfl
      · refine ⟨nI (fb_ct (onC o) (2 ^ k)), ?_, ?_⟩
        · rw [if_neg (by decide)]
          congr 2
          exact fb_ct_cong (fun c _ => by simp)
        · cases F with
          | zero => exact absurd hF (by omega)
          | succ F =>
            show p_X11_columns_L39b (F + 1) (nI b) al dat chk (nI o) (nI 0) _ _ (nI 0) = _
            unfold p_X11_columns_L39b
            rw [M_data hb.1 hb.2.1]
            simp only [Option.bind_some]
            rw [if_neg (nI_ge (by have := hc.1; omega) (by omega)), if_neg (by decide)]
      · refine ⟨nI (fb_ct (onC o) (2 ^ k)) - nI (fb_ct (fun p => decide (pcn (col p) = o)) n), ?_, ?_⟩
        · rw [if_pos (show nI 1 = 1 from rfl)]
          have hct := ct_free (N := 2 ^ k) (o := o) (col := col) (by omega) n (fun p hp => (hc.2.2.2.2.1 p hp).1) hc.2.2.2.2.2.2
          have e1 : fb_ct (fun c => onC o c && (decide (1 = 0) || decide (plc col (n + k) (nI c) = -1))) (2 ^ k) = fb_ct (fun c => onC o c && decide (∀ p, p < n → ¬ col p = nI c)) (2 ^ k) := fb_ct_cong (fun c hcc => by
            by_cases e : onC o c = true
            · have e0 : pcn (nI c) = o := decide_eq_true_iff.mp e
              simp only [e, Bool.true_and, show decide (1 = 0) = false from rfl, Bool.false_or]
              refine decide_eq_decide.mpr ((fi_neg (by omega)).trans ⟨fun q p hp => ?_, fun q p hp => ?_⟩)
              · exact of_decide_eq_false (q p (by omega))
              · by_cases e2 : p < n
                · exact decide_eq_false (q p e2)
                · have e3 := hc.2.2.2.2.2.1 (p - n) (by omega)
                  rw [show n + (p - n) = p by omega] at e3
                  refine decide_eq_false (fun e4 => ?_)
                  rw [e3] at e4
                  rw [← e4, pcn_oh (by omega)] at e0
                  omega
            · simp [e])
          have e2 : fb_ct (fun c => onC o c && (decide (1 = 0) || decide (plc col (n + k) (nI c) = -1))) (2 ^ k) + fb_ct (fun p => decide (pcn (col p) = o)) n = fb_ct (onC o) (2 ^ k) := by rw [e1]; exact hct
          rw [← e2, ← nI_add, Int32.add_sub_cancel]
        · exact M_columns_loop hF ho hmc hb
    · rw [isIn_outL 2 1 rfl (by decide) (by decide) hw, cls_out 2 1 rfl (by decide) (by decide) hw]
      exact ⟨-1, rfl, rfl⟩
  obtain ⟨r3, a3, b3⟩ := J 3 (by decide) (by decide)
  obtain ⟨r5, a5, b5⟩ := J 5 (by decide) (by decide)
  obtain ⟨r7, a7, b7⟩ := J 7 (by decide) (by decide)
  unfold p_X10_columns p_X11_columns
  by_cases c3 : v = 3
  · subst c3; exact ⟨r3, a3, b3⟩
  · by_cases c5 : v = 5
    · subst c5; exact ⟨r5, a5, b5⟩
    · by_cases c7 : v = 7
      · subst c7; exact ⟨r7, a7, b7⟩
      · rw [if_neg c3, if_neg c5, if_neg c7, if_neg c3, if_neg c5, if_neg c7]
        exact ⟨-1, rfl, rfl⟩
end Qry4
