/-! how many words are not as meant, and which -/
def neB (bits mea : Nat → Int32) (w : Nat) : Bool := !decide (bits w = mea w)
def nmN (bits mea : Nat → Int32) : Nat := fb_ct (neB bits mea) 16
def nmM (bits mea : Nat → Int32) (d : Nat) : Int32 := fo (fun w a => if bits w = mea w then a else a ||| oh w) d 0 0
theorem bt_nmM {bits mea : Nat → Int32} : ∀ d, d ≤ 16 → ∀ i, bt (nmM bits mea d) i = (decide (i < d) && neB bits mea i)
  | 0, _, i => by show bt 0 i = _; rw [b_0]; simp
  | d + 1, hd, i => by
    have ih := bt_nmM (bits := bits) (mea := mea) d (by omega) i
    have e : nmM bits mea (d + 1) = if bits d = mea d then nmM bits mea d else nmM bits mea d ||| oh d := by
      unfold nmM
      rw [fo_succ, Nat.zero_add]
    rw [e]
    by_cases h : bits d = mea d
    · rw [if_pos h, ih]
      by_cases e2 : i = d
      · subst e2; simp [neB, h]
      · by_cases h2 : i < d
        · have h3 : i < d + 1 := by omega
          simp [h2, h3]
        · have h3 : ¬ i < d + 1 := by omega
          simp [h2, h3]
    · rw [if_neg h, b_or, ih, bt_oh (by omega)]
      by_cases e2 : i = d
      · subst e2; simp [neB, h]
      · by_cases h2 : i < d
        · have h3 : i < d + 1 := by omega
          simp [h2, h3, e2]
        · have h3 : ¬ i < d + 1 := by omega
          simp [h2, h3, e2]
theorem pcn_nmM (bits mea : Nat → Int32) : pcn (nmM bits mea 16) = nmN bits mea := by
  have e : pcn (nmM bits mea 16) = fb_ct (fun i => decide (i < 16) && neB bits mea i) (16 + 16) := fb_ct_cong (fun i _ => bt_nmM 16 (by decide) i)
  rw [e, fb_ct_split]
  have e1 : fb_ct (fun i => decide (i < 16) && neB bits mea i) 16 = nmN bits mea := fb_ct_cong (fun i hi => by simp [hi])
  have e2 : fb_ct (fun i => decide (16 + i < 16) && neB bits mea (16 + i)) 16 = 0 := fb_ct_zero.mpr (fun i _ => by
    have : ¬ 16 + i < 16 := by omega
    simp [this])
  rw [e1, e2]
  rfl
theorem nmN_le (bits mea : Nat → Int32) : nmN bits mea ≤ 16 := fb_ct_le _ _
theorem X9_notMeant {F : Nat} {bits mea : Nat → Int32} (hF : 40 < F) : p_X9_notMeantAsBits F bits mea = some (nmM bits mea 16) := by
  refine fold_loop (fun fuel a i => p_X9_notMeantAsBits_L4 F bits mea fuel a i) some (fun w a => if bits w = mea w then a else a ||| oh w) (fun _ _ => True) 16 (fun fuel i a hi _ => ?_) (fun fuel a _ => ?_) (fun _ _ _ _ => trivial) 16 0 F 0 rfl (by omega) trivial
  · show p_X9_notMeantAsBits_L4b F bits mea _ a (nI i) = _
    have g : ¬ ixBad (nI i) 16 := ixg hi (by decide)
    have c : (nI i).toNatClampNeg = i := nI_clamp (by omega)
    unfold p_X9_notMeantAsBits_L4b p_X9_notMeantAsBits_J31
    rw [if_neg (show ¬ (16 : Int32) ≤ nI i from nI_ge (b := 16) hi (by decide))]
    simp only [g, c, ↓reduceIte, nI_1]
    by_cases h : bits i = mea i
    · rw [if_pos h, if_pos h]
    · rw [if_neg h, if_neg h]; rfl
  · show p_X9_notMeantAsBits_L4b F bits mea _ a (nI 16) = _
    unfold p_X9_notMeantAsBits_L4b
    rw [if_pos (by decide)]
theorem X9_asMeant {F : Nat} {bits mea : Nat → Int32} (hF : 40 < F) : p_X9_countAsMeant F bits mea = some (nI (16 - nmN bits mea)) := by
  have h := nmN_le bits mea
  unfold p_X9_countAsMeant
  rw [X9_notMeant hF]
  simp only [Option.bind_some]
  rw [bitCount_eq, pcn_nmM]
  simp only [Option.bind_some]
  rw [show (16 : Int32) = nI 16 from rfl, nI_sub h]
theorem ct_fold {p : Nat → Bool} : ∀ d, fo (fun i (a : Int32) => a + (if p i = true then 1 else 0)) d 0 (nI 0) = nI (fb_ct p d)
  | 0 => rfl
  | d + 1 => by
    rw [fo_succ, ct_fold d, Nat.zero_add, fb_ct_succ]
    cases p d
    · rw [if_neg (by decide), if_neg (by decide)]; exact Int32.add_zero _
    · rw [if_pos rfl, if_pos rfl, nI_1]
theorem X9_unclean {F : Nat} {syn : Nat → Int32} (hF : 40 < F) : p_X9_countUnclean F syn = some (nI (fb_ct (fun w => !decide (syn w = 0)) 16)) := by
  have key := fold_loop (fun fuel a i => p_X9_countUnclean_L4 F syn fuel a i) some (fun w a => a + (if (!decide (syn w = 0)) = true then 1 else 0)) (fun _ _ => True) 16 (fun fuel i a hi _ => by
      show p_X9_countUnclean_L4b F syn _ a (nI i) = _
      have g : ¬ ixBad (nI i) 16 := ixg hi (by decide)
      have c : (nI i).toNatClampNeg = i := nI_clamp (by omega)
      unfold p_X9_countUnclean_L4b p_X9_countUnclean_J25
      rw [if_neg (show ¬ (16 : Int32) ≤ nI i from nI_ge (b := 16) hi (by decide))]
      simp only [g, c, ↓reduceIte, nI_1]
      by_cases h : syn i = 0
      · rw [if_pos h]; simp [h]
      · rw [if_neg h]; simp [h]) (fun fuel a _ => by
      show p_X9_countUnclean_L4b F syn _ a (nI 16) = _
      unfold p_X9_countUnclean_L4b
      rw [if_pos (by decide)]) (fun _ _ _ _ => trivial) 16 0 F 0 rfl (by omega) trivial
  exact key.trans (congrArg some (ct_fold 16))
section Mod4
variable {F b n k w : Nat} {all col dat chk : Nat → Int32} {pr : Int32} {bits mea stk tal : Nat → Int32} {ab : Nat → Int32 × Int32}
theorem M_isMeant (hF : 40 < F) (hb : BC b n k dat chk col) (h : RA n k all col pr bits mea stk tal ab) (hW : WI n k col mea) (hw : w < 16) : p_X11_isMeant F (nI b) all dat (nI w) = some (if bits w = mea w then 1 else 0) := by
  have hc := (h.mc hb).checks (F := F) hF
  obtain ⟨q1, q2, q3, q4⟩ := h.2.2.1 w hw
  obtain ⟨b1, b2, b3, b4, b5, b6, b7, b8⟩ := hb
  have e33 : (33 : Int32) + nI w = nI (33 + w) := nI_lit 33 w
  have e49 : (49 : Int32) + nI w = nI (49 + w) := nI_lit 49 w
  have e65 : (65 : Int32) + nI w = nI (65 + w) := nI_lit 65 w
  have g33 : ¬ ixBad (nI (33 + w)) 121 := ixg (by omega) (by decide)
  have g49 : ¬ ixBad (nI (49 + w)) 121 := ixg (by omega) (by decide)
  have g65 : ¬ ixBad (nI (65 + w)) 121 := ixg (by omega) (by decide)
  have c33 : (nI (33 + w)).toNatClampNeg = 33 + w := nI_clamp (by omega)
  have c49 : (nI (49 + w)).toNatClampNeg = 49 + w := nI_clamp (by omega)
  have c65 : (nI (65 + w)).toNatClampNeg = 65 + w := nI_clamp (by omega)
  unfold p_X11_isMeant
  simp only [e33, e49, e65, g33, g49, g65, c33, c49, c65, q1, q2, q3, ↓reduceIte]
  rw [hc, whole_CC (by omega) (by omega) b7 b8 (hW w hw).1 (hW w hw).2]
  simp only [Option.bind_some]
  by_cases h1 : bits w = mea w
  · rw [if_pos (by rw [h1]), if_pos (by rw [h1]), if_pos h1]
  · rw [if_neg h1]
    by_cases h2 : DD n (bits w) = DD n (mea w)
    · rw [if_pos h2, if_neg (fun h3 => h1 (fit_eq (k := k) (by omega) h2 h3))]
    · rw [if_neg h2]
theorem M_strange (hF : 40 < F) (hb : BC b n k dat chk col) (h : RA n k all col pr bits mea stk tal ab) (hW : WI n k col mea) : p_X11_strangeMany F (nI b) all dat = some (nI (nmN bits mea)) := by
  have key := fold_loop (fun fuel a i => p_X11_strangeMany_L4 F (nI b) all dat fuel a i) some (fun w a => a + (if neB bits mea w = true then 1 else 0)) (fun _ _ => True) 16 (fun fuel i a hi _ => by
      show p_X11_strangeMany_L4b F (nI b) all dat _ a (nI i) = _
      unfold p_X11_strangeMany_L4b p_X11_strangeMany_J24
      rw [if_neg (show ¬ (16 : Int32) ≤ nI i from nI_ge (b := 16) hi (by decide)), M_isMeant hF hb h hW hi]
      simp only [Option.bind_some, nI_1]
      by_cases h1 : bits i = mea i
      · rw [if_pos h1, if_neg (by decide)]; simp [neB, h1]
      · rw [if_neg h1, if_pos rfl]; simp [neB, h1]) (fun fuel a _ => by
      show p_X11_strangeMany_L4b F (nI b) all dat _ a (nI 16) = _
      unfold p_X11_strangeMany_L4b
      rw [if_pos (by decide)]) (fun _ _ _ _ => trivial) 16 0 F 0 rfl (by omega) trivial
  exact key.trans (congrArg some (ct_fold 16))
theorem M_strangeSet (hF : 40 < F) (hb : BC b n k dat chk col) (h : RA n k all col pr bits mea stk tal ab) (hW : WI n k col mea) : p_X11_strangeSet F (nI b) all dat = some (nmM bits mea 16) := by
  refine fold_loop (fun fuel a i => p_X11_strangeSet_L4 F (nI b) all dat fuel a i) some (fun w a => if bits w = mea w then a else a ||| oh w) (fun _ _ => True) 16 (fun fuel i a hi _ => ?_) (fun fuel a _ => ?_) (fun _ _ _ _ => trivial) 16 0 F 0 rfl (by omega) trivial
  · show p_X11_strangeSet_L4b F (nI b) all dat _ a (nI i) = _
    unfold p_X11_strangeSet_L4b p_X11_strangeSet_J26
    rw [if_neg (show ¬ (16 : Int32) ≤ nI i from nI_ge (b := 16) hi (by decide)), M_isMeant hF hb h hW hi]
    simp only [Option.bind_some, nI_1]
    by_cases h1 : bits i = mea i
    · rw [if_pos h1, if_neg (by decide), if_pos h1, show a ||| 0 = a from b_ext fun q _ => by rw [b_or, b_0, Bool.or_false]]
    · rw [if_neg h1, if_pos rfl, if_neg h1]; rfl
  · show p_X11_strangeSet_L4b F (nI b) all dat _ a (nI 16) = _
    unfold p_X11_strangeSet_L4b
    rw [if_pos (by decide)]
theorem M_slipped (hF : 40 < F) (hb : BC b n k dat chk col) (h : RA n k all col pr bits mea stk tal ab) {syn : Nat → Int32} (hI : ∀ w, w < 16 → Fit (n + k) (bits w) ∧ syn w = sy col (bits w) (n + k)) : p_X11_slipped F (nI b) all dat = some (nI (fb_ct (fun w => !decide (syn w = 0)) 16)) := by
  have key := fold_loop (fun fuel a i => p_X11_slipped_L4 F (nI b) all dat fuel a i) some (fun w a => a + (if (!decide (syn w = 0)) = true then 1 else 0)) (fun _ _ => True) 16 (fun fuel i a hi _ => by
      show p_X11_slipped_L4b F (nI b) all dat _ a (nI i) = _
      obtain ⟨q1, q2, q3, q4⟩ := h.2.2.1 i hi
      have e33 : (33 : Int32) + nI i = nI (33 + i) := nI_lit 33 i
      have e49 : (49 : Int32) + nI i = nI (49 + i) := nI_lit 49 i
      have g33 : ¬ ixBad (nI (33 + i)) 121 := ixg (by omega) (by decide)
      have g49 : ¬ ixBad (nI (49 + i)) 121 := ixg (by omega) (by decide)
      have c33 : (nI (33 + i)).toNatClampNeg = 33 + i := nI_clamp (by omega)
      have c49 : (nI (49 + i)).toNatClampNeg = 49 + i := nI_clamp (by omega)
      unfold p_X11_slipped_L4b p_X11_slipped_J41
      rw [if_neg (show ¬ (16 : Int32) ≤ nI i from nI_ge (b := 16) hi (by decide))]
      simp only [e33, e49, g33, g49, c33, c49, q1, q2, ↓reduceIte, nI_1]
      rw [(h.mc hb).synd hF (hI i hi).1, ← (hI i hi).2]
      simp only [Option.bind_some]
      by_cases h1 : syn i = 0
      · rw [if_pos h1]; simp [h1]
      · rw [if_neg h1]; simp [h1]) (fun fuel a _ => by
      show p_X11_slipped_L4b F (nI b) all dat _ a (nI 16) = _
      unfold p_X11_slipped_L4b
      rw [if_pos (by decide)]) (fun _ _ _ _ => trivial) 16 0 F 0 rfl (by omega) trivial
  exact key.trans (congrArg some (ct_fold 16))
end Mod4
