/-! the tape is fed -/
theorem i8_cong {x y : Int32} (h : ∀ i, i < 8 → bt x i = bt y i) : x.toInt8 = y.toInt8 := by
  apply Int8.toBitVec_inj.mp
  rw [Int32.toBitVec_toInt8, Int32.toBitVec_toInt8]
  apply BitVec.eq_of_getLsbD_eq
  intro i hi
  rw [BitVec.getLsbD_signExtend, BitVec.getLsbD_signExtend, if_pos (by omega), if_pos (by omega)]
  exact congrArg _ (h i hi)
def fB (c : Int32) (q : Nat) : Nat := uI (jushr c (nI (24 - 8 * q)) &&& 255)
theorem fB_lt (c : Int32) (q : Nat) : fB c q < 256 := by
  unfold fB
  have e : jushr c (nI (24 - 8 * q)) &&& 255 = DD 8 (jushr c (nI (24 - 8 * q))) := rfl
  have hf : Fit 8 (DD 8 (jushr c (nI (24 - 8 * q)))) := fun i hi => by rw [bt_DD (by omega), decide_eq_false (by omega), Bool.and_false]
  rw [e]
  exact Nat.lt_of_not_le fun hge => by
    obtain ⟨i, hi, hb⟩ := Nat.exists_ge_and_testBit_of_ge_two_pow (n := 8) hge
    have h2 := hf i hi
    rw [show bt (DD 8 (jushr c (nI (24 - 8 * q)))) i = (uI (DD 8 (jushr c (nI (24 - 8 * q))))).testBit i from rfl, hb] at h2
    exact absurd h2 (by decide)
theorem fB_x (c : Int32) (q : Nat) : jushr c (nI (24 - 8 * q)) &&& 255 = nI (fB c q) := (nI_uI _).symm
theorem sg_sg : ∀ v, v < 256 → ((nI v).toInt8.toInt32).toInt8.toInt32 = (nI v).toInt8.toInt32 := by decide +kernel
theorem fB_m (c : Int32) {q : Nat} (hq : q < 4) : vp_nar .byte ((c >>> (nI (24 - 8 * q) &&& 31)).toInt8.toInt32) = sgB (fB c q) := by
  have e : (c >>> (nI (24 - 8 * q) &&& 31)).toInt8 = (nI (fB c q)).toInt8 := i8_cong fun i hi => by
    rw [← fB_x, b_and, b_255, decide_eq_true hi, Bool.and_true, b_sshr _ (by omega) _ (by omega), if_pos (by omega)]
    exact (b_ushr (24 - 8 * q) (by omega) c i).symm
  rw [e]
  unfold sgB
  show ((nI (fB c q)).toInt8.toInt32).toInt8.toInt32 = _
  exact sg_sg _ (fB_lt c q)
def ptX (tx : AA) (L : Nat) (c : Int32) : AA := fun x => if L ≤ x ∧ x < L + 4 then nI (fB c (x - L)) else tx x
theorem X7_put {F L : Nat} (hF : 1000 < F) (hL : L + 4 ≤ 600) (tx : AA) (c : Int32) : p_X7_put F (nI L) tx c = some (nI (L + 4), ptX tx L c) := by
  obtain ⟨f, rfl⟩ : ∃ f, F = f + 5 := ⟨F - 5, by omega⟩
  have stp : ∀ (f' l q : Nat) (t : AA), l < 600 → q < 4 → p_X7_put_L3 (f + 5) c (f' + 1) (nI (24 - 8 * q)) (nI l) t = p_X7_put_L3 (f + 5) c f' (nI (24 - 8 * q) + -8) (nI (l + 1)) (upd t l (nI (fB c q))) := fun f' l q t hl hq => by
    show p_X7_put_L3b (f + 5) c (p_X7_put_L3 (f + 5) c f') (nI (24 - 8 * q)) (nI l) t = _
    have g : ¬ ixBad (nI l) 600 := ixg hl (by decide)
    have c1 : (nI l).toNatClampNeg = l := nI_clamp (by omega)
    unfold p_X7_put_L3b
    rw [if_neg (nI_pos (by omega)), if_neg (show ¬ (600 : Int32) ≤ nI l from nI_ge (b := 600) hl (by decide))]
    simp only [g, c1, ↓reduceIte, nI_1, fB_x]
  have e0 := stp (f + 4) L 0 tx (by omega) (by omega)
  have e1 := stp (f + 3) (L + 1) 1 (upd tx L (nI (fB c 0))) (by omega) (by omega)
  have e2 := stp (f + 2) (L + 2) 2 (upd (upd tx L (nI (fB c 0))) (L + 1) (nI (fB c 1))) (by omega) (by omega)
  have e3 := stp (f + 1) (L + 3) 3 (upd (upd (upd tx L (nI (fB c 0))) (L + 1) (nI (fB c 1))) (L + 2) (nI (fB c 2))) (by omega) (by omega)
  have e4 : p_X7_put_L3 (f + 5) c (f + 1) (nI (24 - 8 * 3) + -8) (nI (L + 4)) (upd (upd (upd (upd tx L (nI (fB c 0))) (L + 1) (nI (fB c 1))) (L + 2) (nI (fB c 2))) (L + 3) (nI (fB c 3))) = some (nI (L + 4), upd (upd (upd (upd tx L (nI (fB c 0))) (L + 1) (nI (fB c 1))) (L + 2) (nI (fB c 2))) (L + 3) (nI (fB c 3))) := rfl
  have e5 : upd (upd (upd (upd tx L (nI (fB c 0))) (L + 1) (nI (fB c 1))) (L + 2) (nI (fB c 2))) (L + 3) (nI (fB c 3)) = ptX tx L c := funext fun x => by
    simp only [upd_at]
    unfold ptX
    by_cases h3 : x = L + 3
    · rw [if_pos h3, if_pos (by omega), show x - L = 3 by omega]
    · rw [if_neg h3]
      by_cases h2 : x = L + 2
      · rw [if_pos h2, if_pos (by omega), show x - L = 2 by omega]
      · rw [if_neg h2]
        by_cases h1 : x = L + 1
        · rw [if_pos h1, if_pos (by omega), show x - L = 1 by omega]
        · rw [if_neg h1]
          by_cases h0 : x = L
          · rw [if_pos h0, if_pos (by omega), show x - L = 0 by omega]
          · rw [if_neg h0, if_neg (by omega)]
  rw [e5] at e4
  unfold p_X7_put
  exact e0.trans (e1.trans (e2.trans (e3.trans (by rw [e5]; exact e4))))
def fwS (c1 c2 c3 c4 c5 : Int32) (w : Nat) : Int32 := if w = 0 then c1 else if w = 1 then c2 else if w = 2 then c3 else if w = 3 then c4 else c5
theorem sft : ∀ i, i < 20 → (24 : Int32) - 8 * (nI i &&& 3) = nI (24 - 8 * (i % 4)) := by decide +kernel
theorem M_feed {F L : Nat} (hF : 1000 < F) (hL : L + 20 ≤ 600) (tm : AA) (c1 c2 c3 c4 c5 : Int32) : p_X11_feed_L18 F c1 c2 c3 c4 c5 F 0 (nI L) tm = some (nI (L + 20), nI (L + 20), fun j => if L ≤ j ∧ j < L + 20 then sgB (fB (fwS c1 c2 c3 c4 c5 ((j - L) / 4)) ((j - L) % 4)) else tm j) := by
  have key := fold_loop (fun fuel (z : AA) i => p_X11_feed_L18 F c1 c2 c3 c4 c5 fuel i (nI L) z) (fun z => some (nI (L + 20), nI (L + 20), z)) (fun i (z : AA) => upd z (L + i) (sgB (fB (fwS c1 c2 c3 c4 c5 (i / 4)) (i % 4)))) (fun _ _ => True) 20 (fun fuel i z hi _ => by
      show p_X11_feed_L18b F c1 c2 c3 c4 c5 (p_X11_feed_L18 F c1 c2 c3 c4 c5 fuel) (nI i) (nI L) z = _
      have g : ¬ ixBad (nI (L + i)) 600 := ixg (by omega) (by decide)
      have c0 : (nI (L + i)).toNatClampNeg = L + i := nI_clamp (by omega)
      have hJ : ∀ c, p_X11_feed_J71 F c1 c2 c3 c4 c5 (p_X11_feed_L18 F c1 c2 c3 c4 c5 fuel) (nI i) c (nI L) z = p_X11_feed_L18 F c1 c2 c3 c4 c5 fuel (nI (i + 1)) (nI L) (upd z (L + i) (sgB (fB c (i % 4)))) := fun c => by
        unfold p_X11_feed_J71
        simp only [nI_add, g, c0, ↓reduceIte, nI_1, sft i hi]
        rw [fB_m c (Nat.mod_lt _ (by decide))]
      unfold p_X11_feed_L18b
      simp only [hJ]
      rw [if_neg (show ¬ (20 : Int32) ≤ nI i from nI_ge (b := 20) hi (by decide))]
      by_cases h4 : i < 4
      · rw [if_neg (show ¬ (4 : Int32) ≤ nI i from nI_ge (b := 4) h4 (by decide)), show i / 4 = 0 by omega]; rfl
      · rw [if_pos (show (4 : Int32) ≤ nI i from nI_le (a := 4) (by omega) (by omega))]
        by_cases h8 : i < 8
        · rw [if_neg (show ¬ (8 : Int32) ≤ nI i from nI_ge (b := 8) h8 (by decide)), show i / 4 = 1 by omega]; rfl
        · rw [if_pos (show (8 : Int32) ≤ nI i from nI_le (a := 8) (by omega) (by omega))]
          by_cases h12 : i < 12
          · rw [if_neg (show ¬ (12 : Int32) ≤ nI i from nI_ge (b := 12) h12 (by decide)), show i / 4 = 2 by omega]; rfl
          · rw [if_pos (show (12 : Int32) ≤ nI i from nI_le (a := 12) (by omega) (by omega))]
            by_cases h16 : i < 16
            · rw [if_neg (show ¬ (16 : Int32) ≤ nI i from nI_ge (b := 16) h16 (by decide)), show i / 4 = 3 by omega]; rfl
            · rw [if_pos (show (16 : Int32) ≤ nI i from nI_le (a := 16) (by omega) (by omega)), show i / 4 = 4 by omega]; rfl) (fun fuel z _ => by
        show p_X11_feed_L18b F c1 c2 c3 c4 c5 _ (nI 20) (nI L) z = _
        unfold p_X11_feed_L18b
        rw [if_pos (by decide +kernel), show nI L + (20 : Int32) = nI (L + 20) by rw [show (20 : Int32) = nI 20 from rfl, nI_add]]) (fun _ _ _ _ => trivial) 20 0 F tm (by omega) (by omega) trivial
  rw [row121_fold] at key
  exact key
theorem A_feed {F L : Nat} {u : Nat → Nat} {tx tm : AA} (hF : 1000 < F) (h : TP L u tx tm) (c1 c2 c3 c4 c5 : Int32) : ∃ r L' u' tx' tm', p_X10_feed F (nI L) tx c1 c2 c3 c4 c5 = some (r, nI L', tx') ∧ p_X11_feed F (nI L) tm c1 c2 c3 c4 c5 = some (r, nI L', tm') ∧ TP L' u' tx' tm' := by
  have hL := h.1
  unfold p_X10_feed p_X11_feed p_X7_hasRoomForFive
  by_cases c : L ≤ 580
  · rw [if_neg (show ¬ (580 : Int32) < nI L from fun q => by rw [fa_lt, nI_toInt (by omega)] at q; exact absurd (show ((580 : Nat) : Int) < (L : Int) from q) (by omega)), if_pos (show nI L + (20 : Int32) ≤ 600 by rw [show nI L + (20 : Int32) = nI (L + 20) by rw [show (20 : Int32) = nI 20 from rfl, nI_add]]; exact nI_le (b := 600) (by omega) (by decide)), M_feed hF (by omega)]
    simp only [Option.bind_some, i32_1_0, ↓reduceIte]
    rw [X7_put hF (by omega)]
    simp only [Option.bind_some]
    rw [X7_put hF (by omega)]
    simp only [Option.bind_some]
    rw [X7_put hF (by omega)]
    simp only [Option.bind_some]
    rw [X7_put hF (by omega)]
    simp only [Option.bind_some]
    rw [X7_put hF (by omega)]
    simp only [Option.bind_some]
    refine ⟨nI (L + 20), L + 20, fun j => if j < L then u j else fB (fwS c1 c2 c3 c4 c5 ((j - L) / 4)) ((j - L) % 4), _, _, rfl, rfl, by omega, fun j hj => ?_⟩
    by_cases q : j < L
    · obtain ⟨q1, q2, q3⟩ := h.2 j q
      unfold ptX
      simp only [q, ↓reduceIte]
      rw [if_neg (by omega), if_neg (by omega), if_neg (by omega), if_neg (by omega), if_neg (by omega), if_neg (by omega)]
      exact ⟨q1, q2, q3⟩
    · simp only [q, ↓reduceIte]
      refine ⟨fB_lt _ _, ?_, by rw [if_pos (by omega)]⟩
      unfold ptX
      rcases (show (j - L) / 4 = 0 ∨ (j - L) / 4 = 1 ∨ (j - L) / 4 = 2 ∨ (j - L) / 4 = 3 ∨ (j - L) / 4 = 4 by omega) with e | e | e | e | e
      · rw [if_neg (by omega), if_neg (by omega), if_neg (by omega), if_neg (by omega), if_pos (by omega), e, show (j - L) % 4 = j - L by omega]; rfl
      · rw [if_neg (by omega), if_neg (by omega), if_neg (by omega), if_pos (by omega), e, show (j - L) % 4 = j - (L + 4) by omega]; rfl
      · rw [if_neg (by omega), if_neg (by omega), if_pos (by omega), e, show (j - L) % 4 = j - (L + 4 + 4) by omega]; rfl
      · rw [if_neg (by omega), if_pos (by omega), e, show (j - L) % 4 = j - (L + 4 + 4 + 4) by omega]; rfl
      · rw [if_pos (by omega), e, show (j - L) % 4 = j - (L + 4 + 4 + 4 + 4) by omega]; rfl
  · rw [if_pos (show (580 : Int32) < nI L from nI_lt (a := 580) (by omega) (by omega)), if_neg (show ¬ nI L + (20 : Int32) ≤ 600 from fun q => by
      rw [show nI L + (20 : Int32) = nI (L + 20) by rw [show (20 : Int32) = nI 20 from rfl, nI_add], fa_le, nI_toInt (by omega)] at q
      exact absurd (show ((L + 20 : Nat) : Int) ≤ ((600 : Nat) : Int) from q) (by omega))]
    exact ⟨-1, L, u, tx, tm, rfl, rfl, h⟩
theorem A_end {F L : Nat} {u : Nat → Nat} {tx tm : AA} (h : TP L u tx tm) (v : Int32) : ∃ r L', p_X10_end F (nI L) v = some (r, nI L') ∧ p_X11_end F (nI L) v = some (r, nI L') ∧ TP L' u tx tm := by
  have hL := h.1
  unfold p_X10_end p_X11_end
  by_cases q : v < 0
  · rw [if_pos q]; exact ⟨-1, L, rfl, rfl, h⟩
  · rw [if_neg q]
    by_cases q2 : v ≤ nI L
    · rw [if_pos q2]
      obtain ⟨j, hj, rfl⟩ := rng_of (N := L) (by omega) rfl ⟨i32_nlt.mp q, q2⟩
      exact ⟨nI j, j, rfl, rfl, by omega, fun i hi => h.2 i (by omega)⟩
    · rw [if_neg q2]; exact ⟨-1, L, rfl, rfl, h⟩
