/-! small queries -/
theorem ite0 {α : Type} (c : Prop) [Decidable c] (x y : α) : (if (if c then (1 : Int32) else 0) = 0 then x else y) = if c then y else x := by
  by_cases h : c
  · rw [if_pos h, if_pos h, if_neg (by decide)]
  · rw [if_neg h, if_neg h, if_pos rfl]
theorem i32_1_0 : ¬ ((1 : Int32) = 0) := by decide
theorem isIn_inL {F j : Nat} (N : Nat) (c : Int32) (hc : c = nI N - 1) (h : j < N) (hN : N < 2 ^ 31) : p_X11_isIn F (nI j) 0 c = some 1 := by rw [hc]; exact isIn_in h hN
theorem isIn_outL {F : Nat} {v : Int32} (N : Nat) (c : Int32) (hc : c = nI N - 1) (h0 : 0 < N) (hN : N < 2 ^ 31) (h : v < 0 ∨ nI N ≤ v) : p_X11_isIn F v 0 c = some 0 := by rw [hc]; exact isIn_out h0 hN h
theorem pred_toInt {N : Nat} {c : Int32} (hc : c = nI N - 1) (h0 : 0 < N) (hN : N < 2 ^ 31) : c.toInt = N - 1 := by
  have e : nI N - 1 = nI (N - 1) := by have := nI_pred (N - 1); rw [show N - 1 + 1 = N by omega] at this; exact this
  rw [hc, e, nI_toInt (by omega)]; omega
theorem cls_in {α : Type} {j : Nat} (N : Nat) (c : Int32) (hc : c = nI N - 1) (h : j < N) (hN : N < 2 ^ 31) (X Y Z : α) : (if nI j < 0 then X else if nI j ≤ c then Y else Z) = Y := by
  rw [if_neg (nI_pos (by omega)), if_pos]
  rw [fa_le, pred_toInt hc (by omega) hN, nI_toInt (by omega)]; omega
theorem cls_out {α : Type} {v : Int32} (N : Nat) (c : Int32) (hc : c = nI N - 1) (h0 : 0 < N) (hN : N < 2 ^ 31) (h : v < 0 ∨ nI N ≤ v) (X Y : α) : (if v < 0 then X else if v ≤ c then Y else X) = X := by
  by_cases h1 : v < 0
  · rw [if_pos h1]
  · have h2 := out_neg h h1
    rw [if_neg h1, if_neg]
    rw [fa_le, nI_toInt hN] at h2
    rw [fa_le, pred_toInt hc h0 hN]; omega
section Qry3
variable {F b n k g a : Nat} {dat chk : Nat → Int32} {pr : Int32} {col pl prT bits mea stk syn tal al : Nat → Int32} {st : Nat → Option Nat}
theorem Q_fault (F : Nat) (x y v : Int32) : ∃ r, p_X10_fault F x y v = some r ∧ p_X11_fault F x y v = some r := by
  unfold p_X10_fault p_X11_fault
  simp only [ite_some]
  exact ⟨_, rfl, rfl⟩
theorem Q_about (hF : 40 < F) (ha : a < 13) (hs : st a = some g) (hb : MB b n k dat chk) (h : SR n k pr col pl prT bits mea stk syn tal al) {l u : Nat} (hl : l = a + u) (tp v : Int32) : ∃ r, p_X10_about F g tp (nI a) (nI l) st (nI n) (nI k) pr bits mea syn v = some r ∧ p_X11_about F (nI b) tp (nI a) (nI u) al dat chk v = some r := by
  obtain ⟨h1, hc, ht, ⟨ab, hR⟩, hW, hI⟩ := h
  have hbc := hc.bc hb
  have e1 : (if pr = 0 then (0 : Int32) else 1) = pr := by rcases h1 with rfl | rfl <;> rfl
  have e2 : al (Int32.toNatClampNeg 32) = pr := hR.2.1
  have e3 : nI l - nI a = nI u := by rw [hl, ← nI_add, Int32.add_comm, Int32.add_sub_cancel]
  unfold p_X10_about p_X11_about
  rw [now_eq ha hs, M_data hb.1 hb.2.1, M_chk hb.1 hb.2.2, X9_unclean hF, X9_notMeant hF, M_slipped hF hbc hR hI, M_strangeSet hF hbc hR hW]
  simp only [Option.bind_some, ite_some, e1, e2, e3]
  exact ⟨_, rfl, rfl⟩
theorem Q_reading (hF : 40 < F) (ha : a < 13) (hs : st a = some g) (hb : MB b n k dat chk) (h : SR n k pr col pl prT bits mea stk syn tal al) (y0 y1 y2 z0 z1 z2 z3 v w : Int32) : ∃ r y z, p_X10_reading F g (nI a) st y0 y1 y2 (nI n) pr col pl prT bits mea stk syn v w = some (r, y) ∧ p_X11_reading F (nI b) z0 z1 z2 z3 al dat chk v w = some (r, z) := by
  obtain ⟨h1, hc, ht, ⟨ab, hR⟩, hW, hI⟩ := h
  have hbc := hc.bc hb
  have hm := hc.hm
  have hn : n < 31 := by have := hc.2.1; omega
  unfold p_X10_reading p_X11_reading
  rcases rng v (N := 16) (by decide) with ⟨j, hj, rfl⟩ | ho
  · rw [(isWord_in hj).1, (isWord_in hj).2]
    simp only [Option.bind_some]
    rw [if_neg i32_1_0, if_neg i32_1_0]
    rcases rng w (N := 4) (by decide) with ⟨q, hq, rfl⟩ | ho
    · have g1 : ¬ ixBad (nI j) 16 := ixg hj (by decide)
      have c : (nI j).toNatClampNeg = j := nI_clamp (by omega)
      have hx := hI j hj
      unfold p_X9_readWord
      rw [show (3 : Int32) = nI 4 - 1 from rfl, isIn_in hq (by decide), if_neg (nI_pos (by omega)), if_pos (show nI q ≤ nI 4 - 1 from nI_le (b := 3) (by omega) (by decide)), now_eq ha hs]
      simp only [Option.bind_some, g1, c, ↓reduceIte]
      rw [if_neg i32_1_0, X2_read hF hm hc.colB ht (hR.stk j hj) h1, M_readWord hF hbc hR hj hx.1, ← show syn j = sy col (bits j) (n + k) from hx.2]
      generalize rdS col (n + k) pr (syn j) (ab j).1 (ab j).2 = r
      simp only [Option.bind_some, X2_told, M_isTold, rrM, X1_mask hn, M_isRight hF hbc hR hW hj, ite0]
      rcases (show q = 0 ∨ q = 1 ∨ q = 2 ∨ q = 3 by omega) with rfl | rfl | rfl | rfl
      · exact ⟨_, _, _, rfl, rfl⟩
      · exact ⟨_, _, _, rfl, rfl⟩
      · by_cases e : r.1 = 3 ∨ r.1 = 4
        · refine ⟨-1, r, rrM n (bits j) r, ?_, ?_⟩
          · rw [if_neg (by decide), if_neg (by decide), if_pos e] <;> rfl
          · rw [if_pos (by decide), if_pos e] <;> rfl
        · refine ⟨DD n (bits j ^^^ r.2.2), r, rrM n (bits j) r, ?_, ?_⟩
          · rw [if_neg (by decide), if_neg (by decide), if_neg e, if_pos (by decide)] <;> rfl
          · rw [if_pos (by decide), if_neg e, if_pos (by decide)] <;> rfl
      · by_cases e : r.1 = 3 ∨ r.1 = 4
        · refine ⟨-1, r, rrM n (bits j) r, ?_, ?_⟩
          · rw [if_neg (by decide), if_neg (by decide), if_pos e] <;> rfl
          · rw [if_pos (by decide), if_pos e] <;> rfl
        · by_cases e2 : bits j ^^^ r.2.2 = mea j
          · refine ⟨1, r, rrM n (bits j) r, ?_, ?_⟩
            · rw [if_neg (by decide), if_neg (by decide), if_neg e, if_neg (by decide), if_pos e2] <;> rfl
            · rw [if_pos (by decide), if_neg e, if_neg (by decide), if_pos e2] <;> rfl
          · refine ⟨0, r, rrM n (bits j) r, ?_, ?_⟩
            · rw [if_neg (by decide), if_neg (by decide), if_neg e, if_neg (by decide), if_neg e2] <;> rfl
            · rw [if_pos (by decide), if_neg e, if_neg (by decide), if_neg e2] <;> rfl
    · rw [show (3 : Int32) = nI 4 - 1 from rfl, isIn_out (by decide) (by decide) ho]
      by_cases h1 : w < 0
      · rw [if_pos h1]; exact ⟨_, _, _, rfl, rfl⟩
      · have h2 := out_neg ho h1
        rw [if_neg h1, if_neg (fun q => by rw [fa_le] at h2 q; have e3 : (nI 4).toInt = 4 := rfl; have e4 : (nI 4 - 1).toInt = 3 := rfl; omega)]; exact ⟨_, _, _, rfl, rfl⟩
  · rw [(isWord_out ho).1, (isWord_out ho).2]
    exact ⟨_, _, _, rfl, rfl⟩
theorem M_stuckMany {w : Nat} (hw : w < 16) : p_X11_stuckMany F al (nI w) = some ((if al (81 + 2 * w) - 1 < 0 then 0 else 1) + (if al (82 + 2 * w) - 1 < 0 then 0 else 1)) := by
  unfold p_X11_stuckMany p_X11_stuckMany_J14 p_X11_stuckMany_J28
  rw [M_stuckAt0 hw, M_stuckAt1 hw]
  simp only [Option.bind_some]
  by_cases h1 : al (81 + 2 * w) - 1 < 0
  · by_cases h2 : al (82 + 2 * w) - 1 < 0
    · rw [if_pos h1, if_pos h2, if_pos h1, if_pos h2]
    · rw [if_pos h1, if_neg h2, if_pos h1, if_neg h2]
  · by_cases h2 : al (82 + 2 * w) - 1 < 0
    · rw [if_neg h1, if_pos h2, if_neg h1, if_pos h2]
    · rw [if_neg h1, if_neg h2, if_neg h1, if_neg h2]
theorem isIn_01 (F : Nat) {c w : Int32} (hw : w < 0 ∨ nI 2 ≤ w) (h : c = -1 ∨ c = 0 ∨ c = 1) : p_X11_isIn F w 0 c = some 0 := by
  have z2 : (nI 2).toInt = 2 := rfl
  have z0 : (0 : Int32).toInt = 0 := rfl
  have hc : c.toInt ≤ 1 := by rcases h with rfl | rfl | rfl <;> decide
  have : ¬ ((0 : Int32) ≤ w ∧ w ≤ c) := by
    intro q
    have q1 := (fa_le _ _).mp q.1
    have q2 := (fa_le _ _).mp q.2
    rcases hw with e | e
    · have := (fa_lt _ _).mp e; omega
    · have := (fa_le _ _).mp e; omega
  rw [M_isIn, if_neg this]
theorem Q_stuck (hF : 40 < F) (ha : a < 13) (hs : st a = some g) (h : SR n k pr col pl prT bits mea stk syn tal al) (v w : Int32) : ∃ r, p_X10_stuck F g (nI a) st stk v w = some r ∧ p_X11_stuck F al v w = some r := by
  obtain ⟨h1, hc, ht, ⟨ab, hR⟩, hW, hI⟩ := h
  have hm := hc.hm
  unfold p_X10_stuck p_X11_stuck
  rcases rng v (N := 16) (by decide) with ⟨j, hj, rfl⟩ | ho
  · obtain ⟨q1, q2, q3, q4⟩ := hR.2.2.1 j hj
    have g1 : ¬ ixBad (nI j) 16 := ixg hj (by decide)
    have c : (nI j).toNatClampNeg = j := nI_clamp (by omega)
    rw [(isWord_in hj).1, (isWord_in hj).2]
    simp only [Option.bind_some, g1, c, now_eq ha hs, low_eq hF, M_stuckMany hj, M_stuckAt0 hj, M_stuckAt1 hj]
    rw [if_neg i32_1_0, if_neg i32_1_0]
    generalize al (81 + 2 * j) = s0 at q4 ⊢
    generalize al (82 + 2 * j) = s1 at q4 ⊢
    generalize stk j = sk at q4 ⊢
    have n0 : ((0 : Int32) - 1 < 0) := by decide
    have hcl : ∀ i, (1 : Int32) <<< (nI i &&& 31) = oh i := fun _ => rfl
    rcases rng w (N := 2) (by decide) with ⟨q, hq, rfl⟩ | ho
    · rw [if_neg (nI_pos (by omega)), if_pos (show nI q ≤ 1 from nI_le (b := 1) (by omega) (by decide))]
      rcases q4 with ⟨e1, _, _, e4, e5⟩ | ⟨i, hi, e1, _, _, e4, e5⟩ | ⟨i, i2, hi, hi2, e1, _, _, e6⟩
      · subst e1 e4 e5
        rw [low_0]
        refine ⟨-1, by simp, ?_⟩
        rcases (show q = 0 ∨ q = 1 by omega) with rfl | rfl <;> rfl
      · subst e1 e4 e5
        have n1 : ¬ (nI (i + 1) - 1 < 0) := by rw [nI_s1]; exact nI_pos (by omega)
        rw [low_oh (by omega), if_neg n1, if_pos n0]
        rcases (show q = 0 ∨ q = 1 by omega) with rfl | rfl
        · refine ⟨nI i, by simp [show nI 0 = 0 from rfl], ?_⟩
          rw [show p_X11_isIn F (nI 0) 0 (1 + 0 - 1) = some 1 from rfl]
          simp only [Option.bind_some, i32_1_0, ↓reduceIte, nI_s1]
          rw [if_neg (by decide)]
        · refine ⟨-1, ?_, rfl⟩
          rw [hcl, oh_clear (by omega), low_0]
          simp [show ¬ nI 1 = 0 by decide, nI_ne_m1 (show i < 2 ^ 31 by omega)]
      · subst e1
        have n1 : ¬ (nI (i + 1) - 1 < 0) := by rw [nI_s1]; exact nI_pos (by omega)
        have n2 : ¬ (nI (i2 + 1) - 1 < 0) := by rw [nI_s1]; exact nI_pos (by omega)
        have hsum : (if s0 - 1 < 0 then (0 : Int32) else 1) + (if s1 - 1 < 0 then 0 else 1) - 1 = nI 2 - 1 := by
          rcases e6 with ⟨e6, e7⟩ | ⟨e6, e7⟩
          · rw [e6, e7, if_neg n1, if_neg n2]; rfl
          · rw [e6, e7, if_neg n1, if_neg n2]; rfl
        have hpos : (0 : Int32) ≤ s1 - 1 := by
          rcases e6 with ⟨e6, e7⟩ | ⟨e6, e7⟩
          · rw [e7, nI_s1]; exact nI_ge0 (by omega)
          · rw [e7, nI_s1]; exact nI_ge0 (by omega)
        have hlo : p_X11_less F (s0 - 1) (s1 - 1) = some (nI i) := by
          unfold p_X11_less
          rcases e6 with ⟨e6, e7⟩ | ⟨e6, e7⟩
          · rw [e6, e7, nI_s1, nI_s1, if_neg (nI_ge (by omega) (by omega))]
          · rw [e6, e7, nI_s1, nI_s1, if_pos (nI_le (by omega) (by omega))]
        have hhi : p_X11_more F (s0 - 1) (s1 - 1) = some (nI i2) := by
          unfold p_X11_more
          rcases e6 with ⟨e6, e7⟩ | ⟨e6, e7⟩
          · rw [e6, e7, nI_s1, nI_s1, if_pos (nI_le (by omega) (by omega))]
          · rw [e6, e7, nI_s1, nI_s1, if_neg (nI_ge (by omega) (by omega))]
        rw [hsum, low_oh2 hi (by omega), hlo, hhi, if_pos hpos, isIn_in hq (by decide), hcl, oh2_clear hi (by omega), low_oh (by omega)]
        simp only [Option.bind_some, i32_1_0, ↓reduceIte, nI_ne_m1 (show i < 2 ^ 31 by omega)]
        exact ⟨_, ite_some _ _ _, ite_some _ _ _⟩
    · have hz : (if w < 0 then some (-1 : Int32) else if w ≤ 1 then (if False then none else (if w = 0 then some (fi (fun i => bt sk i) 32) else if fi (fun i => bt sk i) 32 = -1 then some (fi (fun i => bt sk i) 32) else some (fi (fun i_1 => bt (sk &&& ((1 : Int32) <<< (fi (fun i => bt sk i) 32 &&& 31) ^^^ -1)) i_1) 32))) else some (-1)) = some (-1) := by
        by_cases w0 : w < 0
        · rw [if_pos w0]
        · have h2 := out_neg ho w0
          rw [if_neg w0, if_neg (fun q => by rw [fa_le] at h2 q; have e3 : (nI 2).toInt = 2 := rfl; have e4 : (1 : Int32).toInt = 1 := rfl; omega)]
      refine ⟨-1, hz, ?_⟩
      rw [isIn_01 F ho]
      · rfl
      · by_cases c1 : s0 - 1 < 0 <;> by_cases c2 : s1 - 1 < 0 <;> simp [c1, c2]
  · rw [(isWord_out ho).1, (isWord_out ho).2]
    exact ⟨-1, rfl, rfl⟩
end Qry3
