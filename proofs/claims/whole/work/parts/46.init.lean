/-! what both begin with -/
section Ini
variable {F n k b : Nat}
theorem J74_one {x6 x7 c1 : Int32} {A1 A2 A3 A4 A5 A7 A8 A9 : AA} {z : Int32 × Int32 × AA × AA × AA × AA × AA × AA × AA × AA} (h : p_X0_chooseColumns_J74 F x6 x7 c1 A1 A2 A3 A4 A5 A7 A8 A9 = some z) : z.1 = 1 := by
  unfold p_X0_chooseColumns_J74 at h
  cases e : p_X1_lookUpAnew F x6 x7 A7 A8 A9 with
  | none => rw [e] at h; cases h
  | some q =>
    rw [e] at h
    simp only [Option.bind_some, Option.some.injEq] at h
    rw [← h]
theorem first_one (hF : 1000 < F) (hn : n ≤ 24) (hk4 : 4 ≤ k) (hk : k ≤ 8) (hcn : n ≤ cN k) {x0 : Int32} {a1 a2 a3 a4 a5 a7 a8 a9 : AA} {z : Int32 × Int32 × AA × AA × AA × AA × AA × AA × AA × AA} (h : p_X0_chooseColumns F x0 a1 a2 a3 a4 a5 (nI n) (nI k) a7 a8 a9 (nI 0) = some z) : z.1 = 1 := by
  have hc := cN_le hk
  unfold p_X0_chooseColumns at h
  rw [X0_listInOrder hF hk4 hk] at h
  simp only [Option.bind_some] at h
  rw [if_pos (show nI n ≤ nI (ordL k).length from nI_le hcn (by have : (ordL k).length = cN k := rfl; omega)), X0_freeAll hF, X1_placeChecks hF (by omega)] at h
  simp only [Option.bind_some] at h
  rw [if_neg (show ¬ nI 0 = 2 by decide), if_neg (show ¬ nI 0 = 1 by decide)] at h
  split at h
  · cases h
  · exact J74_one h
theorem wh_0 (hn : n < 32) (col : AA) : whI n k col 0 = 0 := by
  have e : (0 : Int32) &&& mk n = 0 := b_ext fun i _ => by rw [b_and, b_0]; rfl
  unfold whI
  rw [e, sy_zero col (fun p _ => b_0 p)]
  exact b_ext fun i hi => by rw [b_or, b_0, b_shl n hn 0 hi, b_0, Bool.and_false]; rfl
/-- the first columns of the class, and all that the model lays at its start -/
theorem init_both {lets tm : AA} (hF : 3000000 < F) (hl : LT lets) (c0 : Int32) (a1 a2 a3 a4 a5 a7 a8 a9 : AA) (s4 s5 s6 : AA) (B M S Y T : AA) (hz : ∀ w, w < 16 → B w = 0 ∧ M w = 0 ∧ S w = 0 ∧ Y w = 0) (hzt : ∀ t, t < 8 → T t = 0)
    (y9 y10 y11 y12 y13 x14 x15 x19 x20 x49 x50 : Int32) (mq : MqT) (dat chk wy to al mbf : AA) :
    ∃ c1 A1 A2 A3 A4 A5 A7 A8 A9, p_X0_chooseColumns F c0 a1 a2 a3 a4 a5 8 5 a7 a8 a9 0 = some (1, c1, A1, A2, A3, A4, A5, A7, A8, A9) ∧
    ∃ da0 ck0 wy0 to0, p_X11_clearBank F x14 x15 x19 x20 dat chk wy to 0 = some (0, -1, 0, 0, da0, ck0, wy0, to0) ∧
    ∃ (g : G5) (mq' : MqT) (to' : AA), p_X11_finish F 0 y9 y10 y11 y12 y13 0 (-1) 0 0 mq.1 mq.2.1 da0 ck0 wy0 to0 tm lets mq.2.2.1 mq.2.2.2.1 mq.2.2.2.2.1 mq.2.2.2.2.2.1 mq.2.2.2.2.2.2.1 mq.2.2.2.2.2.2.2 0 = some (mk21 g 0 (-1) 0 1 mq' da0 ck0 wy0 to') ∧
    ∃ al' mbf', p_X11_startAnew F 0 x49 x50 al da0 to' mbf = some (0, 0, al', mbf') ∧ mbf' 0 = 0 ∧ mbf' 1 = 0 ∧ MB 0 8 5 da0 ck0 ∧ SX 8 5 (8, 5, 0, va_cpy A7 s4 0 0 32, va_cpy A8 s5 0 0 256, va_cpy A9 s6 0 0 256, B, M, S, Y, T) al' := by
  obtain ⟨r, c1, m27, m28, A1, A2, A3, A4, A5, A7, A8, A9, B1, B2, B3, B4, B5, B6, hr, hok, hX, hM⟩ := choose_both (n := 8) (k := 5) hF (by decide) (by decide) (by decide) (by decide) (w := 0) (by decide) c0 mq.1 mq.2.1 a1 a2 a3 a4 a5 a7 a8 a9 mq.2.2.1 mq.2.2.2.1 mq.2.2.2.2.1 mq.2.2.2.2.2.1 mq.2.2.2.2.2.2.1 mq.2.2.2.2.2.2.2
  have h1 : r = 1 := first_one (by omega) (by decide) (by decide) (by decide) (by decide +kernel) hX
  subst h1
  obtain ⟨hc, ht, hB⟩ := hok rfl
  refine ⟨c1, A1, A2, A3, A4, A5, A7, A8, A9, hX, _, _, _, _, M_clear (b := 0) (by omega) (by decide), ?_⟩
  have hTP : TP 0 (fun _ => 0) tm tm := ⟨by omega, fun i hi => absurd hi (by omega)⟩
  obtain ⟨g, hsc, hMR⟩ := M_scanR (F := F) (z10 := y10) (z11 := y11) (z12 := y12) (z13 := y13) (by omega) hTP hl (p := 0) (Nat.le_refl _)
  have hk0 : tK 0 (fun _ => 0) (tJ 0 (fun _ => 0) 0) = 0 := rfl
  have ht0 : g.2.2.1 = 0 := by rw [hMR.2.2.1, hk0]; rfl
  have hC := M_chooses (F := F) (b := 0) (x10 := g.2.1) (x15 := -1) (mq := mq) (da := upd dat 0 8) (ck := upd chk 0 5) (wy := upd wy 0 0) (to := fun j => if 121 * 0 ≤ j ∧ j < 121 * 0 + 121 then 0 else to j) (by omega) (by decide) hM
  rw [if_neg i32_1_0, if_neg i32_1_0] at hC
  obtain ⟨f, hf⟩ : ∃ f, F = f + 1 := ⟨F - 1, by omega⟩
  have hE := ML_end (F := F) (L := 0) (tm := tm) (lets := lets) (b := 0) (f := f) (g := g) (sn := 0) (ch := 0) (mq := mq) (mq' := (m27, m28, B1, B2, B3, B4, B5, B6)) (fd := 0) (fa := -1) (ch' := 1) (to' := stC 0 (fun j => if 121 * 0 ≤ j ∧ j < 121 * 0 + 121 then 0 else to j) B2) (by omega) (by decide) ht0 hC
  refine ⟨g, (m27, m28, B1, B2, B3, B4, B5, B6), cpW 0 (stC 0 (fun j => if 121 * 0 ≤ j ∧ j < 121 * 0 + 121 then 0 else to j) B2), ?_, ?_⟩
  · unfold p_X11_finish
    rw [show p_X11_scan F 0 0 y10 y11 y12 y13 tm lets = some g from hsc]
    refine Eq.trans ?_ hE
    show p_X11_finish_L9 F (nI 0) tm lets (nI 0) F _ _ _ _ _ _ _ _ _ _ _ _ _ _ _ _ _ _ _ _ _ = _
    rw [hf]
    rfl
  · have hG : Gd 8 5 0 A7 A8 A9 (fun _ => 0) 0 (upd dat 0 8) (upd chk 0 5) (cpW 0 (stC 0 (fun j => if 121 * 0 ≤ j ∧ j < 121 * 0 + 121 then 0 else to j) B2)) := by
      refine ⟨hc, ht, Or.inl rfl, rfl, rfl, fun p hp => ?_, ?_, fun w hw => ⟨0, by decide, rfl, ?_, ?_⟩, fun x h1 h2 => ?_⟩
      · unfold cpW stC; rw [if_neg (by omega), if_pos (by omega), show 121 * 0 + p - 121 * 0 = p by omega]; exact hB p hp
      · unfold cpW stC; rw [if_neg (by omega), if_neg (by omega)]; exact if_pos (by omega)
      · unfold cpW stC; rw [if_neg (by omega), if_neg (by omega)]; exact if_pos (by omega)
      · unfold cpW stC; rw [if_pos (by omega), if_neg (by omega)]; exact if_pos (by omega)
      · unfold cpW stC; rw [if_neg (by omega), if_neg (by omega)]; exact if_pos (by omega)
    have hcc : CodeOK 8 5 (va_cpy A7 s4 0 0 32) := hc.cong (fun p hp => cpy0 hp)
    obtain ⟨al', mbf', hSt, q1, q2, q3, q4⟩ := M_start (F := F) (b := 0) (n := 8) (k := 5) (dat := upd dat 0 8) (chk := upd chk 0 5) (x49 := x49) (x50 := x50) (al := al) (mbf := mbf) (to := cpW 0 (stC 0 (fun j => if 121 * 0 ≤ j ∧ j < 121 * 0 + 121 then 0 else to j) B2)) (by omega) (by decide) rfl rfl hcc (fun p hp => by rw [cpy0 (by omega)]; exact hG.2.2.2.2.2.1 p hp)
    refine ⟨al', mbf', hSt, q3, q4, ⟨by decide, rfl, rfl⟩, rfl, rfl, ?_⟩
    refine start_SR (b := 0) (col' := va_cpy A7 s4 0 0 32) (pl' := va_cpy A8 s5 0 0 256) (prT' := va_cpy A9 s6 0 0 256) hG (fun p hp => cpy0 hp) (fun p hp => cpy0 hp) (fun p hp => cpy0 hp) (fun w hw => ?_) hzt q1 q2
    obtain ⟨e1, e2, e3, e4⟩ := hz w hw
    have ew : whI 8 5 (va_cpy A7 s4 0 0 32) 0 = 0 := wh_0 (by decide) _
    show B w = whI 8 5 (va_cpy A7 s4 0 0 32) 0 ∧ M w = whI 8 5 (va_cpy A7 s4 0 0 32) 0 ∧ S w = 0 ∧ Y w = sy (va_cpy A7 s4 0 0 32) (whI 8 5 (va_cpy A7 s4 0 0 32) 0) (8 + 5)
    rw [ew, e1, e2, e3, e4, sy_zero _ (fun p _ => b_0 p)]
    exact ⟨rfl, rfl, rfl, rfl⟩
end Ini
