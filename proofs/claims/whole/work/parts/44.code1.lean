/-! a code is told: both begin anew, or both find the fault -/
section Cod
variable {F b n k a gc gn : Nat} {dat chk : AA} {la un pr : Int32} {col pl prT bits mea stk syn tal al was : AA} {st : Nat → Option Nat} {o : Nx}
/-- all words at the start -/
theorem X9_begin (hF : 1000 < F) (hn : n < 31) (hm : n + k ≤ 32) (td : AA) : ∃ bits' mea' stk' syn' tal', p_X9_beginWith F bits mea stk syn tal (nI n) (nI k) col td = some (bits', mea', stk', syn', tal') ∧ (∀ w, w < 16 → bits' w = whI n k col (td w) ∧ mea' w = whI n k col (td w) ∧ stk' w = 0 ∧ syn' w = sy col (whI n k col (td w)) (n + k)) ∧ ∀ t, t < 8 → tal' t = 0 := by
  have key : ∀ (d i fuel : Nat) (A B S T U : AA), i + d = 16 → d < fuel → (∀ w, w < 16 → S w = 0) → (∀ w, w < i → A w = whI n k col (td w) ∧ B w = whI n k col (td w) ∧ T w = sy col (whI n k col (td w)) (n + k)) →
      ∃ A' B' T', p_X9_beginWith_L18 F (nI n) (nI k) col td fuel (nI i) A B S T U = some (A', B', S, T', U) ∧ ∀ w, w < 16 → A' w = whI n k col (td w) ∧ B' w = whI n k col (td w) ∧ T' w = sy col (whI n k col (td w)) (n + k) := by
    intro d
    induction d with
    | zero =>
      intro i fuel A B S T U hi hf hS h
      cases fuel with
      | zero => exact absurd hf (by omega)
      | succ fuel =>
        have e : i = 16 := by omega
        subst e
        exact ⟨A, B, T, rfl, h⟩
    | succ d ih =>
      intro i fuel A B S T U hi hf hS h
      cases fuel with
      | zero => exact absurd hf (by omega)
      | succ fuel =>
        have g : ¬ ixBad (nI i) 16 := ixg (by omega) (by decide)
        have c1 : (nI i).toNatClampNeg = i := nI_clamp (by omega)
        have hp : putB (S i) (A i) (whI n k col (td i)) = whI n k col (td i) := by
          rw [hS i (by omega)]
          unfold putB
          exact b_ext fun j hj => by simp only [b_or, b_and, b_xor, b_0, b_m1 j hj, Bool.and_false, Bool.or_false, Bool.false_xor, Bool.and_true]
        obtain ⟨A', B', T', e, h'⟩ := ih (i + 1) fuel (upd A i (whI n k col (td i))) (upd B i (whI n k col (td i))) S (upd T i (sy col (whI n k col (td i)) (n + k))) U (by omega) (by omega) hS (fun w hw => by
          simp only [upd_at]
          by_cases e : w = i
          · subst e; simp only [↓reduceIte, and_self]
          · simp only [e, ↓reduceIte]; exact h w (by omega))
        refine ⟨A', B', T', ?_, h'⟩
        show p_X9_beginWith_L18b F (nI n) (nI k) col td (p_X9_beginWith_L18 F (nI n) (nI k) col td fuel) (nI i) A B S T U = _
        unfold p_X9_beginWith_L18b
        rw [if_neg (show ¬ (16 : Int32) ≤ nI i from nI_ge (b := 16) (by omega) (by decide)), if_neg (show ¬ (16 : Int32) ≤ nI i from nI_ge (b := 16) (by omega) (by decide))]
        simp only [g, c1, ↓reduceIte]
        rw [X9_writeMeant (by omega) hn hm (by omega), hp]
        simp only [Option.bind_some, nI_1]
        exact e
  obtain ⟨A', B', T', e, h'⟩ := key 16 0 F bits mea (fun j => if j < 16 then 0 else stk j) syn (fun j => if j < 8 then 0 else tal j) (by omega) (by omega) (fun w hw => by simp only [hw, ↓reduceIte]) (fun w hw => by omega)
  unfold p_X9_beginWith
  rw [fill_eq F 16 stk 0 (by decide) (by omega), fill_eq F 8 tal 0 (by decide) (by omega)]
  simp only [Option.bind_some]
  exact ⟨A', B', _, T', _, e, fun w hw => ⟨(h' w hw).1, (h' w hw).2.1, by simp only [hw, ↓reduceIte], (h' w hw).2.2⟩, fun t ht => by simp only [ht, ↓reduceIte]⟩
theorem M_start {to mbf : AA} {x49 x50 : Int32} (hF : 1000 < F) (hb : b < 2) (hd : dat b = nI n) (hk : chk b = nI k) (hc : CodeOK n k col) (hto : ∀ p, p < n + k → to (121 * b + p) = col p) :
    ∃ al' mbf', p_X11_startAnew F (nI b) x49 x50 al dat to mbf = some (0, 0, al', mbf') ∧ (∀ j, j < 121 → (j < 49 ∨ 65 ≤ j) → al' j = to (121 * b + j)) ∧ (∀ w, w < 16 → al' (49 + w) = sy col (to (121 * b + 33 + w)) n) ∧ mbf' 0 = 0 ∧ mbf' 1 = 0 := by
  have hm := hc.hm
  have h82 : ∀ A : AA, ∃ mbf', p_X11_startAnew_L82 F (nI b) dat to F 0 0 0 A mbf = some (0, 0, A, mbf') ∧ mbf' 0 = 0 ∧ mbf' 1 = 0 := fun A => by
    obtain ⟨f, rfl⟩ : ∃ f, F = f + 3 := ⟨F - 3, by omega⟩
    exact ⟨_, rfl, rfl, rfl⟩
  have h36 : ∀ (d i fuel : Nat) (A : AA), i + d = 16 → d < fuel → (∀ j, j < 121 → (j < 49 ∨ 65 ≤ j) → A j = to (121 * b + j)) → (∀ w, w < i → A (49 + w) = sy col (to (121 * b + 33 + w)) n) →
      ∃ al' mbf', p_X11_startAnew_L36 F (nI b) dat to fuel (nI i) x49 x50 A mbf = some (0, 0, al', mbf') ∧ (∀ j, j < 121 → (j < 49 ∨ 65 ≤ j) → al' j = to (121 * b + j)) ∧ (∀ w, w < 16 → al' (49 + w) = sy col (to (121 * b + 33 + w)) n) ∧ mbf' 0 = 0 ∧ mbf' 1 = 0 := by
    intro d
    induction d with
    | zero =>
      intro i fuel A hi hf h1 h2
      cases fuel with
      | zero => exact absurd hf (by omega)
      | succ fuel =>
        have e : i = 16 := by omega
        subst e
        obtain ⟨mbf', e, q1, q2⟩ := h82 A
        exact ⟨A, mbf', e, h1, h2, q1, q2⟩
    | succ d ih =>
      intro i fuel A hi hf h1 h2
      cases fuel with
      | zero => exact absurd hf (by omega)
      | succ fuel =>
        have e33 : (33 : Int32) + nI i = nI (33 + i) := nI_lit 33 i
        have e49 : (49 : Int32) + nI i = nI (49 + i) := nI_lit 49 i
        have g33 : ¬ ixBad (nI (33 + i)) 121 := ixg (by omega) (by decide)
        have g49 : ¬ ixBad (nI (49 + i)) 121 := ixg (by omega) (by decide)
        have c33 : (nI (33 + i)).toNatClampNeg = 33 + i := nI_clamp (by omega)
        have c49 : (nI (49 + i)).toNatClampNeg = 49 + i := nI_clamp (by omega)
        have hmc : MC b n k A dat chk col (A 32) := ⟨hb, hd, hk, hc.1, hc.2.1, hc.2.2.1, hc.2.2.2.1, fun p hp => by rw [h1 p (by omega) (Or.inl (by omega)), hto p hp], rfl, hc.2.2.2.2.2.1⟩
        obtain ⟨al', mbf', e, q⟩ := ih (i + 1) fuel (upd A (49 + i) (sy col (to (121 * b + 33 + i)) n)) (by omega) (by omega) (fun j hj hor => by rw [upd_at, if_neg (by omega)]; exact h1 j hj hor) (fun w hw => by
          rw [upd_at]
          by_cases e : w = i
          · subst e; rw [if_pos rfl]
          · rw [if_neg (by omega)]; exact h2 w (by omega))
        refine ⟨al', mbf', ?_, q⟩
        show p_X11_startAnew_L36b F (nI b) dat to (p_X11_startAnew_L36 F (nI b) dat to fuel) (nI i) x49 x50 A mbf = _
        unfold p_X11_startAnew_L36b
        rw [if_neg (show ¬ (16 : Int32) ≤ nI i from nI_ge (b := 16) (by omega) (by decide))]
        simp only [e33, e49, g33, g49, c33, c49, ↓reduceIte]
        rw [hmc.checks (by omega), h1 (33 + i) (by omega) (Or.inl (by omega)), show 121 * b + (33 + i) = 121 * b + 33 + i by omega]
        simp only [Option.bind_some, nI_1]
        exact e
  have key := fold_loop (fun fuel (z : AA) i => p_X11_startAnew_L2 F (nI b) dat to fuel i x49 x50 z mbf) (fun z => p_X11_startAnew_L36 F (nI b) dat to F (nI 0) x49 x50 z mbf) (fun i (z : AA) => upd z i (rwA to b i)) (fun _ _ => True) 121 (fun fuel i z hi _ => by
      show p_X11_startAnew_L2b F (nI b) dat to _ (nI i) x49 x50 z mbf = _
      have g : ¬ ixBad (nI i) 121 := ixg hi (by decide)
      have e : (121 : Int32) * nI b + nI i = nI (121 * b + i) := by rw [show (121 : Int32) = nI 121 from rfl, pk_mul, nI_add]
      have g2 : ¬ ixBad (nI (121 * b + i)) 242 := ixg (by omega) (by decide)
      have c2 : (nI i).toNatClampNeg = i := nI_clamp (by omega)
      have c3 : (nI (121 * b + i)).toNatClampNeg = 121 * b + i := nI_clamp (by omega)
      unfold p_X11_startAnew_L2b
      rw [if_neg (show ¬ (121 : Int32) ≤ nI i from nI_ge (b := 121) hi (by decide))]
      simp only [g, g2, c2, c3, e, ↓reduceIte, nI_1]
      rfl) (fun fuel z _ => rfl) (fun _ _ _ _ => trivial) 121 0 F al (by omega) (by omega) trivial
  rw [cpy_fold] at key
  obtain ⟨al', mbf', e, q⟩ := h36 16 0 F (fun j => if j < 121 then rwA to b j else al j) (by omega) (by omega) (fun j hj _ => by simp only [hj, ↓reduceIte]; rfl) (fun w hw => by omega)
  exact ⟨al', mbf', key.trans e, q⟩
/-- a code told whole: the state that both begin with -/
theorem start_SR {prd : Int32} {cold pld prTd td to al' bits' mea' stk' syn' tal' col' pl' prT' : AA} (hG : Gd n k prd cold pld prTd td b dat chk to) (ec : ∀ p, p < 32 → col' p = cold p) (ep : ∀ p, p < 256 → pl' p = pld p) (eq : ∀ p, p < 256 → prT' p = prTd p)
    (hw : ∀ w, w < 16 → bits' w = whI n k col' (td w) ∧ mea' w = whI n k col' (td w) ∧ stk' w = 0 ∧ syn' w = sy col' (whI n k col' (td w)) (n + k)) (ht : ∀ t, t < 8 → tal' t = 0)
    (h1 : ∀ j, j < 121 → (j < 49 ∨ 65 ≤ j) → al' j = to (121 * b + j)) (h2 : ∀ w, w < 16 → al' (49 + w) = sy col' (to (121 * b + 33 + w)) n) : SR n k prd col' pl' prT' bits' mea' stk' syn' tal' al' := by
  obtain ⟨hc, htb, hpr, _, _, hto, h32, htd, hz⟩ := hG
  have hm := hc.hm
  have hn24 := hc.2.1
  have hc' : CodeOK n k col' := hc.cong ec
  have ec' : ∀ p, p < n + k → col' p = cold p := fun p hp => ec p (by omega)
  refine ⟨hpr, hc', fun s hs => ?_, ⟨fun _ => (-1, -1), fun p hp => ?_, ?_, fun w hw' => ?_, fun t ht' => ?_⟩, fun w hw' => ?_, fun w hw' => ?_⟩
  · rw [ep s hs, eq s hs, plc_cong ec', prc_cong ec']; exact htb s hs
  · rw [h1 p (by omega) (Or.inl (by omega)), hto p hp, ec' p hp]
  · rw [h1 32 (by omega) (Or.inl (by omega))]; exact h32
  · obtain ⟨v, hv, e1, e2, e3⟩ := htd w hw'
    obtain ⟨q1, q2, q3, q4⟩ := hw w hw'
    have eD : DD n (td w) = nI v := by rw [e1, DD_nI hn24 hv]
    refine ⟨?_, ?_, ?_, Or.inl ⟨q3, rfl, rfl, ?_, ?_⟩⟩
    · rw [q1, wh_DD (by omega), eD, h1 (33 + w) (by omega) (Or.inl (by omega)), show 121 * b + (33 + w) = 121 * b + 33 + w by omega, e3]
    · rw [q1, wh_CC (by omega) hm hc'.colK, eD, h2 w hw', e3]
    · rw [q2, wh_DD (by omega), eD, h1 (65 + w) (by omega) (Or.inr (by omega)), show 121 * b + (65 + w) = 121 * b + 65 + w by omega, e2]
    · rw [h1 _ (by omega) (Or.inr (by omega))]; exact hz _ (by omega) (by omega)
    · rw [h1 _ (by omega) (Or.inr (by omega))]; exact hz _ (by omega) (by omega)
  · rw [h1 _ (by omega) (Or.inr (by omega)), ht t ht']; exact hz _ (by omega) (by omega)
  · obtain ⟨q1, q2, q3, q4⟩ := hw w hw'
    rw [q2]
    exact ⟨wh_fit (by omega) hc'.colK, wh_sy (by omega) hm hc'.2.2.2.1 hc'.colK hc'.2.2.2.2.2.1⟩
  · obtain ⟨q1, q2, q3, q4⟩ := hw w hw'
    show Fit (n + k) (bits' w) ∧ syn' w = sy col' (bits' w) (n + k)
    rw [q1, q4]
    exact ⟨wh_fit (by omega) hc'.colK, rfl⟩
theorem M_clear {x14 x15 x19 x20 : Int32} {wy to : AA} (hF : 1000 < F) (hb : b < 2) : p_X11_clearBank F x14 x15 x19 x20 dat chk wy to (nI b) = some (0, -1, 0, 0, upd dat b 8, upd chk b 5, upd wy b 0, fun j => if 121 * b ≤ j ∧ j < 121 * b + 121 then 0 else to j) := by
  have g0 : ¬ ixBad (nI b) 2 := ixg hb (by decide)
  have c0 : (nI b).toNatClampNeg = b := nI_clamp (by omega)
  have key := fold_loop (fun fuel (z : AA) i => p_X11_clearBank_L24 F (nI b) fuel i x14 x15 x19 x20 (upd dat b 8) (upd chk b 5) (upd wy b 0) z) (fun z => some (0, -1, 0, 0, upd dat b 8, upd chk b 5, upd wy b 0, z)) (fun i (z : AA) => upd z (121 * b + i) ((fun _ => 0 : AA) i)) (fun _ _ => True) 121 (fun fuel i z hi _ => by
      show p_X11_clearBank_L24b F (nI b) _ (nI i) x14 x15 x19 x20 (upd dat b 8) (upd chk b 5) (upd wy b 0) z = _
      have e : (121 : Int32) * nI b + nI i = nI (121 * b + i) := by rw [show (121 : Int32) = nI 121 from rfl, pk_mul, nI_add]
      have g2 : ¬ ixBad (nI (121 * b + i)) 242 := ixg (by omega) (by decide)
      have c3 : (nI (121 * b + i)).toNatClampNeg = 121 * b + i := nI_clamp (by omega)
      unfold p_X11_clearBank_L24b
      rw [if_neg (show ¬ (121 : Int32) ≤ nI i from nI_ge (b := 121) hi (by decide))]
      simp only [g2, c3, e, ↓reduceIte, nI_1]) (fun fuel z _ => rfl) (fun _ _ _ _ => trivial) 121 0 F to (by omega) (by omega) trivial
  rw [row121_fold] at key
  unfold p_X11_clearBank
  simp only [g0, c0, ↓reduceIte]
  exact key
end Cod
