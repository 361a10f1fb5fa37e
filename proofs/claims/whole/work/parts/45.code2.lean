/-! the call 'code' -/
section Cod2
variable {F b n k a gc gn : Nat} {dat chk : AA} {la un pr : Int32} {col pl prT bits mea stk syn tal al was : AA} {st : Nat → Option Nat} {o : Nx}
theorem one_minus {b : Nat} (hb : b < 2) : (1 : Int32) - nI b = nI (1 - b) := by
  rcases (show b = 0 ∨ b = 1 by omega) with rfl | rfl <;> rfl
theorem PR_start {b : Nat} {td wy to : AA} {co : CoT} (htd : ∀ w, w < 16 → td w = 0) : PR b 0 0 0 (8, 5, 0) co td 0 (upd dat b 8) (upd chk b 5) (upd wy b 0) (fun j => if 121 * b ≤ j ∧ j < 121 * b + 121 then 0 else to j) := by
  refine ⟨8, 5, 0, 0, by decide, by decide, by decide, by decide, by decide, by decide, rfl, by rw [upd_at, if_pos rfl]; rfl, rfl, by rw [upd_at, if_pos rfl]; rfl, Or.inl rfl, ?_, rfl, by rw [upd_at, if_pos rfl]; rfl, rfl, ⟨by rw [b_0]; rfl, by rw [b_0]; rfl, by rw [b_0]; rfl, by rw [b_0]; rfl⟩, Or.inl rfl, fun q => absurd q (by decide), fun w hw => ⟨0, by decide, htd w hw, ?_, fun _ => rfl⟩, fun x h1 h2 => ?_⟩
  · show (if _ then _ else _) = _
    rw [if_pos (by omega)]
  · show (if _ then _ else _) = _
    rw [if_pos (by omega)]; rfl
  · show (if _ then _ else _) = _
    rw [if_pos (by omega)]
/-- what the call leaves -/
def CodeR (a b : Nat) (la un : Int32) (st : Nat → Option Nat) (gc gf : Nat) (bf mbf : AA) (o : Nx) (al dat chk : AA) (a1 l1 u1 : Int32) (st1 : Nat → Option Nat) (bf1 mbf1 : AA) (o1 : Nx) (b1 : Nat) (al1 da1 ck1 : AA) : Prop :=
  (a1 = nI a ∧ l1 = la ∧ u1 = un ∧ st1 = st ∧ bf1 = bf ∧ mbf1 = mbf ∧ o1 = o ∧ b1 = b ∧ al1 = al ∧ da1 b = dat b ∧ ck1 b = chk b) ∨
    (a1 = 0 ∧ l1 = 0 ∧ u1 = 0 ∧ st1 = va_up (va_up st a (some gf)) 0 (some gc) ∧ (bf1 0 = 0 ∧ bf1 1 = 0 ∧ mbf1 0 = 0 ∧ mbf1 1 = 0) ∧ ∃ n k, MB b1 n k da1 ck1 ∧ SX n k o1 al1)
theorem A_code {L gf : Nat} {u : Nat → Nat} {tx tm lets : AA} (hF : 3000000 < F) (ha : a < 13) (hs : st a = some gc) (h0 : st 0 = some gf) (hT : TP L u tx tm) (hl : LT lets) (hb : b < 2)
    (e0 e1 x4 x5 x6 x7 x8 x9 x10 x11 x12 x13 x14 : Int32) (Q : ChT) (d0 d1 d2 : Int32) (co : CoT) (td : AA) (bf mbf : AA)
    (y8 y9 y10 y11 y12 y13 y14 y15 y16 y17 y19 y20 : Int32) (mq : MqT) (wy to : AA) :
    ∃ (r f0 f1 z6 z7 z8 z9 z10 z11 z12 z13 z14 : Int32) (Q' : ChT) (d0' d1' d2' : Int32) (co' : CoT) (td' : AA) (a1 l1 : Int32) (st1 : Nat → Option Nat) (bf1 : AA) (o1 : Nx) (b1 : Nat) (w8 w9 w10 w11 w12 w13 w19 w20 u1 : Int32) (al1 da1 ck1 wy1 to1 mbf1 : AA) (mq' : MqT),
      p_X10_code F gc gf e0 e1 x4 x5 x6 x7 x8 x9 x10 x11 x12 x13 x14 (nI L) tx Q.1 Q.2.1 Q.2.2.1 Q.2.2.2.1 Q.2.2.2.2.1 Q.2.2.2.2.2 d0 d1 d2 co.1 co.2.1 co.2.2 td (nI a) la st bf o.1 o.2.1 o.2.2.1 o.2.2.2.1 o.2.2.2.2.1 o.2.2.2.2.2.1 o.2.2.2.2.2.2.1 o.2.2.2.2.2.2.2.1 o.2.2.2.2.2.2.2.2.1 o.2.2.2.2.2.2.2.2.2.1 o.2.2.2.2.2.2.2.2.2.2
        = some (r, f0, f1, f0, f1, z6, z7, z8, z9, z10, z11, z12, z13, z14, 0, Q'.1, Q'.2.1, Q'.2.2.1, Q'.2.2.2.1, Q'.2.2.2.2.1, Q'.2.2.2.2.2, d0', d1', d2', co'.1, co'.2.1, co'.2.2, td', a1, l1, st1, bf1, o1) ∧
      p_X11_code F (nI b) (nI L) y8 y9 y10 y11 y12 y13 y14 y15 y16 y17 y19 y20 mq.1 mq.2.1 (nI a) un al dat chk wy to tm lets mq.2.2.1 mq.2.2.2.1 mq.2.2.2.2.1 mq.2.2.2.2.2.1 mq.2.2.2.2.2.2.1 mq.2.2.2.2.2.2.2 mbf
        = some (r, nI b1, 0, w8, w9, w10, w11, w12, w13, f0, f1, f0, f1, w19, w20, mq'.1, mq'.2.1, a1, u1, al1, da1, ck1, wy1, to1, mq'.2.2.1, mq'.2.2.2.1, mq'.2.2.2.2.1, mq'.2.2.2.2.2.1, mq'.2.2.2.2.2.2.1, mq'.2.2.2.2.2.2.2, mbf1) ∧
      b1 < 2 ∧ CodeR a b la un st gc gf bf mbf o al dat chk a1 l1 u1 st1 bf1 mbf1 o1 b1 al1 da1 ck1 := by
  have hL := hT.1
  obtain ⟨g, hsc, hMR⟩ := M_scanR (F := F) (z10 := y10) (z11 := y11) (z12 := y12) (z13 := y13) (by omega) hT hl (p := 0) (Nat.zero_le _)
  have hP : PR (1 - b) 0 0 0 (8, 5, 0) co (fun j => if j < 16 then 0 else td j) 0 (upd dat (1 - b) 8) (upd chk (1 - b) 5) (upd wy (1 - b) 0) (fun j => if 121 * (1 - b) ≤ j ∧ j < 121 * (1 - b) + 121 then 0 else to j) := PR_start (fun w hw => by simp only [hw, ↓reduceIte])
  have hRes := parse_sim (F := F) hF hT hl (b := 1 - b) (by omega) (upd dat (1 - b) 8) (upd chk (1 - b) 5) (L + 1) 0 0 F F (x7, x8, x9) 0 0 0 x14 Q (8, 5, 0) co (fun j => if j < 16 then 0 else td j) g 0 mq (upd dat (1 - b) 8) (upd chk (1 - b) 5) (upd wy (1 - b) 0) (fun j => if 121 * (1 - b) ≤ j ∧ j < 121 * (1 - b) + 121 then 0 else to j) (by omega) ⟨by omega, by omega, by omega, by omega⟩ hMR hP (fun c _ => ⟨rfl, rfl⟩)
  have hC : p_X3_parse F x4 x5 x6 x7 x8 x9 x10 x11 x12 x13 x14 (nI L) tx Q.1 Q.2.1 Q.2.2.1 Q.2.2.2.1 Q.2.2.2.2.1 Q.2.2.2.2.2 d0 d1 d2 co.1 co.2.1 co.2.2 td = CL F L tx F 0 0 (x7, x8, x9) 0 0 0 0 x14 Q (8, 5, 0) co (fun j => if j < 16 then 0 else td j) := by
    unfold p_X3_parse p_X3_reset p_X1_resetSize
    rw [fill_eq F 16 td 0 (by decide) (by omega)]
    rfl
  have hM : p_X11_finish F (nI L) y9 y10 y11 y12 y13 0 (-1) 0 0 mq.1 mq.2.1 (upd dat (1 - b) 8) (upd chk (1 - b) 5) (upd wy (1 - b) 0) (fun j => if 121 * (1 - b) ≤ j ∧ j < 121 * (1 - b) + 121 then 0 else to j) tm lets mq.2.2.1 mq.2.2.2.1 mq.2.2.2.2.1 mq.2.2.2.2.2.1 mq.2.2.2.2.2.2.1 mq.2.2.2.2.2.2.2 (nI (1 - b)) = ML F L tm lets (1 - b) F g 0 (-1) 0 0 mq (upd dat (1 - b) 8) (upd chk (1 - b) 5) (upd wy (1 - b) 0) (fun j => if 121 * (1 - b) ≤ j ∧ j < 121 * (1 - b) + 121 then 0 else to j) := by
    unfold p_X11_finish
    rw [show p_X11_scan F (nI L) 0 y10 y11 y12 y13 tm lets = some g from hsc]
    rfl
  unfold p_X10_code p_X11_code
  rw [hC, one_minus hb, M_clear (by omega) (by omega)]
  simp only [Option.bind_some]
  rw [hM]
  have hbb : ∀ A : AA, ∀ v, upd A (1 - b) v b = A b := fun A v => by rw [upd_at, if_neg (by omega)]
  rcases hRes with ⟨q, pl', q1, q4, ⟨rest, hCF⟩, g', sn', ch', mq', da, ck, wy', to', hMS, hSm⟩ | ⟨z6, z7, z8, z9, z10, z11, z12, z14, Q', n', k', pr', col', pl', prT', td', hCR, g', sn', mq', da, ck, wy', to', hMS, hG, hSm⟩
  · rw [hCF, hMS]
    obtain ⟨r6, r7, r8, r9, r10, r11, r12, r13, r14, Q1, Q2, Q3, Q4, Q5, Q6, dd0, dd1, dd2, cc1, cc2, cc3, tt⟩ := rest
    unfold mk21
    simp only [Option.bind_some, ↓reduceIte]
    rw [if_neg (show ¬ nI q ≤ (0 : Int32) from fun qq => by rw [fa_le, nI_toInt (by omega)] at qq; exact absurd (show ((q : Nat) : Int) ≤ ((0 : Nat) : Int) from qq) (by omega))]
    refine ⟨-1, nI q, nI pl', r6, r7, r8, r9, r10, r11, r12, r13, r14, (Q1, Q2, Q3, Q4, Q5, Q6), dd0, dd1, dd2, (cc1, cc2, cc3), tt, nI a, la, st, bf, o, b, _, _, _, _, _, _, _, _, un, al, da, ck, _, _, mbf, mq', rfl, rfl, hb, Or.inl ⟨rfl, rfl, rfl, rfl, rfl, rfl, rfl, rfl, rfl, ?_, ?_⟩⟩
    · rw [(hSm b (by omega)).1, hbb]
    · rw [(hSm b (by omega)).2, hbb]
  · rw [hCR, hMS]
    unfold mk21
    have ga : ¬ ixBad (nI a) 13 := ixg ha (by decide)
    have ca : (nI a).toNatClampNeg = a := nI_clamp (by omega)
    have hfo : p_X8_forget F gc gf (nI a) la st = some (0, 0, va_up (va_up st a (some gf)) 0 (some gc)) := by
      unfold p_X8_forget
      simp only [ga, ca, hs, ↓reduceIte, not_true_eq_false]
      rw [if_neg (fun q => q h0)]
      rfl
    have hnow : p_X8_now F gc 0 (va_up (va_up st a (some gf)) 0 (some gc)) = some () := now_eq (F := F) (a := 0) (g := gc) (st := va_up (va_up st a (some gf)) 0 (some gc)) (by decide) rfl
    have hG' := hG
    obtain ⟨gc1, gt, gpr, gda, gck, gto, g32, gtd, gz⟩ := hG'
    have hm := gc1.hm
    have hn24 := gc1.2.1
    simp only [Option.bind_some, i32_1_0, ↓reduceIte]
    rw [if_pos (show (0 : Int32) ≤ 0 by decide +kernel), hfo]
    simp only [Option.bind_some]
    rw [hnow]
    simp only [Option.bind_some]
    have hcp : p_X1_copyFrom F o.1 o.2.1 o.2.2.1 o.2.2.2.1 o.2.2.2.2.1 o.2.2.2.2.2.1 (nI n') (nI k') pr' col' pl' prT' = some (nI n', nI k', pr', va_cpy col' o.2.2.2.1 0 0 32, va_cpy pl' o.2.2.2.2.1 0 0 256, va_cpy prT' o.2.2.2.2.2.1 0 0 256) := by
      unfold p_X1_copyFrom
      rw [if_neg (fun q => q gpr)]
      rfl
    rw [hcp]
    simp only [Option.bind_some]
    have hcc : CodeOK n' k' (va_cpy col' o.2.2.2.1 0 0 32) := gc1.cong (fun p hp => cpy0 hp)
    obtain ⟨B', M', S', Y', T', hB, hw, ht⟩ := X9_begin (F := F) (n := n') (k := k') (col := va_cpy col' o.2.2.2.1 0 0 32) (bits := o.2.2.2.2.2.2.1) (mea := o.2.2.2.2.2.2.2.1) (stk := o.2.2.2.2.2.2.2.2.1) (syn := o.2.2.2.2.2.2.2.2.2.1) (tal := o.2.2.2.2.2.2.2.2.2.2) (by omega) (by omega) hm td'
    rw [hB]
    obtain ⟨al1, mbf1, hSt, hA1, hA2, hm0, hm1⟩ := M_start (F := F) (b := 1 - b) (dat := da) (chk := ck) (x49 := nI a) (x50 := un) (al := al) (to := to') (mbf := mbf) (col := va_cpy col' o.2.2.2.1 0 0 32) (by omega) (by omega) gda gck hcc (fun p hp => by rw [cpy0 (by omega)]; exact gto p hp)
    rw [hSt]
    simp only [Option.bind_some]
    rw [M_places (by omega) gda gck]
    unfold p_X1_places
    simp only [Option.bind_some, nI_add]
    have hSR := start_SR (b := 1 - b) (col' := va_cpy col' o.2.2.2.1 0 0 32) (pl' := va_cpy pl' o.2.2.2.2.1 0 0 256) (prT' := va_cpy prT' o.2.2.2.2.2.1 0 0 256) hG (fun p hp => cpy0 hp) (fun p hp => cpy0 hp) (fun p hp => cpy0 hp) hw ht hA1 hA2
    refine ⟨nI (n' + k'), 0, -1, z6, z7, z8, z9, z10, z11, z12, 1, z14, Q', nI n', nI k', pr', (col', pl', prT'), td', 0, 0, _, _, (nI n', nI k', pr', va_cpy col' o.2.2.2.1 0 0 32, va_cpy pl' o.2.2.2.2.1 0 0 256, va_cpy prT' o.2.2.2.2.2.1 0 0 256, B', M', S', Y', T'), 1 - b, _, _, _, _, _, _, _, _, 0, al1, da, ck, _, _, mbf1, mq', rfl, rfl, by omega, Or.inr ⟨rfl, rfl, rfl, rfl, ⟨rfl, rfl, hm0, hm1⟩, n', k', ⟨by omega, gda, gck⟩, rfl, rfl, hSR⟩⟩
end Cod2
