/-! the act 'way' -/
section Act7
variable {F b n k a gc gn : Nat} {dat chk : AA} {la un pr : Int32} {col pl prT bits mea stk syn tal al was : AA} {st : Nat → Option Nat} {o : Nx}
theorem X1_has {A B : AA} (hn : n ≤ 24) : ∀ (d i fuel : Nat), i + d = n → d < fuel → p_X1_hasColumnsOf_L2 F (nI n) A B fuel (nI i) = some (if ∀ p, p < n → i ≤ p → A p = B p then 1 else 0) := by
  intro d
  induction d with
  | zero =>
    intro i fuel hi hf
    cases fuel with
    | zero => exact absurd hf (by omega)
    | succ fuel =>
      show p_X1_hasColumnsOf_L2b F (nI n) A B _ (nI i) = _
      unfold p_X1_hasColumnsOf_L2b
      rw [if_pos (nI_le (by omega) (by omega)), if_pos (fun p h1 h2 => by omega)]
  | succ d ih =>
    intro i fuel hi hf
    cases fuel with
    | zero => exact absurd hf (by omega)
    | succ fuel =>
      have g : ¬ ixBad (nI i) 32 := ixg (by omega) (by decide)
      have c : (nI i).toNatClampNeg = i := nI_clamp (by omega)
      show p_X1_hasColumnsOf_L2b F (nI n) A B (p_X1_hasColumnsOf_L2 F (nI n) A B fuel) (nI i) = _
      unfold p_X1_hasColumnsOf_L2b
      rw [if_neg (nI_ge (by omega) (by omega))]
      simp only [g, c, ↓reduceIte, nI_1]
      by_cases e : A i = B i
      · rw [if_pos e, ih (i + 1) fuel (by omega) (by omega)]
        by_cases q : ∀ p, p < n → i + 1 ≤ p → A p = B p
        · rw [if_pos q, if_pos (fun p h1 h2 => by
            by_cases e2 : p = i
            · rw [e2]; exact e
            · exact q p h1 (by omega))]
        · rw [if_neg q, if_neg (fun q2 => q (fun p h1 h2 => q2 p h1 (by omega)))]
      · rw [if_neg e, if_neg (fun q => e (q i (by omega) (Nat.le_refl _)))]
/-- the model's columns as they were chosen -/
def wyA (n : Nat) (B al : AA) (i : Nat) : AA := fun x => if x < i then B x else al x
theorem M_way_loop {x27 x28 x49 x50 : Int32} {B1 B2 B3 B4 B5 B6 : AA} (hb : b < 2) (hd : dat b = nI n) (hn : n ≤ 24) : ∀ (d i fuel : Nat), i + d = n → d < fuel →
    p_X11_way_L35 F (nI b) dat chk fuel (if ∀ p, p < i → al p = B2 p then 0 else 1) (nI i) x27 x28 x49 x50 (wyA n B2 al i) B1 B2 B3 B4 B5 B6 was = (if ∀ p, p < n → al p = B2 p then some (1, x27, x28, x49, x50, wyA n B2 al n, B1, B2, B3, B4, B5, B6, was) else (p_X11_writeAnew F (nI b) (wyA n B2 al n) dat).bind fun r => some (1, x27, x28, x49, x50, r, B1, B2, B3, B4, B5, B6, was)) := by
  intro d
  induction d with
  | zero =>
    intro i fuel hi hf
    cases fuel with
    | zero => exact absurd hf (by omega)
    | succ fuel =>
      have e : i = n := by omega
      subst e
      show p_X11_way_L35b F (nI b) dat chk _ _ (nI i) x27 x28 x49 x50 _ B1 B2 B3 B4 B5 B6 was = _
      unfold p_X11_way_L35b
      rw [M_data hb hd]
      simp only [Option.bind_some]
      rw [if_pos (nI_le (by omega) (by omega))]
      by_cases q : ∀ p, p < i → al p = B2 p
      · rw [if_pos q, if_pos rfl, if_pos q]
      · rw [if_neg q, if_neg i32_1_0, if_neg q]
  | succ d ih =>
    intro i fuel hi hf
    cases fuel with
    | zero => exact absurd hf (by omega)
    | succ fuel =>
      have g : ¬ ixBad (nI i) 32 := ixg (by omega) (by decide)
      have g2 : ¬ ixBad (nI i) 121 := ixg (by omega) (by decide)
      have c : (nI i).toNatClampNeg = i := nI_clamp (by omega)
      have hup : upd (wyA n B2 al i) i (B2 i) = wyA n B2 al (i + 1) := funext fun x => by
        rw [upd_at]
        unfold wyA
        by_cases e : x = i
        · rw [if_pos e, if_pos (by omega), e]
        · rw [if_neg e]
          by_cases e2 : x < i
          · rw [if_pos e2, if_pos (by omega)]
          · rw [if_neg e2, if_neg (by omega)]
      have hat : wyA n B2 al i i = al i := by unfold wyA; rw [if_neg (by omega)]
      have hJ : ∀ s, p_X11_way_J66 F (nI b) dat chk (p_X11_way_L35 F (nI b) dat chk fuel) (nI i) s x27 x28 x49 x50 (wyA n B2 al i) B1 B2 B3 B4 B5 B6 was = p_X11_way_L35 F (nI b) dat chk fuel s (nI (i + 1)) x27 x28 x49 x50 (wyA n B2 al (i + 1)) B1 B2 B3 B4 B5 B6 was := fun s => by
        unfold p_X11_way_J66
        simp only [g, g2, c, nI_z, ↓reduceIte, nI_1, hup]
      have key := ih (i + 1) fuel (by omega) (by omega)
      rw [← key]
      show p_X11_way_L35b F (nI b) dat chk (p_X11_way_L35 F (nI b) dat chk fuel) _ (nI i) x27 x28 x49 x50 _ B1 B2 B3 B4 B5 B6 was = _
      unfold p_X11_way_L35b p_X11_way_J61 p_X11_columnAt
      rw [M_data hb hd]
      simp only [Option.bind_some, g, g2, c, nI_z, hJ, hat, ↓reduceIte]
      rw [if_neg (nI_ge (by omega) (by omega))]
      by_cases q : ∀ p, p < i → al p = B2 p
      · rw [if_pos q, if_pos rfl]
        by_cases e : al i = B2 i
        · rw [if_pos e, if_pos (fun p hp => by
            by_cases e2 : p = i
            · rw [e2]; exact e
            · exact q p (by omega))]
        · rw [if_neg e, if_neg (fun q2 => e (q2 i (by omega)))]
      · rw [if_neg q, if_neg i32_1_0, if_neg (fun q2 => q (fun p hp => q2 p (by omega)))]
theorem A_way (hF : 2000 < F) (ha : a < 13) (hs : st a = some gc) (hn : st (nxA a) = some gn) (hb : MB b n k dat chk) (h : SR n k pr col pl prT bits mea stk syn tal al) (hF3 : 3000000 < F) (c1 : Int32) (A2 A3 A4 A5 A6 : AA) (d0 d1 d2 : Int32) (D1 D2 D3 : AA) (m27 m28 : Int32) (B1 B2 B3 B4 B5 B6 : AA) (v : Int32) :
    ∃ r a1 l1 u1 st1 o1 al1 was1 c1' A2' A3' A4' A5' A6' d0' d1' d2' D1' D2' D3' m27' m28' B1' B2' B3' B4' B5' B6', p_X10_way F gc gn c1 A2 A3 A4 A5 A6 (nI a) la st d0 d1 d2 D1 D2 D3 (nI n) (nI k) pr col pl prT bits mea stk syn tal o.1 o.2.1 o.2.2.1 o.2.2.2.1 o.2.2.2.2.1 o.2.2.2.2.2.1 o.2.2.2.2.2.2.1 o.2.2.2.2.2.2.2.1 o.2.2.2.2.2.2.2.2.1 o.2.2.2.2.2.2.2.2.2.1 o.2.2.2.2.2.2.2.2.2.2 v = some (r, c1', A2', A3', A4', A5', A6', a1, l1, st1, d0', d1', d2', D1', D2', D3', o1) ∧ p_X11_way F (nI b) m27 m28 (nI a) un al dat chk B1 B2 B3 B4 B5 B6 was v = some (r, m27', m28', a1, u1, al1, B1', B2', B3', B4', B5', B6', was1) ∧ StpA n k a la un st o al was a1 l1 u1 st1 o1 al1 was1 := by
  obtain ⟨col', pl', prT', bits', mea', stk', syn', tal', hA, h', hcl, hww⟩ := X8_act (F := F) (la := la) (o := o) ha hs hn h
  have hK := M_keep hF ha un al was
  obtain ⟨g_1, g_c, g_t, ⟨g_ab, g_R⟩, g_W, g_I⟩ := h
  have hn4 := g_c.1
  have hn24 := g_c.2.1
  have hk4 := g_c.2.2.1
  have hk8 := g_c.2.2.2.1
  have hm := g_c.hm
  unfold p_X10_way p_X11_way
  rw [now_eq ha hs]
  rcases rng v (N := 3) (by decide) with ⟨w, hw, rfl⟩ | ho
  rotate_left
  · rw [isIn_outL 3 2 rfl (by decide) (by decide) ho, cls_out 3 2 rfl (by decide) (by decide) ho]
    simp only [Option.bind_some, ↓reduceIte]
    exact ⟨_, _, _, _, _, _, _, _, _, _, _, _, _, _, _, _, _, _, _, _, _, _, _, _, _, _, _, _, rfl, rfl, StpA.no⟩
  rw [isIn_inL 3 2 rfl hw (by decide), cls_in 3 2 rfl hw (by decide), M_data hb.1 hb.2.1, M_chk hb.1 hb.2.2]
  simp only [Option.bind_some, i32_1_0, ↓reduceIte]
  unfold p_X1_copyFrom
  rw [if_neg (fun q => q g_1)]
  simp only [Option.bind_some]
  obtain ⟨r, q1, n27, n28, E1, E2, E3, E4, E5, E7, E8, E9, G1, G2, G3, G4, G5, G6, hr, hok, hX, hM⟩ := choose_both hF3 hn4 hn24 hk4 hk8 hw c1 m27 m28 A2 A3 A4 A5 A6 (va_cpy col D1 (Int32.toNatClampNeg 0) (Int32.toNatClampNeg 0) (Int32.toNatClampNeg 32)) (va_cpy pl D2 (Int32.toNatClampNeg 0) (Int32.toNatClampNeg 0) (Int32.toNatClampNeg 256)) (va_cpy prT D3 (Int32.toNatClampNeg 0) (Int32.toNatClampNeg 0) (Int32.toNatClampNeg 256)) B1 B2 B3 B4 B5 B6
  rw [hX, hM]
  simp only [Option.bind_some]
  rcases hr with rfl | rfl
  · rw [if_pos rfl, if_pos rfl]
    exact ⟨_, _, _, _, _, _, _, _, _, _, _, _, _, _, _, _, _, _, _, _, _, _, _, _, _, _, _, _, rfl, rfl, StpA.no⟩
  rw [if_neg i32_1_0, if_neg i32_1_0, hA, hK]
  simp only [Option.bind_some]
  obtain ⟨hcE, htE, hBE⟩ := hok rfl
  obtain ⟨h1, hc, ht, ⟨ab, hR⟩, hW, hI⟩ := h'
  have hL := M_way_loop (F := F) (chk := chk) (al := al) (was := kwA a al was) (x27 := n27) (x28 := n28) (x49 := nI (upA a)) (x50 := 0) (B1 := G1) (B2 := G2) (B3 := G3) (B4 := G4) (B5 := G5) (B6 := G6) hb.1 hb.2.1 hn24 n 0 F (by omega) (by omega)
  rw [if_pos (fun p hp => absurd hp (by omega)), show wyA n G2 al 0 = al from funext fun x => by unfold wyA; rw [if_neg (by omega)]] at hL
  rw [show p_X11_way_L35 F (nI b) dat chk F 0 0 n27 n28 (nI (upA a)) 0 al G1 G2 G3 G4 G5 G6 (kwA a al was) = _ from hL]
  have hH : p_X1_hasColumnsOf F (nI n) col' E7 = some (if ∀ p, p < n → al p = G2 p then 1 else 0) := by
    have := X1_has (F := F) (A := col') (B := E7) hn24 n 0 F (by omega) (by omega)
    unfold p_X1_hasColumnsOf
    refine Eq.trans this (congrArg some ?_)
    by_cases q : ∀ p, p < n → al p = G2 p
    · rw [if_pos q, if_pos (fun p h2 _ => by have := q p h2; rw [hR.1 p (by omega), hBE p (by omega)] at this; exact this)]
    · rw [if_neg q, if_neg (fun q2 => q (fun p hp => by rw [hR.1 p (by omega), hBE p (by omega)]; exact q2 p hp (by omega)))]
  rw [hH]
  simp only [Option.bind_some, ite0]
  by_cases q : ∀ p, p < n → al p = G2 p
  · rw [if_pos q, if_pos q]
    have e : wyA n G2 al n = al := funext fun x => by
      unfold wyA
      by_cases hx : x < n
      · rw [if_pos hx]; exact (q x hx).symm
      · rw [if_neg hx]
    rw [e]
    exact ⟨_, _, _, _, _, _, _, _, _, _, _, _, _, _, _, _, _, _, _, _, _, _, _, _, _, _, _, _, rfl, rfl, StpA.yes ⟨rfl, rfl, h1, hc, ht, ⟨ab, hR⟩, hW, hI⟩⟩
  · rw [if_neg q, if_neg q, if_neg (fun q => q g_1)]
    have hcF : CodeOK n k (va_cpy E7 col' 0 0 32) := hcE.cong (fun p hp => cpy0 hp)
    have htF : TabOK (n + k) (va_cpy E7 col' 0 0 32) (va_cpy E8 pl' 0 0 256) (va_cpy E9 prT' 0 0 256) := fun s hs => by
      rw [cpy0 hs, cpy0 hs, plc_cong (c := E7) (fun p hp => cpy0 (by omega)), prc_cong (c := E7) (fun p hp => cpy0 (by omega))]; exact htE s hs
    have hR2 : RA n k (wyA n G2 al n) (va_cpy E7 col' 0 0 32) pr bits' mea' stk' tal' ab := hR.recol (fun p hp => by
        rw [cpy0 (by omega)]
        unfold wyA
        by_cases hx : p < n
        · rw [if_pos hx]; exact hBE p hp
        · rw [if_neg hx, hR.1 p hp]
          have e1 := hc.2.2.2.2.2.1 (p - n) (by omega)
          have e2 := hcE.2.2.2.2.2.1 (p - n) (by omega)
          rw [show n + (p - n) = p by omega] at e1 e2
          rw [e1, e2]) (fun j hj => by unfold wyA; rw [if_neg (by omega)])
    obtain ⟨al2, hMw, hXw, hSR⟩ := anew (F := F) (syn := syn') (by omega) hb h1 hcF htF hR2 (fun w hw => (hI w hw).1)
    rw [hMw]
    simp only [Option.bind_some]
    rw [show p_X9_writeAllAnew F bits' mea' stk' syn' (nI n) (nI k) (va_cpy E7 col' (Int32.toNatClampNeg 0) (Int32.toNatClampNeg 0) (Int32.toNatClampNeg 32)) = _ from hXw]
    exact ⟨_, _, _, _, _, _, _, _, _, _, _, _, _, _, _, _, _, _, _, _, _, _, _, _, _, _, _, _, rfl, rfl, StpA.yes ⟨rfl, rfl, hSR⟩⟩
end Act7
