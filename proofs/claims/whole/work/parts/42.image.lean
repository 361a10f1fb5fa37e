/-! images, and the way back to one -/
section Img
variable {F b n k a gc gn : Nat} {dat chk : AA} {la un pr : Int32} {col pl prT bits mea stk syn tal al was : AA} {st : Nat → Option Nat} {o : Nx}
theorem A_image (hF : 1000 < F) (ha : a < 13) (hs : st a = some gc) (hb : MB b n k dat chk) (h : SR n k pr col pl prT bits mea stk syn tal al) (v : Int32) {gb : Nat} {bx : Nat → Option Nat} (hx : ∀ c, c < 2 → v = nI c → bx c = some gb) (bf mbf bA : AA) :
    ∃ r bf' mbf' o1 bA', p_X10_image F gc gb (nI a) st bx bf (nI n) (nI k) pr col pl prT bits mea stk syn tal o.1 o.2.1 o.2.2.1 o.2.2.2.1 o.2.2.2.2.1 o.2.2.2.2.2.1 o.2.2.2.2.2.2.1 o.2.2.2.2.2.2.2.1 o.2.2.2.2.2.2.2.2.1 o.2.2.2.2.2.2.2.2.2.1 o.2.2.2.2.2.2.2.2.2.2 v = some (r, bf', o1) ∧ p_X11_image F (nI b) al dat bA mbf v = some (r, bA', mbf') ∧ ((bf' = bf ∧ mbf' = mbf ∧ o1 = o ∧ bA' = bA) ∨ ∃ c, c < 2 ∧ v = nI c ∧ bf' = upd bf c 1 ∧ mbf' = upd mbf c 1 ∧ SX n k o1 al ∧ bA' = swW c al bA) := by
  have hx0 : SX n k (nI n, nI k, pr, col, pl, prT, bits, mea, stk, syn, tal) al := ⟨rfl, rfl, h⟩
  obtain ⟨h1, hc, ht, ⟨ab, hR⟩, hW, hI⟩ := h
  have hbc := hc.bc hb
  unfold p_X10_image p_X11_image
  rcases rng v (N := 2) (by decide) with ⟨c, hc2, rfl⟩ | ho
  · have g1 : ¬ ixBad (nI c) 2 := ixg hc2 (by decide)
    have c1 : (nI c).toNatClampNeg = c := nI_clamp (by omega)
    rw [if_neg (nI_pos (by omega)), if_pos (show nI c < (2 : Int32) from nI_lt (b := 2) hc2 (by decide)), isIn_inL 2 1 rfl hc2 (by decide), now_eq ha hs]
    simp only [Option.bind_some, g1, c1, hx c hc2 rfl, not_true_eq_false, i32_1_0, ↓reduceIte]
    have hcp := X6_copy (F := F) (gt := gb) (gp := gc) (s := (nI n, nI k, pr, col, pl, prT, bits, mea, stk, syn, tal)) (o := o) h1
    have hcp' := hcp
    rw [X9_asMeant (by omega)]
    rw [show p_X6_copyFrom F gb gc o.1 o.2.1 o.2.2.1 o.2.2.2.1 o.2.2.2.2.1 o.2.2.2.2.2.1 o.2.2.2.2.2.2.1 o.2.2.2.2.2.2.2.1 o.2.2.2.2.2.2.2.2.1 o.2.2.2.2.2.2.2.2.2.1 o.2.2.2.2.2.2.2.2.2.2 (nI n) (nI k) pr col pl prT bits mea stk syn tal = _ from hcp]
    have hle := nmN_le bits mea
    have key := fold_loop (fun fuel (z : AA) i => p_X11_image_L13 F (nI b) al dat (nI c) fuel i z mbf) (fun z => some (nI (16 - nmN bits mea), z, upd mbf c 1)) (fun i (z : AA) => upd z (121 * c + i) (al i)) (fun _ _ => True) 121 (fun fuel i z hi _ => by
      show p_X11_image_L13b F (nI b) al dat (nI c) _ (nI i) z mbf = _
      have g : ¬ ixBad (nI i) 121 := ixg hi (by decide)
      have e : (121 : Int32) * nI c + nI i = nI (121 * c + i) := by rw [show (121 : Int32) = nI 121 from rfl, pk_mul, nI_add]
      have g2 : ¬ ixBad (nI (121 * c + i)) 242 := ixg (by omega) (by decide)
      have c2 : (nI i).toNatClampNeg = i := nI_clamp (by omega)
      have c3 : (nI (121 * c + i)).toNatClampNeg = 121 * c + i := nI_clamp (by omega)
      unfold p_X11_image_L13b
      rw [if_neg (show ¬ (121 : Int32) ≤ nI i from nI_ge (b := 121) hi (by decide))]
      simp only [g, g2, c2, c3, e, ↓reduceIte, nI_1]) (fun fuel z _ => by
        show p_X11_image_L13b F (nI b) al dat (nI c) _ (nI 121) z mbf = _
        unfold p_X11_image_L13b
        rw [if_pos (by decide +kernel), M_strange (by omega) hbc hR hW]
        simp only [Option.bind_some, g1, c1, ↓reduceIte]
        rw [show (16 : Int32) = nI 16 from rfl, nI_sub hle]
        rfl) (fun _ _ _ _ => trivial) 121 0 F bA (by omega) (by omega) trivial
    rw [row121_fold] at key
    refine ⟨nI (16 - nmN bits mea), upd bf c 1, upd mbf c 1, _, _, rfl, key, Or.inr ⟨c, hc2, rfl, rfl, rfl, hx0.cp (o := o), rfl⟩⟩
  · have hcl : ∀ (X Y : Option (Int32 × AA × Nx)), (if v < 0 then X else if v < 2 then Y else X) = X := fun X Y => by
      by_cases q : v < 0
      · rw [if_pos q]
      · rw [if_neg q, if_neg (fun q2 => by have := out_neg ho q; rw [fa_le] at this; rw [fa_lt] at q2; exact absurd (show (nI 2).toInt ≤ v.toInt from this) (by have : (nI 2).toInt = (2 : Int32).toInt := rfl; omega))]
    rw [hcl (some (-1, bf, o)), isIn_outL 2 1 rfl (by decide) (by decide) ho]
    exact ⟨-1, bf, mbf, o, bA, rfl, rfl, Or.inl ⟨rfl, rfl, rfl, rfl⟩⟩
theorem A_back {x : Nx} (hF : 1000 < F) (ha : a < 13) {gf gb : Nat} (hs : st a = some gc) (h0 : st 0 = some gf) (hb : MB b n k dat chk) (v : Int32) {bx : Nat → Option Nat} (hx : ∀ c, c < 2 → v = nI c → bx c = some gb) (bf mbf bA : AA) (hbf : ∀ c, c < 2 → v = nI c → bf c = mbf c ∧ (bf c ≠ 0 → SX n k x (rwA bA c))) :
    ∃ r a1 l1 u1 st1 o1 al1, p_X10_back F gc gb gf (nI a) la st bx bf o.1 o.2.1 o.2.2.1 o.2.2.2.1 o.2.2.2.2.1 o.2.2.2.2.2.1 o.2.2.2.2.2.2.1 o.2.2.2.2.2.2.2.1 o.2.2.2.2.2.2.2.2.1 o.2.2.2.2.2.2.2.2.2.1 o.2.2.2.2.2.2.2.2.2.2 x.1 x.2.1 x.2.2.1 x.2.2.2.1 x.2.2.2.2.1 x.2.2.2.2.2.1 x.2.2.2.2.2.2.1 x.2.2.2.2.2.2.2.1 x.2.2.2.2.2.2.2.2.1 x.2.2.2.2.2.2.2.2.2.1 x.2.2.2.2.2.2.2.2.2.2 v = some (r, a1, l1, st1, o1) ∧ p_X11_back F (nI b) (nI a) un al dat bA mbf v = some (r, a1, u1, al1) ∧
      ((a1 = nI a ∧ l1 = la ∧ u1 = un ∧ st1 = st ∧ o1 = o ∧ al1 = al) ∨ (a1 = 0 ∧ l1 = 0 ∧ u1 = 0 ∧ st1 = va_up (va_up st a (some gf)) 0 (some gc) ∧ SX n k o1 al1)) := by
  unfold p_X10_back p_X11_back
  rcases rng v (N := 2) (by decide) with ⟨c, hc2, rfl⟩ | ho
  · have g1 : ¬ ixBad (nI c) 2 := ixg hc2 (by decide)
    have c1 : (nI c).toNatClampNeg = c := nI_clamp (by omega)
    have ga : ¬ ixBad (nI a) 13 := ixg ha (by decide)
    have ca : (nI a).toNatClampNeg = a := nI_clamp (by omega)
    obtain ⟨e1, e2⟩ := hbf c hc2 rfl
    rw [if_neg (nI_pos (by omega)), if_neg (show ¬ (2 : Int32) ≤ nI c from nI_ge (b := 2) hc2 (by decide)), isIn_inL 2 1 rfl hc2 (by decide)]
    simp only [Option.bind_some, g1, c1, i32_1_0, ↓reduceIte, ← e1]
    by_cases e : bf c = 0
    · rw [if_pos e, if_pos e]
      exact ⟨-1, nI a, la, un, st, o, al, rfl, rfl, Or.inl ⟨rfl, rfl, rfl, rfl, rfl, rfl⟩⟩
    · rw [if_neg e, if_neg e]
      have hX := e2 e
      have hcp := X6_copy (F := F) (gt := gc) (gp := gb) (s := x) (o := o) hX.2.2.1
      have hX2 : SX n k (cpN x o) (rwA bA c) := hX.cp
      have hX3 := hX2
      obtain ⟨f1, f2, h1, hc, ht, ⟨ab, hR⟩, hW, hI⟩ := hX3
      have hbc := hc.bc hb
      have hfo : p_X8_forget F gc gf (nI a) la st = some (0, 0, va_up (va_up st a (some gf)) 0 (some gc)) := by
        unfold p_X8_forget
        simp only [ga, ca, hs, ↓reduceIte, not_true_eq_false]
        rw [if_neg (fun q => q h0)]
        rfl
      have hnow : p_X8_now F gc 0 (va_up (va_up st a (some gf)) 0 (some gc)) = some () := by
        have := now_eq (F := F) (a := 0) (g := gc) (st := va_up (va_up st a (some gf)) 0 (some gc)) (by decide) rfl
        exact this
      rw [hfo]
      simp only [Option.bind_some]
      rw [hnow]
      simp only [Option.bind_some, hx c hc2 rfl, not_true_eq_false, ↓reduceIte]
      rw [hcp]
      have hle := nmN_le (cpN x o).2.2.2.2.2.2.1 (cpN x o).2.2.2.2.2.2.2.1
      have hR2 : ∀ z : AA, (∀ j, j < 121 → z j = rwA bA c j) → p_X11_strangeMany F (nI b) z dat = some (nI (nmN (cpN x o).2.2.2.2.2.2.1 (cpN x o).2.2.2.2.2.2.2.1)) := fun z hz => by
        have := (hX2.al hz).2.2
        obtain ⟨_, hc', _, ⟨ab', hR'⟩, hW', _⟩ := this
        exact M_strange (by omega) hbc hR' hW'
      have key := fold_loop (fun fuel (z : AA) i => p_X11_back_L22 F (nI b) dat bA mbf (nI c) fuel i (nI a) un z) (fun z => (p_X11_strangeMany F (nI b) z dat).bind fun r => some (16 - r, 0, 0, z)) (fun i (z : AA) => upd z i (rwA bA c i)) (fun _ _ => True) 121 (fun fuel i z hi _ => by
        show p_X11_back_L22b F (nI b) dat bA mbf (nI c) _ (nI i) (nI a) un z = _
        have g : ¬ ixBad (nI i) 121 := ixg hi (by decide)
        have e : (121 : Int32) * nI c + nI i = nI (121 * c + i) := by rw [show (121 : Int32) = nI 121 from rfl, pk_mul, nI_add]
        have g2 : ¬ ixBad (nI (121 * c + i)) 242 := ixg (by omega) (by decide)
        have c2 : (nI i).toNatClampNeg = i := nI_clamp (by omega)
        have c3 : (nI (121 * c + i)).toNatClampNeg = 121 * c + i := nI_clamp (by omega)
        unfold p_X11_back_L22b
        rw [if_neg (show ¬ (121 : Int32) ≤ nI i from nI_ge (b := 121) hi (by decide))]
        simp only [g, g2, c2, c3, e, ↓reduceIte, nI_1]
        rfl) (fun fuel z _ => rfl) (fun _ _ _ _ => trivial) 121 0 F al (by omega) (by omega) trivial
      rw [cpy_fold, hR2 _ (fun j hj => by simp only [hj, ↓reduceIte])] at key
      refine ⟨nI (16 - nmN (cpN x o).2.2.2.2.2.2.1 (cpN x o).2.2.2.2.2.2.2.1), 0, 0, 0, _, cpN x o, _, ?_, key.trans ?_, Or.inr ⟨rfl, rfl, rfl, rfl, hX2.al (al' := fun j => if j < 121 then rwA bA c j else al j) (fun j hj => by simp only [hj, ↓reduceIte])⟩⟩
      · have := X9_asMeant (F := F) (bits := (cpN x o).2.2.2.2.2.2.1) (mea := (cpN x o).2.2.2.2.2.2.2.1) (by omega)
        generalize cpN x o = y at this ⊢
        simp only [Option.bind_some]
        rw [this]
        rfl
      · simp only [Option.bind_some]
        rw [show (16 : Int32) = nI 16 from rfl, nI_sub hle]
  · have hcl : ∀ (X Y : Option (Int32 × Int32 × Int32 × (Nat → Option Nat) × Nx)), (if v < 0 then X else if 2 ≤ v then X else Y) = X := fun X Y => by
      by_cases q : v < 0
      · rw [if_pos q]
      · rw [if_neg q, if_pos (show (2 : Int32) ≤ v from out_neg ho q)]
    rw [hcl (some (-1, nI a, la, st, o)), isIn_outL 2 1 rfl (by decide) (by decide) ho]
    exact ⟨-1, nI a, la, un, st, o, al, rfl, rfl, Or.inl ⟨rfl, rfl, rfl, rfl, rfl, rfl⟩⟩
end Img
def sw0 (a : Nat) (pos : Nat → Nat) : Nat → Nat := fun i => if i = 0 then pos a else if i = a then pos 0 else pos i
theorem GL.forget {n k n' k' a u : Nat} {pos ad : Nat → Nat} {sv : Nat → Nx} {al was al1 was1 : AA} {st : Nat → Option Nat} {o1 : Nx} (h : GL n k a u pos sv al was) (hst : PosR ad pos st) (hx : SX n' k' o1 al1) : PosR ad (sw0 a pos) (va_up (va_up st a (some (ad (pos 0)))) 0 (some (ad (pos a)))) ∧ GL n' k' 0 0 (sw0 a pos) (svU sv (pos a) o1) al1 was1 := by
  obtain ⟨h1, h2, h3, h4, h5, h6⟩ := h
  refine ⟨fun i hi => ?_, by omega, fun i hi => ?_, fun i j hi hj q => ?_, fun i hi => by omega, ?_, fun i q1 q2 => by omega⟩
  · unfold sw0
    show (if i = 0 then some (ad (pos a)) else if i = a then some (ad (pos 0)) else st i) = _
    by_cases e1 : i = 0
    · rw [if_pos e1, if_pos e1]
    · rw [if_neg e1, if_neg e1]
      by_cases e2 : i = a
      · rw [if_pos e2, if_pos e2]
      · rw [if_neg e2, if_neg e2]; exact hst i hi
  · unfold sw0
    by_cases e1 : i = 0
    · rw [if_pos e1]; exact h2 a (by omega)
    · rw [if_neg e1]
      by_cases e2 : i = a
      · rw [if_pos e2]; exact h2 0 (by omega)
      · rw [if_neg e2]; exact h2 i hi
  · unfold sw0 at q
    by_cases e1 : i = 0
    · rw [if_pos e1] at q
      by_cases e2 : j = 0
      · omega
      · rw [if_neg e2] at q
        by_cases e3 : j = a
        · rw [if_pos e3] at q; have := h3 a 0 (by omega) (by omega) q; omega
        · rw [if_neg e3] at q; have := h3 a j (by omega) hj q; omega
    · rw [if_neg e1] at q
      by_cases e2 : j = 0
      · rw [if_pos e2] at q
        by_cases e3 : i = a
        · rw [if_pos e3] at q; have := h3 0 a (by omega) (by omega) q; omega
        · rw [if_neg e3] at q; have := h3 i a hi (by omega) q; omega
      · rw [if_neg e2] at q
        by_cases e3 : i = a
        · rw [if_pos e3] at q
          by_cases e4 : j = a
          · omega
          · rw [if_neg e4] at q; have := h3 0 j (by omega) hj q; omega
        · rw [if_neg e3] at q
          by_cases e4 : j = a
          · rw [if_pos e4] at q; have := h3 i 0 hi (by omega) q; omega
          · rw [if_neg e4] at q; exact h3 i j hi hj q
  · have : sw0 a pos 0 = pos a := rfl
    rw [this, svU_at]; exact hx
