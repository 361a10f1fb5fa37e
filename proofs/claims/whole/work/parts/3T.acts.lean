/-! acts: the line of states beside the model's rows -/
abbrev Nx : Type := Int32 × Int32 × Int32 × AA × AA × AA × AA × AA × AA × AA × AA
def upA (a : Nat) : Nat := if a < 12 then a + 1 else 12
def shS (a : Nat) (st : Nat → Option Nat) : Nat → Option Nat := if a < 12 then st else rotL st
def kwA (a : Nat) (al was : AA) : AA := if a < 12 then (fun x => if 121 * a ≤ x ∧ x < 121 * a + 121 then al (x - 121 * a) else was x) else fun x => if 1331 ≤ x ∧ x < 1452 then al (x - 1331) else if x < 1452 then was (x + 121) else was x
def cpN (s o : Nx) : Nx := (s.1, s.2.1, s.2.2.1, va_cpy s.2.2.2.1 o.2.2.2.1 0 0 32, va_cpy s.2.2.2.2.1 o.2.2.2.2.1 0 0 256, va_cpy s.2.2.2.2.2.1 o.2.2.2.2.2.1 0 0 256, va_cpy s.2.2.2.2.2.2.1 o.2.2.2.2.2.2.1 0 0 16, va_cpy s.2.2.2.2.2.2.2.1 o.2.2.2.2.2.2.2.1 0 0 16, va_cpy s.2.2.2.2.2.2.2.2.1 o.2.2.2.2.2.2.2.2.1 0 0 16, va_cpy s.2.2.2.2.2.2.2.2.2.1 o.2.2.2.2.2.2.2.2.2.1 0 0 16, va_cpy s.2.2.2.2.2.2.2.2.2.2 o.2.2.2.2.2.2.2.2.2.2 0 0 8)
/-- a state of the class beside a row of the model's -/
def SX (n k : Nat) (s : Nx) (al : AA) : Prop := s.1 = nI n ∧ s.2.1 = nI k ∧ SR n k s.2.2.1 s.2.2.2.1 s.2.2.2.2.1 s.2.2.2.2.2.1 s.2.2.2.2.2.2.1 s.2.2.2.2.2.2.2.1 s.2.2.2.2.2.2.2.2.1 s.2.2.2.2.2.2.2.2.2.1 s.2.2.2.2.2.2.2.2.2.2 al
theorem SX.al {n k : Nat} {s : Nx} {al al' : AA} (h : SX n k s al) (e : ∀ p, p < 121 → al' p = al p) : SX n k s al' := ⟨h.1, h.2.1, h.2.2.al e⟩
theorem SX.cp {n k : Nat} {s o : Nx} {al : AA} (h : SX n k s al) : SX n k (cpN s o) al :=
  ⟨h.1, h.2.1, h.2.2.cong (fun _ hp => cpy0 hp) (fun _ hp => cpy0 hp) (fun _ hp => cpy0 hp) (fun _ hp => cpy0 hp) (fun _ hp => cpy0 hp) (fun _ hp => cpy0 hp) (fun _ hp => cpy0 hp) (fun _ hp => cpy0 hp) (fun _ _ => rfl)⟩
theorem X6_copy {F gt gp : Nat} {s o : Nx} (hp : s.2.2.1 = 0 ∨ s.2.2.1 = 1) : p_X6_copyFrom F gt gp o.1 o.2.1 o.2.2.1 o.2.2.2.1 o.2.2.2.2.1 o.2.2.2.2.2.1 o.2.2.2.2.2.2.1 o.2.2.2.2.2.2.2.1 o.2.2.2.2.2.2.2.2.1 o.2.2.2.2.2.2.2.2.2.1 o.2.2.2.2.2.2.2.2.2.2 s.1 s.2.1 s.2.2.1 s.2.2.2.1 s.2.2.2.2.1 s.2.2.2.2.2.1 s.2.2.2.2.2.2.1 s.2.2.2.2.2.2.2.1 s.2.2.2.2.2.2.2.2.1 s.2.2.2.2.2.2.2.2.2.1 s.2.2.2.2.2.2.2.2.2.2 = some (cpN s o) := by
  unfold p_X6_copyFrom p_X1_copyFrom
  rw [if_neg (fun q => q hp)]
  rfl
/-- the place of the state that comes next -/
def nxA (a : Nat) : Nat := if a < 12 then a + 1 else 0
theorem X8_begin {F gc gn a : Nat} {la : Int32} {st : Nat → Option Nat} {s o : Nx} (ha : a < 13) (hs : st a = some gc) (hn : st (nxA a) = some gn) (hp : s.2.2.1 = 0 ∨ s.2.2.1 = 1) :
    p_X8_beginAct F gc gn (nI a) la st s.1 s.2.1 s.2.2.1 s.2.2.2.1 s.2.2.2.2.1 s.2.2.2.2.2.1 s.2.2.2.2.2.2.1 s.2.2.2.2.2.2.2.1 s.2.2.2.2.2.2.2.2.1 s.2.2.2.2.2.2.2.2.2.1 s.2.2.2.2.2.2.2.2.2.2 o.1 o.2.1 o.2.2.1 o.2.2.2.1 o.2.2.2.2.1 o.2.2.2.2.2.1 o.2.2.2.2.2.2.1 o.2.2.2.2.2.2.2.1 o.2.2.2.2.2.2.2.2.1 o.2.2.2.2.2.2.2.2.2.1 o.2.2.2.2.2.2.2.2.2.2 = some (nI (upA a), nI (upA a), shS a st, cpN s o) := by
  have key : ∀ (c : Nat) (st' : Nat → Option Nat), c < 12 → st' c = some gc → st' (c + 1) = some gn → p_X8_beginAct_J13 F gc gn s.1 s.2.1 s.2.2.1 s.2.2.2.1 s.2.2.2.2.1 s.2.2.2.2.2.1 s.2.2.2.2.2.2.1 s.2.2.2.2.2.2.2.1 s.2.2.2.2.2.2.2.2.1 s.2.2.2.2.2.2.2.2.2.1 s.2.2.2.2.2.2.2.2.2.2 (nI c) la st' o.1 o.2.1 o.2.2.1 o.2.2.2.1 o.2.2.2.2.1 o.2.2.2.2.2.1 o.2.2.2.2.2.2.1 o.2.2.2.2.2.2.2.1 o.2.2.2.2.2.2.2.2.1 o.2.2.2.2.2.2.2.2.2.1 o.2.2.2.2.2.2.2.2.2.2 = some (nI (c + 1), nI (c + 1), st', cpN s o) := fun c st' hc e1 e2 => by
    have g1 : ¬ ixBad (nI c) 13 := ixg (by omega) (by decide)
    have g2 : ¬ ixBad (nI (c + 1)) 13 := ixg (by omega) (by decide)
    have c1 : (nI c).toNatClampNeg = c := nI_clamp (by omega)
    have c2 : (nI (c + 1)).toNatClampNeg = c + 1 := nI_clamp (by omega)
    unfold p_X8_beginAct_J13
    rw [nI_1, X6_copy hp]
    simp only [g1, g2, c1, c2, e1, e2, Option.bind_some, ↓reduceIte, not_true_eq_false]
  unfold p_X8_beginAct upA shS
  unfold nxA at hn
  by_cases h : a < 12
  · rw [if_pos h] at hn
    rw [if_pos (show nI a < (12 : Int32) from nI_lt (b := 12) h (by decide)), if_pos h, if_pos h, key a st h hs hn]
  · have e : a = 12 := by omega
    subst e
    rw [if_neg (by omega)] at hn
    rw [if_neg (by decide +kernel), if_neg h, if_neg h]
    unfold p_X8_dropOldest
    simp only [Option.bind_some]
    exact key 11 (rotL st) (by omega) (by unfold rotL; rw [if_pos (by omega)]; exact hs) (by unfold rotL; rw [if_neg (by omega), if_pos rfl]; exact hn)
theorem row121_fold (f a : AA) (B : Nat) : ∀ d, fo (fun i (z : AA) => upd z (B + i) (f i)) d 0 a = fun j => if B ≤ j ∧ j < B + d then f (j - B) else a j := by
  intro d
  induction d with
  | zero => funext j; rw [if_neg (by omega)]; rfl
  | succ d ih =>
    rw [fo_succ, ih]
    funext j
    rw [upd_at]
    by_cases h1 : j = B + (0 + d)
    · rw [if_pos h1, if_pos (by omega), show j - B = 0 + d by omega]
    · rw [if_neg h1]
      by_cases h3 : B ≤ j ∧ j < B + d
      · rw [if_pos h3, if_pos (by omega)]
      · rw [if_neg h3, if_neg (by omega)]
theorem shift_fold (a : AA) : ∀ d, fo (fun i (z : AA) => upd z i (z (i + 121))) d 0 a = fun j => if j < d then a (j + 121) else a j := by
  intro d
  induction d with
  | zero => funext j; rw [if_neg (by omega)]; rfl
  | succ d ih =>
    rw [fo_succ, ih]
    funext j
    rw [upd_at]
    by_cases h1 : j = 0 + d
    · rw [if_pos h1, if_pos (by omega)]
      show (if 0 + d + 121 < d then _ else _) = _
      rw [if_neg (by omega), h1]
    · rw [if_neg h1]
      by_cases h3 : j < d
      · rw [if_pos h3, if_pos (by omega)]
      · rw [if_neg h3, if_neg (by omega)]
theorem M_keep {F a : Nat} (hF : 2000 < F) (ha : a < 13) (un : Int32) (al was : AA) : p_X11_keepAct F (nI a) un al was = some (nI (upA a), 0, kwA a al was) := by
  have key : ∀ (c : Nat) (x : AA), c < 12 → p_X11_keepAct_J49 F al (nI c) un x = some (nI (c + 1), 0, fun j => if 121 * c ≤ j ∧ j < 121 * c + 121 then al (j - 121 * c) else x j) := fun c x hc => by
    have key := fold_loop (fun fuel (z : AA) i => p_X11_keepAct_L51 F al fuel i (nI c) un z) (fun z => some (nI (c + 1), 0, z)) (fun i (z : AA) => upd z (121 * c + i) (al i)) (fun _ _ => True) 121 (fun fuel i z hi _ => by
      show p_X11_keepAct_L51b F al _ (nI i) (nI c) un z = _
      have g : ¬ ixBad (nI i) 121 := ixg hi (by decide)
      have e : (121 : Int32) * nI c + nI i = nI (121 * c + i) := by rw [show (121 : Int32) = nI 121 from rfl, pk_mul, nI_add]
      have g2 : ¬ ixBad (nI (121 * c + i)) 1573 := ixg (by omega) (by decide)
      have c1 : (nI i).toNatClampNeg = i := nI_clamp (by omega)
      have c2 : (nI (121 * c + i)).toNatClampNeg = 121 * c + i := nI_clamp (by omega)
      unfold p_X11_keepAct_L51b
      rw [if_neg (show ¬ (121 : Int32) ≤ nI i from nI_ge (b := 121) hi (by decide))]
      simp only [g, g2, c1, c2, e, ↓reduceIte, nI_1]) (fun fuel z _ => by
        show p_X11_keepAct_L51b F al _ (nI 121) (nI c) un z = _
        unfold p_X11_keepAct_L51b
        rw [if_pos (by decide +kernel), nI_1]) (fun _ _ _ _ => trivial) 121 0 F x (by omega) (by omega) trivial
    rw [row121_fold] at key
    exact key
  unfold p_X11_keepAct upA kwA
  by_cases h : a < 12
  · rw [if_neg (fun q => by have := (nI_eq (a := a) (b := 12) (by omega) (by decide)).mp q; omega), if_pos h, if_pos h]
    exact key a was h
  · have e : a = 12 := by omega
    subst e
    rw [if_pos (show nI 12 = (12 : Int32) from rfl), if_neg h, if_neg h]
    have k1 := fold_loop (fun fuel (z : AA) i => p_X11_keepAct_L11 F al fuel i (nI 12) un z) (fun z => p_X11_keepAct_J49 F al (nI 11) un z) (fun i (z : AA) => upd z i (z (i + 121))) (fun _ _ => True) 1452 (fun fuel i z hi _ => by
      show p_X11_keepAct_L11b F al _ (nI i) (nI 12) un z = _
      have g : ¬ ixBad (nI i) 1573 := ixg (by omega) (by decide)
      have e : nI i + (121 : Int32) = nI (i + 121) := by rw [show (121 : Int32) = nI 121 from rfl, nI_add]
      have g2 : ¬ ixBad (nI (i + 121)) 1573 := ixg (by omega) (by decide)
      have c1 : (nI i).toNatClampNeg = i := nI_clamp (by omega)
      have c2 : (nI (i + 121)).toNatClampNeg = i + 121 := nI_clamp (by omega)
      unfold p_X11_keepAct_L11b
      rw [if_neg (show ¬ (1452 : Int32) ≤ nI i from nI_ge (b := 1452) hi (by decide))]
      simp only [g, g2, c1, c2, e, ↓reduceIte, nI_1]) (fun fuel z _ => by
        show p_X11_keepAct_L11b F al _ (nI 1452) (nI 12) un z = _
        unfold p_X11_keepAct_L11b
        rw [if_pos (by decide +kernel)]; rfl) (fun _ _ _ _ => trivial) 1452 0 F was (by omega) (by omega) trivial
    rw [shift_fold] at k1
    refine k1.trans ((key 11 _ (by omega)).trans ?_)
    refine congrArg (fun z => some (nI 12, (0 : Int32), z)) (funext fun j => ?_)
    by_cases h1 : 1331 ≤ j ∧ j < 1452
    · rw [if_pos (by omega)]
    · rw [if_neg (by omega)]
/-- what an act, or none, leaves -/
def StpA (n k a : Nat) (la un : Int32) (st : Nat → Option Nat) (o : Nx) (al was : AA) (a1 l1 u1 : Int32) (st1 : Nat → Option Nat) (o1 : Nx) (al1 was1 : AA) : Prop :=
  (a1 = nI a ∧ l1 = la ∧ u1 = un ∧ st1 = st ∧ o1 = o ∧ al1 = al ∧ was1 = was) ∨ (a1 = nI (upA a) ∧ l1 = nI (upA a) ∧ u1 = 0 ∧ st1 = shS a st ∧ SX n k o1 al1 ∧ was1 = kwA a al was)
theorem StpA.no {n k a : Nat} {la un : Int32} {st : Nat → Option Nat} {o : Nx} {al was : AA} : StpA n k a la un st o al was (nI a) la un st o al was := Or.inl ⟨rfl, rfl, rfl, rfl, rfl, rfl, rfl⟩
theorem StpA.yes {n k a : Nat} {la un : Int32} {st : Nat → Option Nat} {o o1 : Nx} {al was al1 : AA} (h : SX n k o1 al1) : StpA n k a la un st o al was (nI (upA a)) (nI (upA a)) 0 (shS a st) o1 al1 (kwA a al was) := Or.inr ⟨rfl, rfl, rfl, rfl, h, rfl⟩
theorem X8_act {F gc gn a n k : Nat} {la pr : Int32} {st : Nat → Option Nat} {o : Nx} {col pl prT bits mea stk syn tal al : AA} (ha : a < 13) (hs : st a = some gc) (hn : st (nxA a) = some gn) (h : SR n k pr col pl prT bits mea stk syn tal al) :
    ∃ col' pl' prT' bits' mea' stk' syn' tal', p_X8_beginAct F gc gn (nI a) la st (nI n) (nI k) pr col pl prT bits mea stk syn tal o.1 o.2.1 o.2.2.1 o.2.2.2.1 o.2.2.2.2.1 o.2.2.2.2.2.1 o.2.2.2.2.2.2.1 o.2.2.2.2.2.2.2.1 o.2.2.2.2.2.2.2.2.1 o.2.2.2.2.2.2.2.2.2.1 o.2.2.2.2.2.2.2.2.2.2 = some (nI (upA a), nI (upA a), shS a st, nI n, nI k, pr, col', pl', prT', bits', mea', stk', syn', tal') ∧ SR n k pr col' pl' prT' bits' mea' stk' syn' tal' al ∧
      (∀ p, p < 32 → col' p = col p) ∧ ∀ w, w < 16 → bits' w = bits w ∧ mea' w = mea w ∧ stk' w = stk w ∧ syn' w = syn w := by
  have hx : SX n k (nI n, nI k, pr, col, pl, prT, bits, mea, stk, syn, tal) al := ⟨rfl, rfl, h⟩
  have hB := X8_begin (F := F) (la := la) (s := (nI n, nI k, pr, col, pl, prT, bits, mea, stk, syn, tal)) (o := o) ha hs hn h.1
  exact ⟨_, _, _, _, _, _, _, _, hB, (hx.cp (o := o)).2.2, fun _ hp => cpy0 hp, fun _ hw => ⟨cpy0 hw, cpy0 hw, cpy0 hw, cpy0 hw⟩⟩
