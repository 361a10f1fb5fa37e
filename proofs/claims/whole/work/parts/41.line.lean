/-! the line of states: steps back and on, images -/
def rwA (was : AA) (i : Nat) : AA := fun x => was (121 * i + x)
def swW (c : Nat) (al was : AA) : AA := fun x => if 121 * c ≤ x ∧ x < 121 * c + 121 then al (x - 121 * c) else was x
def swL (c : Nat) (al was : AA) : AA := fun j => if j < 121 then was (121 * c + j) else al j
theorem swap_fold (c : Nat) (al was : AA) : ∀ d, d ≤ 121 → fo (fun i (z : AA × AA) => (upd z.1 i (z.2 (121 * c + i)), upd z.2 (121 * c + i) (z.1 i))) d 0 (al, was) = ((fun j => if j < d then was (121 * c + j) else al j), fun x => if 121 * c ≤ x ∧ x < 121 * c + d then al (x - 121 * c) else was x) := by
  intro d
  induction d with
  | zero =>
    intro _
    refine Prod.ext (funext fun j => ?_) (funext fun j => ?_)
    · show al j = if j < 0 then was (121 * c + j) else al j
      rw [if_neg (by omega)]
    · show was j = if 121 * c ≤ j ∧ j < 121 * c + 0 then al (j - 121 * c) else was j
      rw [if_neg (by omega)]
  | succ d ih =>
    intro hd
    rw [fo_succ, ih (by omega)]
    refine Prod.ext (funext fun j => ?_) (funext fun j => ?_)
    · dsimp only
      rw [upd_at]
      by_cases h1 : j = 0 + d
      · rw [if_pos h1, if_neg (by omega), if_pos (by omega), h1]
      · rw [if_neg h1]
        by_cases h2 : j < d
        · rw [if_pos h2, if_pos (by omega)]
        · rw [if_neg h2, if_neg (by omega)]
    · dsimp only
      rw [upd_at]
      by_cases h1 : j = 121 * c + (0 + d)
      · rw [if_pos h1, if_neg (by omega), if_pos (by omega), show j - 121 * c = 0 + d by omega]
      · rw [if_neg h1]
        by_cases h2 : 121 * c ≤ j ∧ j < 121 * c + d
        · rw [if_pos h2, if_pos (by omega)]
        · rw [if_neg h2, if_neg (by omega)]
theorem M_swapAll {F c : Nat} (hF : 1000 < F) (hc : c ≤ 12) (al was : AA) : p_X11_swapAll F (nI c) al was = some (swL c al was, swW c al was) := by
  have key := fold_loop (fun fuel (z : AA × AA) i => p_X11_swapAll_L2 F (nI c) fuel i z.1 z.2) (fun z => some z) (fun i (z : AA × AA) => (upd z.1 i (z.2 (121 * c + i)), upd z.2 (121 * c + i) (z.1 i))) (fun _ _ => True) 121 (fun fuel i z hi _ => by
      show p_X11_swapAll_L2b F (nI c) _ (nI i) z.1 z.2 = _
      have g : ¬ ixBad (nI i) 121 := ixg hi (by decide)
      have e : (121 : Int32) * nI c + nI i = nI (121 * c + i) := by rw [show (121 : Int32) = nI 121 from rfl, pk_mul, nI_add]
      have g2 : ¬ ixBad (nI (121 * c + i)) 1573 := ixg (by omega) (by decide)
      have c1 : (nI i).toNatClampNeg = i := nI_clamp (by omega)
      have c2 : (nI (121 * c + i)).toNatClampNeg = 121 * c + i := nI_clamp (by omega)
      unfold p_X11_swapAll_L2b jlet
      rw [if_neg (show ¬ (121 : Int32) ≤ nI i from nI_ge (b := 121) hi (by decide))]
      simp only [g, g2, c1, c2, e, ↓reduceIte, nI_1]) (fun fuel z _ => rfl) (fun _ _ _ _ => trivial) 121 0 F (al, was) (by omega) (by omega) trivial
  rw [swap_fold c al was 121 (by omega)] at key
  exact key
/-- the line: a states kept, the one that is now, u undone -/
def GL (n k a u : Nat) (pos : Nat → Nat) (sv : Nat → Nx) (al was : AA) : Prop :=
  a + u ≤ 12 ∧ (∀ i, i < 13 → pos i < 13) ∧ (∀ i j, i < 13 → j < 13 → pos i = pos j → i = j) ∧ (∀ i, i < a → SX n k (sv (pos i)) (rwA was i)) ∧ SX n k (sv (pos a)) al ∧ ∀ i, a < i → i ≤ a + u → SX n k (sv (pos i)) (rwA was (i - 1))
def PosR (ad pos : Nat → Nat) (st : Nat → Option Nat) : Prop := ∀ i, i < 13 → st i = some (ad (pos i))
def svU (sv : Nat → Nx) (j : Nat) (o : Nx) : Nat → Nx := fun i => if i = j then o else sv i
theorem svU_same {sv : Nat → Nx} {j : Nat} : svU sv j (sv j) = sv := funext fun i => by
  unfold svU
  by_cases e : i = j
  · rw [if_pos e, e]
  · rw [if_neg e]
theorem svU_ne {sv : Nat → Nx} {i j : Nat} {o : Nx} (h : i ≠ j) : svU sv j o i = sv i := by unfold svU; rw [if_neg h]
theorem svU_at {sv : Nat → Nx} {j : Nat} {o : Nx} : svU sv j o j = o := by unfold svU; rw [if_pos rfl]
def shP (a : Nat) (pos : Nat → Nat) : Nat → Nat := if a < 12 then pos else fun j => if j < 12 then pos (j + 1) else if j = 12 then pos 0 else pos j
section Line
variable {F n k a u : Nat} {pos ad : Nat → Nat} {sv : Nat → Nx} {al was : AA} {st : Nat → Option Nat}
theorem GL.act (h : GL n k a u pos sv al was) (hst : PosR ad pos st) {a1 l1 u1 : Int32} {st1 : Nat → Option Nat} {o1 : Nx} {al1 was1 : AA} (hS : StpA n k a (nI (a + u)) (nI u) st (sv (pos (nxA a))) al was a1 l1 u1 st1 o1 al1 was1) :
    ∃ a' u' pos', a1 = nI a' ∧ l1 = nI (a' + u') ∧ u1 = nI u' ∧ PosR ad pos' st1 ∧ GL n k a' u' pos' (svU sv (pos (nxA a)) o1) al1 was1 := by
  rcases hS with ⟨e1, e2, e3, e4, e5, e6, e7⟩ | ⟨e1, e2, e3, e4, e5, e6⟩
  · subst e1 e2 e3 e4 e5 e6 e7
    rw [svU_same]
    exact ⟨a, u, pos, rfl, rfl, rfl, hst, h⟩
  · subst e1 e2 e3 e4 e6
    obtain ⟨h1, h2, h3, h4, h5, h6⟩ := h
    refine ⟨upA a, 0, shP a pos, rfl, rfl, rfl, ?_, ?_⟩
    · intro i hi
      unfold shS shP
      by_cases c : a < 12
      · rw [if_pos c, if_pos c]; exact hst i hi
      · rw [if_neg c, if_neg c]
        unfold rotL
        by_cases c2 : i < 12
        · rw [if_pos c2]; simp only [c2, ↓reduceIte]; exact hst (i + 1) (by omega)
        · rw [if_neg c2, if_pos (by omega)]; simp only [show i = 12 by omega, ↓reduceIte]; exact hst 0 (by omega)
    · by_cases c : a < 12
      · have e1 : upA a = a + 1 := by unfold upA; rw [if_pos c]
        have e2 : nxA a = a + 1 := by unfold nxA; rw [if_pos c]
        have e3 : shP a pos = pos := by unfold shP; rw [if_pos c]
        rw [e1, e2, e3]
        refine ⟨by omega, h2, h3, fun i hi => ?_, ?_, fun i q1 q2 => by omega⟩
        · have ne : pos i ≠ pos (a + 1) := fun q => by have := h3 i (a + 1) (by omega) (by omega) q; omega
          rw [svU_ne ne]
          by_cases c2 : i < a
          · refine (h4 i c2).al (fun p hp => ?_)
            unfold rwA kwA
            rw [if_pos c]
            show (if _ then _ else _) = _
            rw [if_neg (by omega)]
          · have : i = a := by omega
            subst this
            refine h5.al (fun p hp => ?_)
            unfold rwA kwA
            rw [if_pos c]
            show (if _ then _ else _) = _
            rw [if_pos (by omega), show 121 * i + p - 121 * i = p by omega]
        · rw [svU_at]; exact e5
      · have ea : a = 12 := by omega
        subst ea
        have e1 : upA 12 = 12 := rfl
        have e2 : nxA 12 = 0 := rfl
        have e3 : ∀ i, i < 12 → shP 12 pos i = pos (i + 1) := fun i hi => by unfold shP; rw [if_neg (by omega)]; simp only [hi, ↓reduceIte]
        have e4 : shP 12 pos 12 = pos 0 := rfl
        have e5' : ∀ i, i < 13 → ∃ j, j < 13 ∧ shP 12 pos i = pos j ∧ j = (if i < 12 then i + 1 else 0) := fun i hi => by
          by_cases c2 : i < 12
          · exact ⟨i + 1, by omega, e3 i c2, by rw [if_pos c2]⟩
          · exact ⟨0, by omega, by rw [show i = 12 by omega]; exact e4, by rw [if_neg c2]⟩
        rw [e1, e2]
        refine ⟨by omega, fun i hi => ?_, fun i j hi hj q => ?_, fun i hi => ?_, ?_, fun i q1 q2 => by omega⟩
        · obtain ⟨j, hj, ej, _⟩ := e5' i hi
          rw [ej]; exact h2 j hj
        · obtain ⟨i', hi', ei, qi⟩ := e5' i hi
          obtain ⟨j', hj', ej, qj⟩ := e5' j hj
          rw [ei, ej] at q
          have := h3 i' j' hi' hj' q
          rw [qi, qj] at this
          by_cases c1 : i < 12
          · rw [if_pos c1] at this
            by_cases c2 : j < 12
            · rw [if_pos c2] at this; omega
            · rw [if_neg c2] at this; omega
          · rw [if_neg c1] at this
            by_cases c2 : j < 12
            · rw [if_pos c2] at this; omega
            · omega
        · have ne : pos (i + 1) ≠ pos 0 := fun q => by have := h3 (i + 1) 0 (by omega) (by omega) q; omega
          rw [e3 i hi, svU_ne ne]
          by_cases c2 : i < 11
          · refine (h4 (i + 1) (by omega)).al (fun p hp => ?_)
            unfold rwA kwA
            rw [if_neg (by omega)]
            show (if _ then _ else _) = _
            rw [if_neg (by omega), if_pos (by omega), show 121 * i + p + 121 = 121 * (i + 1) + p by omega]
          · have : i = 11 := by omega
            subst this
            refine h5.al (fun p hp => ?_)
            unfold rwA kwA
            rw [if_neg (by omega)]
            show (if _ then _ else _) = _
            rw [if_pos (by omega), show 121 * 11 + p - 1331 = p by omega]
        · rw [e4, svU_at]; exact e5
theorem row_swW_ne {c i : Nat} (h : i ≠ c) : ∀ p, p < 121 → rwA (swW c al was) i p = rwA was i p := fun p hp => by
  unfold rwA swW
  rw [if_neg (by omega)]
theorem row_swW_at {c : Nat} : ∀ p, p < 121 → rwA (swW c al was) c p = al p := fun p hp => by
  unfold rwA swW
  rw [if_pos (by omega), show 121 * c + p - 121 * c = p by omega]
theorem G_undo (hF : 1000 < F) (h : GL n k a u pos sv al was) : ∃ r a' u' al' was', p_X10_undo F (nI a) = some (r, nI a') ∧ p_X11_undo F (nI a) (nI u) al was = some (r, nI a', nI u', al', was') ∧ a' + u' = a + u ∧ GL n k a' u' pos sv al' was' := by
  have hau := h.1
  unfold p_X10_undo p_X11_undo p_X8_stepBack
  by_cases c : a = 0
  · subst c
    rw [if_neg (show ¬ (0 : Int32) < nI 0 by decide +kernel), if_pos (show nI 0 = 0 from rfl)]
    exact ⟨0, 0, u, al, was, rfl, rfl, rfl, h⟩
  · have e : nI a - 1 = nI (a - 1) := by have := nI_pred (a - 1); rw [show a - 1 + 1 = a by omega] at this; exact this
    rw [if_pos (show (0 : Int32) < nI a from nI_lt (a := 0) (by omega) (by omega)), if_neg (fun q => c ((nI_is0 (by omega)).mp q)), e, M_swapAll hF (by omega)]
    simp only [Option.bind_some, nI_1]
    refine ⟨1, a - 1, u + 1, _, _, rfl, rfl, by omega, ?_⟩
    obtain ⟨h1, h2, h3, h4, h5, h6⟩ := h
    refine ⟨by omega, h2, h3, fun i hi => (h4 i (by omega)).al (row_swW_ne (by omega)), (h4 (a - 1) (by omega)).al (fun p hp => by unfold swL rwA; rw [if_pos hp]), fun i q1 q2 => ?_⟩
    by_cases e2 : i = a
    · subst e2
      exact h5.al row_swW_at
    · exact (h6 i (by omega) (by omega)).al (row_swW_ne (by omega))
theorem G_redo (hF : 1000 < F) (h : GL n k a u pos sv al was) : ∃ r a' u' al' was', p_X10_redo F (nI a) (nI (a + u)) = some (r, nI a') ∧ p_X11_redo F (nI a) (nI u) al was = some (r, nI a', nI u', al', was') ∧ a' + u' = a + u ∧ GL n k a' u' pos sv al' was' := by
  have hau := h.1
  unfold p_X10_redo p_X11_redo p_X8_stepOn
  by_cases c : u = 0
  · subst c
    rw [if_neg (show ¬ nI a < nI (a + 0) from fun q => by rw [fa_lt, Nat.add_zero] at q; omega), if_pos (show nI 0 = 0 from rfl)]
    exact ⟨0, a, 0, al, was, rfl, rfl, rfl, h⟩
  · have e : nI u - 1 = nI (u - 1) := by have := nI_pred (u - 1); rw [show u - 1 + 1 = u by omega] at this; exact this
    rw [if_pos (nI_lt (by omega) (by omega)), if_neg (fun q => c ((nI_is0 (by omega)).mp q)), e, M_swapAll hF (by omega)]
    simp only [Option.bind_some, nI_1]
    refine ⟨1, a + 1, u - 1, _, _, rfl, rfl, by omega, ?_⟩
    obtain ⟨h1, h2, h3, h4, h5, h6⟩ := h
    refine ⟨by omega, h2, h3, fun i hi => ?_, (h6 (a + 1) (by omega) (by omega)).al (fun p hp => by unfold swL rwA; rw [if_pos hp, Nat.add_sub_cancel]), fun i q1 q2 => (h6 i (by omega) (by omega)).al (row_swW_ne (by omega))⟩
    by_cases e2 : i = a
    · subst e2
      exact h5.al row_swW_at
    · exact (h4 i (by omega)).al (row_swW_ne (by omega))
end Line
