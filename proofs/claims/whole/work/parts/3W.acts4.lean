/-! acts that free, stick and burst -/
section Act3
variable {F b n k a gc gn : Nat} {dat chk : AA} {la un pr : Int32} {col pl prT bits mea stk syn tal al was : AA} {st : Nat → Option Nat} {o : Nx}
theorem slot_many {m : Nat} {sk s0 s1 p q : Int32} (hm : m ≤ 32) (h : SlotA m sk s0 s1 p q) : ((if s0 - 1 < 0 then 0 else 1) + (if s1 - 1 < 0 then 0 else 1) : Int32) = nI (pcn sk) := by
  have n0 : ((0 : Int32) - 1 < 0) := by decide
  have n1 : ∀ i, i < 32 → ¬ (nI (i + 1) - 1 < 0) := fun i hi => by rw [nI_s1]; exact nI_pos (by omega)
  rcases h with ⟨e1, _, _, e4, e5⟩ | ⟨i, hi, e1, _, _, e4, e5⟩ | ⟨i, i2, hi, hi2, e1, _, _, e6⟩
  · subst e1 e4 e5; rw [pcn_0, if_pos n0]; rfl
  · subst e1 e4 e5; rw [pcn_oh (by omega), if_neg (n1 i (by omega)), if_pos n0]; rfl
  · subst e1
    rw [pcn_oh2 hi (by omega)]
    rcases e6 with ⟨e1, e2⟩ | ⟨e1, e2⟩ <;> subst e1 e2 <;> rw [if_neg (n1 _ (by omega)), if_neg (n1 _ (by omega))] <;> rfl
theorem nI_pcn0 (x : Int32) : nI (pcn x) = 0 ↔ x = 0 := by
  have := pcn_le x
  rw [nI_is0 (by omega)]
  exact ⟨pcn_zero, fun e => by rw [e, pcn_0]⟩
/-- the slots of one word anew -/
theorem RA.slots {ab : Nat → Int32 × Int32} {al' : AA} {w : Nat} {sk p q : Int32} (h : RA n k al col pr bits mea stk tal ab) (hm : n + k ≤ 32) (hw : w < 16) (ne : ∀ j, j ≠ 81 + 2 * w → j ≠ 82 + 2 * w → al' j = al j) (hS : SlotA (n + k) sk (al' (81 + 2 * w)) (al' (82 + 2 * w)) p q) : RA n k al' col pr bits mea (upd stk w sk) tal (fun v => if v = w then (p, q) else ab v) := by
  obtain ⟨r1, r2, r3, r4⟩ := h
  refine ⟨fun p hp => ?_, ?_, fun v hv => ?_, fun t ht => ?_⟩
  · rw [ne p (by omega) (by omega)]; exact r1 p hp
  · rw [ne 32 (by omega) (by omega)]; exact r2
  · rw [ne (33 + v) (by omega) (by omega), ne (49 + v) (by omega) (by omega), ne (65 + v) (by omega) (by omega)]
    obtain ⟨q1, q2, q3, q4⟩ := r3 v hv
    refine ⟨q1, q2, q3, ?_⟩
    rw [upd_at]
    by_cases e : v = w
    · subst e; rw [if_pos rfl]; simp only [↓reduceIte]; exact hS
    · rw [if_neg e]; simp only [e, ↓reduceIte]; rw [ne _ (by omega) (by omega), ne _ (by omega) (by omega)]; exact q4
  · rw [ne _ (by omega) (by omega)]; exact r4 t ht
theorem A_free (hF : 2000 < F) (ha : a < 13) (hs : st a = some gc) (hn : st (nxA a) = some gn) (hb : MB b n k dat chk) (h : SR n k pr col pl prT bits mea stk syn tal al) (v : Int32) : ∃ r a1 l1 u1 st1 o1 al1 was1, p_X10_free F gc gn (nI a) la st (nI n) (nI k) pr col pl prT bits mea stk syn tal o.1 o.2.1 o.2.2.1 o.2.2.2.1 o.2.2.2.2.1 o.2.2.2.2.2.1 o.2.2.2.2.2.2.1 o.2.2.2.2.2.2.2.1 o.2.2.2.2.2.2.2.2.1 o.2.2.2.2.2.2.2.2.2.1 o.2.2.2.2.2.2.2.2.2.2 v = some (r, a1, l1, st1, o1) ∧ p_X11_free F (nI a) un al was v = some (r, a1, u1, al1, was1) ∧ StpA n k a la un st o al was a1 l1 u1 st1 o1 al1 was1 := by
  obtain ⟨col', pl', prT', bits', mea', stk', syn', tal', hA, h', hcl, hww⟩ := X8_act (F := F) (la := la) (o := o) ha hs hn h
  have hK := M_keep hF ha un al was
  have hm := h.2.1.hm
  unfold p_X10_free p_X11_free
  rcases rng v (N := 16) (by decide) with ⟨w, hw, rfl⟩ | ho
  · have g1 : ¬ ixBad (nI w) 16 := ixg hw (by decide)
    have c1 : (nI w).toNatClampNeg = w := nI_clamp (by omega)
    rw [(isWord_in hw).1, (isWord_in hw).2, now_eq ha hs]
    obtain ⟨h1, hc, ht, ⟨ab, hR⟩, hW, hI⟩ := h'
    have hsl := (hR.2.2.1 w hw).2.2.2
    have hsk := (hww w hw).2.2.1
    simp only [Option.bind_some, i32_1_0, ↓reduceIte, g1, c1, ← hsk]
    rw [M_stuckMany hw, slot_many hm hsl]
    simp only [Option.bind_some, nI_pcn0]
    by_cases e : stk' w = 0
    · rw [if_pos e, if_pos e]
      exact ⟨_, _, _, _, _, _, _, _, rfl, rfl, StpA.no⟩
    · rw [if_neg e, if_neg e, hA, hK]
      have e81 : (81 : Int32) + 2 * nI w = nI (81 + 2 * w) := by rw [show (2 : Int32) = nI 2 from rfl, pk_mul]; exact nI_lit 81 (2 * w)
      have g81 : ¬ ixBad (nI (81 + 2 * w)) 121 := ixg (by omega) (by decide)
      have g82 : ¬ ixBad (nI (81 + 2 * w + 1)) 121 := ixg (by omega) (by decide)
      have c81 : (nI (81 + 2 * w)).toNatClampNeg = 81 + 2 * w := nI_clamp (by omega)
      have c82 : (nI (81 + 2 * w + 1)).toNatClampNeg = 81 + 2 * w + 1 := nI_clamp (by omega)
      simp only [Option.bind_some, e81, nI_1, g81, g82, c81, c82, ↓reduceIte]
      rw [bitCount_eq]
      simp only [Option.bind_some]
      have hR' := hR.slots (al' := upd (upd al (81 + 2 * w) 0) (81 + 2 * w + 1) 0) (sk := 0) (p := -1) (q := -1) hm hw (fun j h1 h2 => by rw [upd_at, upd_at, if_neg (by omega), if_neg h1]) (Or.inl ⟨rfl, rfl, rfl, by rw [upd_at, upd_at, if_neg (by omega), if_pos rfl], by rw [upd_at, if_pos (by omega)]⟩)
      exact ⟨_, _, _, _, _, _, _, _, rfl, rfl, StpA.yes ⟨rfl, rfl, h1, hc, ht, ⟨_, hR'⟩, hW, hI⟩⟩
  · rw [(isWord_out ho).1, (isWord_out ho).2]
    simp only [Option.bind_some, ↓reduceIte]
    exact ⟨_, _, _, _, _, _, _, _, rfl, rfl, StpA.no⟩
theorem fit_setb {x : Int32} {p : Nat} {v : Bool} {m : Nat} (h : Fit m x) (hp : p < m) (hm : m ≤ 32) : Fit m (setb x p v) := fun i hi => by
  rw [bt_setb (by omega), if_neg (by omega)]; exact h i hi
/-- one place more is stuck -/
theorem slot_more {m p : Nat} {sk s0 s1 x y : Int32} (hm : m ≤ 32) (h : SlotA m sk s0 s1 x y) (hp : p < m) (hb : bt sk p = false) (h2 : pcn sk < 2) : ∃ x' y', (pcn sk = 0 ∧ SlotA m (sk ||| oh p) (nI (p + 1)) s1 x' y') ∨ (pcn sk = 1 ∧ SlotA m (sk ||| oh p) s0 (nI (p + 1)) x' y') := by
  rcases h with ⟨e1, _, _, e4, e5⟩ | ⟨i, hi, e1, _, _, e4, e5⟩ | ⟨i, i2, hi, hi2, e1, _, _, e6⟩
  · subst e1 e4 e5
    refine ⟨nI p, -1, Or.inl ⟨pcn_0, Or.inr (Or.inl ⟨p, hp, b_ext fun i _ => by rw [b_or, b_0, Bool.false_or], rfl, rfl, rfl, rfl⟩)⟩⟩
  · subst e1 e4 e5
    have hne : i ≠ p := fun e => by rw [e, bt_oh (by omega)] at hb; simp at hb
    by_cases q : i < p
    · exact ⟨nI i, nI p, Or.inr ⟨pcn_oh (by omega), Or.inr (Or.inr ⟨i, p, q, hp, rfl, rfl, rfl, Or.inl ⟨rfl, rfl⟩⟩)⟩⟩
    · exact ⟨nI p, nI i, Or.inr ⟨pcn_oh (by omega), Or.inr (Or.inr ⟨p, i, by omega, hi, b_ext fun j _ => by rw [b_or, b_or, Bool.or_comm], rfl, rfl, Or.inr ⟨rfl, rfl⟩⟩)⟩⟩
  · rw [e1, pcn_oh2 hi (by omega)] at h2; omega
theorem X9_stick {w p : Nat} {v : Bool} (hF : 40 < F) (hm : n + k ≤ 32) (hw : w < 16) (hp : p < n + k) (hst : bt (stk w) p = false) (hsy : syn w = sy col (bits w) (n + k)) :
    p_X9_stickPlace F bits stk syn (nI n) (nI k) col (nI w) (nI p) (if v = true then 1 else 0) = some (upd bits w (setb (bits w) p v), upd stk w (stk w ||| oh p), upd syn w (sy col (setb (bits w) p v) (n + k))) := by
  have g1 : ¬ ixBad (nI w) 16 := ixg hw (by decide)
  have c1 : (nI w).toNatClampNeg = w := nI_clamp (by omega)
  have ee : ((if bt (bits w) p = true then (1 : Int32) else 0) = if v = true then 1 else 0) ↔ bt (bits w) p = v := by
    cases bt (bits w) p <;> cases v <;> decide
  have hJ : ∀ A B : AA, p_X9_stickPlace_J25 F (nI n) (nI k) col (nI w) (nI p) A stk B = some (A, upd stk w (stk w ||| oh p), B) := fun A B => by
    unfold p_X9_stickPlace_J25
    simp only [g1, c1, ↓reduceIte]
    rfl
  unfold p_X9_stickPlace
  simp only [g1, c1, ↓reduceIte]
  rw [bit1u _ (by omega)]
  simp only [ee, hJ]
  rw [show (1 : Int32) <<< (nI p &&& 31) = oh p from rfl, X9_turn hF hm hw, turn_oh_f (by omega) hst]
  simp only [Option.bind_some]
  unfold setb
  by_cases e : bt (bits w) p = v
  · rw [if_pos e, if_pos e, ← hsy, upd_same, upd_same]
  · rw [if_neg e, if_neg e, sy_xor, hsy]
theorem A_stick (hF : 2000 < F) (ha : a < 13) (hs : st a = some gc) (hn : st (nxA a) = some gn) (hb : MB b n k dat chk) (h : SR n k pr col pl prT bits mea stk syn tal al) (v x y : Int32) : ∃ r a1 l1 u1 st1 o1 al1 was1, p_X10_stick F gc gn (nI a) la st (nI n) (nI k) pr col pl prT bits mea stk syn tal o.1 o.2.1 o.2.2.1 o.2.2.2.1 o.2.2.2.2.1 o.2.2.2.2.2.1 o.2.2.2.2.2.2.1 o.2.2.2.2.2.2.2.1 o.2.2.2.2.2.2.2.2.1 o.2.2.2.2.2.2.2.2.2.1 o.2.2.2.2.2.2.2.2.2.2 v x y = some (r, a1, l1, st1, o1) ∧ p_X11_stick F (nI b) (nI a) un al dat chk was v x y = some (r, a1, u1, al1, was1) ∧ StpA n k a la un st o al was a1 l1 u1 st1 o1 al1 was1 := by
  obtain ⟨col', pl', prT', bits', mea', stk', syn', tal', hA, h', hcl, hww⟩ := X8_act (F := F) (la := la) (o := o) ha hs hn h
  have hK := M_keep hF ha un al was
  have hm := h.2.1.hm
  have hn4 := h.2.1.1
  unfold p_X10_stick p_X11_stick
  rw [now_eq ha hs]
  rcases rng v (N := 16) (by decide) with ⟨w, hw, rfl⟩ | ho
  · have g1 : ¬ ixBad (nI w) 16 := ixg hw (by decide)
    have c1 : (nI w).toNatClampNeg = w := nI_clamp (by omega)
    rw [(isWord_in hw).1, (isWord_in hw).2]
    simp only [Option.bind_some, i32_1_0, ↓reduceIte, g1, c1]
    rcases rng x (N := n + k) (by omega) with ⟨p, hp, rfl⟩ | ho
    · rw [X1_isPlace_in hp hm, M_isPlace_in hb hp hm]
      simp only [Option.bind_some, i32_1_0, ↓reduceIte]
      rcases rng y (N := 2) (by decide) with ⟨z, hz, rfl⟩ | ho
      · rw [isIn_inL 2 1 rfl hz (by decide), cls_in 2 1 rfl hz (by decide)]
        simp only [Option.bind_some, i32_1_0, ↓reduceIte]
        obtain ⟨h1, hc, ht, ⟨ab, hR⟩, hW, hI⟩ := h'
        have hbc := hc.bc hb
        have hsl := (hR.2.2.1 w hw).2.2.2
        have hsk := (hww w hw).2.2.1
        rw [← hsk, M_isStuck hm hR hw (by omega), bit1u _ (by omega), bitCount_eq, M_stuckMany hw, slot_many hm hsl]
        simp only [Option.bind_some]
        by_cases e : bt (stk' w) p = true
        · rw [if_pos e, if_pos rfl, if_neg i32_1_0]
          exact ⟨_, _, _, _, _, _, _, _, rfl, rfl, StpA.no⟩
        · rw [if_neg e, if_neg (show ¬ (0 : Int32) = 1 by decide), if_pos rfl]
          have e' : bt (stk' w) p = false := by cases q : bt (stk' w) p <;> simp_all
          have hle : pcn (stk' w) ≤ 2 := by
            rcases hsl with ⟨e1, _⟩ | ⟨i, hi, e1, _⟩ | ⟨i, i2, hi, hi2, e1, _⟩
            · rw [e1, pcn_0]; omega
            · rw [e1, pcn_oh (by omega)]; omega
            · rw [e1, pcn_oh2 hi (by omega)]; omega
          by_cases e2 : pcn (stk' w) = 2
          · rw [e2, if_neg (show ¬ nI 2 < (2 : Int32) by decide +kernel), if_pos (show nI 2 = (2 : Int32) from rfl)]
            exact ⟨_, _, _, _, _, _, _, _, rfl, rfl, StpA.no⟩
          · rw [if_pos (show nI (pcn (stk' w)) < (2 : Int32) from nI_lt (b := 2) (by omega) (by decide)), if_neg (show ¬ nI (pcn (stk' w)) = (2 : Int32) from fun q => e2 ((nI_eq (b := 2) (by omega) (by decide)).mp q)), hA, hK]
            have ez : nI z = if decide (z = 1) = true then (1 : Int32) else 0 := by
              rcases (show z = 0 ∨ z = 1 by omega) with rfl | rfl <;> rfl
            obtain ⟨al2, hM, hR2⟩ := M_setBit (F := F) hbc hR hw hp (decide (z = 1))
            have hX := X9_stick (F := F) (v := decide (z = 1)) (col := col') (bits := bits') (stk := stk') (syn := syn') (by omega) hm hw hp e' (hI w hw).2
            rw [← ez] at hM hX
            simp only [Option.bind_some]
            rw [hM, hX]
            simp only [Option.bind_some]
            have hsl2 := (hR2.2.2.1 w hw).2.2.2
            rw [M_stuckMany hw, slot_many hm hsl2]
            have e81 : (81 : Int32) + 2 * nI w = nI (81 + 2 * w) := by rw [show (2 : Int32) = nI 2 from rfl, pk_mul]; exact nI_lit 81 (2 * w)
            have g81 : ¬ ixBad (nI (81 + 2 * w + pcn (stk' w))) 121 := ixg (by omega) (by decide)
            have c81 : (nI (81 + 2 * w + pcn (stk' w))).toNatClampNeg = 81 + 2 * w + pcn (stk' w) := nI_clamp (by omega)
            simp only [Option.bind_some, e81, nI_add, nI_1, g81, c81, ↓reduceIte]
            obtain ⟨x', y', hor⟩ := slot_more hm hsl2 hp e' (by omega)
            have hR' : RA n k (upd al2 (81 + 2 * w + pcn (stk' w)) (nI (p + 1))) col' pr (upd bits' w (setb (bits' w) p (decide (z = 1)))) mea' (upd stk' w (stk' w ||| oh p)) tal' (fun v => if v = w then (x', y') else ab v) := by
              refine hR2.slots hm hw (fun j q1 q2 => by rw [upd_at, if_neg (by omega)]) ?_
              rcases hor with ⟨q1, q2⟩ | ⟨q1, q2⟩
              · rw [q1, upd_at, upd_at, if_pos (by omega), if_neg (by omega)]; exact q2
              · rw [q1, upd_at, upd_at, if_neg (by omega), if_pos (by omega)]; exact q2
            have hAI : AI n k col' (upd bits' w (setb (bits' w) p (decide (z = 1))), upd syn' w (sy col' (setb (bits' w) p (decide (z = 1))) (n + k)), tal') := fun v hv => by
              show Fit (n + k) (upd bits' w _ v) ∧ upd syn' w _ v = sy col' (upd bits' w _ v) (n + k)
              rw [upd_at, upd_at]
              by_cases e : v = w
              · rw [if_pos e, if_pos e]; exact ⟨fit_setb (hI w hw).1 hp hm, rfl⟩
              · rw [if_neg e, if_neg e]; exact hI v hv
            exact ⟨_, _, _, _, _, _, _, _, rfl, rfl, StpA.yes ⟨rfl, rfl, h1, hc, ht, ⟨_, hR'⟩, hW, hAI⟩⟩
      · rw [isIn_outL 2 1 rfl (by decide) (by decide) ho, cls_out 2 1 rfl (by decide) (by decide) ho]
        simp only [Option.bind_some, ↓reduceIte]
        exact ⟨_, _, _, _, _, _, _, _, rfl, rfl, StpA.no⟩
    · rw [X1_isPlace_out ho, M_isPlace_out hb (by omega) hm ho]
      simp only [Option.bind_some, ↓reduceIte]
      exact ⟨_, _, _, _, _, _, _, _, rfl, rfl, StpA.no⟩
  · rw [(isWord_out ho).1, (isWord_out ho).2]
    simp only [Option.bind_some, ↓reduceIte]
    exact ⟨_, _, _, _, _, _, _, _, rfl, rfl, StpA.no⟩
end Act3
