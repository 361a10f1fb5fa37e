/-! acts that mend and slip -/
section Act1
variable {F b n k a gc gn : Nat} {dat chk : AA} {la un pr : Int32} {col pl prT bits mea stk syn tal al was : AA} {st : Nat → Option Nat} {o : Nx}
theorem A_mend (hF : 2000 < F) (ha : a < 13) (hs : st a = some gc) (hn : st (nxA a) = some gn) (hb : MB b n k dat chk) (h : SR n k pr col pl prT bits mea stk syn tal al) (y0 y1 y2 z0 z1 z2 z3 v : Int32) : ∃ r a1 l1 u1 st1 o1 al1 was1 x0 x1 x2 w0 w1 w2 w3, p_X10_mend F gc gn (nI a) la st y0 y1 y2 (nI n) (nI k) pr col pl prT bits mea stk syn tal o.1 o.2.1 o.2.2.1 o.2.2.2.1 o.2.2.2.2.1 o.2.2.2.2.2.1 o.2.2.2.2.2.2.1 o.2.2.2.2.2.2.2.1 o.2.2.2.2.2.2.2.2.1 o.2.2.2.2.2.2.2.2.2.1 o.2.2.2.2.2.2.2.2.2.2 v = some (r, a1, l1, st1, x0, x1, x2, o1) ∧ p_X11_mend F (nI b) z0 z1 z2 z3 (nI a) un al dat chk was v = some (r, w0, w1, w2, w3, a1, u1, al1, was1) ∧ StpA n k a la un st o al was a1 l1 u1 st1 o1 al1 was1 := by
  obtain ⟨col', pl', prT', bits', mea', stk', syn', tal', hA, h', hcl, hww⟩ := X8_act (F := F) (la := la) (o := o) ha hs hn h
  have hK := M_keep hF ha un al was
  unfold p_X10_mend p_X11_mend
  rcases rng v (N := 16) (by decide) with ⟨j, hj, rfl⟩ | ho
  · rw [(isWord_in hj).1, (isWord_in hj).2]
    simp only [Option.bind_some, i32_1_0, ↓reduceIte]
    rw [hA, hK]
    simp only [Option.bind_some]
    obtain ⟨h1, hc, ht, ⟨ab, hR⟩, hW, hI⟩ := h'
    have hbc := hc.bc hb
    obtain ⟨al', w0, w1, w2, hM, hR'⟩ := M_mend (F := F) (z := (bits', syn', tal')) (by omega) hbc hR hW hI hj z0 z1 z2 z3
    rw [hM, X9_mend (by omega) hc.hm hc.colB ht h1 hR.stk hj]
    simp only [Option.bind_some]
    exact ⟨_, _, _, _, _, _, _, _, _, _, _, _, _, _, _, rfl, rfl, StpA.yes ⟨rfl, rfl, h1, hc, ht, ⟨ab, hR'⟩, hW, mdS_AI hc.hm hR.stk hj hI⟩⟩
  · rw [(isWord_out ho).1, (isWord_out ho).2]
    simp only [Option.bind_some, ↓reduceIte]
    exact ⟨_, _, _, _, _, _, _, _, _, _, _, _, _, _, _, rfl, rfl, StpA.no⟩
theorem A_scrub (hF : 2000 < F) (ha : a < 13) (hs : st a = some gc) (hn : st (nxA a) = some gn) (hb : MB b n k dat chk) (h : SR n k pr col pl prT bits mea stk syn tal al) (y0 y1 y2 z0 z1 z2 z3 : Int32) : ∃ r a1 l1 u1 st1 o1 al1 was1 x0 x1 x2 w0 w1 w2 w3, p_X10_scrub F gc gn (nI a) la st y0 y1 y2 (nI n) (nI k) pr col pl prT bits mea stk syn tal o.1 o.2.1 o.2.2.1 o.2.2.2.1 o.2.2.2.2.1 o.2.2.2.2.2.1 o.2.2.2.2.2.2.1 o.2.2.2.2.2.2.2.1 o.2.2.2.2.2.2.2.2.1 o.2.2.2.2.2.2.2.2.2.1 o.2.2.2.2.2.2.2.2.2.2 = some (r, a1, l1, st1, x0, x1, x2, o1) ∧ p_X11_scrub F (nI b) z0 z1 z2 z3 (nI a) un al dat chk was = some (r, w0, w1, w2, w3, a1, u1, al1, was1) ∧ StpA n k a la un st o al was a1 l1 u1 st1 o1 al1 was1 := by
  obtain ⟨col', pl', prT', bits', mea', stk', syn', tal', hA, h', hcl, hww⟩ := X8_act (F := F) (la := la) (o := o) ha hs hn h
  have hK := M_keep hF ha un al was
  unfold p_X10_scrub p_X11_scrub
  rw [hA, hK]
  simp only [Option.bind_some]
  obtain ⟨h1, hc, ht, ⟨ab, hR⟩, hW, hI⟩ := h'
  have hbc := hc.bc hb
  obtain ⟨al', w0, w1, w2, w3, hM, hR'⟩ := M_scrub (F := F) (z := (bits', syn', tal')) (by omega) hbc hW hR hI z0 z1 z2 z3
  obtain ⟨y, hX⟩ := X9_mendAll (F := F) (bits := bits') (mea := mea') (syn := syn') (tal := tal') (by omega) hc.hm hc.colB ht h1 hR.stk y0 y1 y2
  rw [hM, hX]
  simp only [Option.bind_some]
  exact ⟨_, _, _, _, _, _, _, _, _, _, _, _, _, _, _, rfl, rfl, StpA.yes ⟨rfl, rfl, h1, hc, ht, ⟨ab, hR'⟩, hW, scS_AI hc.hm hR.stk hI⟩⟩
theorem A_pairs (hF : 2000 < F) (ha : a < 13) (hs : st a = some gc) (hn : st (nxA a) = some gn) (hb : MB b n k dat chk) (h : SR n k pr col pl prT bits mea stk syn tal al) {v : Int32} (hv : v = 0 ∨ v = 1) : ∃ r a1 l1 u1 st1 o1 al1 was1, p_X10_pairs F gc gn (nI a) la st (nI n) (nI k) pr col pl prT bits mea stk syn tal o.1 o.2.1 o.2.2.1 o.2.2.2.1 o.2.2.2.2.1 o.2.2.2.2.2.1 o.2.2.2.2.2.2.1 o.2.2.2.2.2.2.2.1 o.2.2.2.2.2.2.2.2.1 o.2.2.2.2.2.2.2.2.2.1 o.2.2.2.2.2.2.2.2.2.2 v = some (r, a1, l1, st1, o1) ∧ p_X11_pairs F (nI a) un al was v = some (r, a1, u1, al1, was1) ∧ StpA n k a la un st o al was a1 l1 u1 st1 o1 al1 was1 := by
  obtain ⟨col', pl', prT', bits', mea', stk', syn', tal', hA, h', hcl, hww⟩ := X8_act (F := F) (la := la) (o := o) ha hs hn h
  have hK := M_keep hF ha un al was
  obtain ⟨h1, hc, ht, ⟨ab, hR⟩, hW, hI⟩ := h'
  have e32 : al (32 : Int32).toNatClampNeg = pr := hR.2.1
  unfold p_X10_pairs p_X11_pairs
  rw [now_eq ha hs, e32]
  simp only [Option.bind_some]
  have hJ : (if pr = 1 then p_X11_pairs_J16 F v 1 (nI a) un al was else p_X11_pairs_J16 F v 0 (nI a) un al was) = p_X11_pairs_J16 F v pr (nI a) un al was := by rcases h1 with e | e <;> subst e <;> rfl
  rw [hJ]
  unfold p_X11_pairs_J16
  by_cases e : pr = v
  · rw [if_pos e, if_pos e]
    exact ⟨_, _, _, _, _, _, _, _, rfl, rfl, StpA.no⟩
  · rw [if_neg e, if_neg e, hA, hK]
    simp only [Option.bind_some]
    rw [if_neg (fun q => q hv)]
    have hR' : RA n k (upd al 32 v) col' v bits' mea' stk' tal' ab := by
      have hm := hc.hm
      obtain ⟨r1, r2, r3, r4⟩ := hR
      have ne : ∀ j, j ≠ 32 → upd al 32 v j = al j := fun j hj => by rw [upd_at, if_neg hj]
      have hn24 := hc.2.1
      have hk8 := hc.2.2.2.1
      refine ⟨fun p hp => ?_, by rw [upd_at, if_pos rfl], fun w hw => ?_, fun t ht => ?_⟩
      · rw [ne p (by omega)]; exact r1 p hp
      · rw [ne _ (by omega), ne _ (by omega), ne _ (by omega), ne _ (by omega), ne _ (by omega)]; exact r3 w hw
      · rw [ne _ (by omega)]; exact r4 t ht
    have hJ2 : (if v = 0 then p_X11_pairs_J41 F 32 0 (nI (upA a)) 0 al (kwA a al was) else p_X11_pairs_J41 F 32 1 (nI (upA a)) 0 al (kwA a al was)) = some (1, nI (upA a), 0, upd al 32 v, kwA a al was) := by
      rcases hv with e | e <;> subst e <;> rfl
    rw [hJ2]
    exact ⟨_, _, _, _, _, _, _, _, rfl, rfl, StpA.yes ⟨rfl, rfl, hv, hc, ht, ⟨ab, hR'⟩, hW, hI⟩⟩
end Act1
