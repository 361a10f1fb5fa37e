/-! what holds after the other calls -/
section Inv2
variable {ad : Nat → Nat} {n k b a u L : Nat} {uu pos : Nat → Nat} {ci : Nat → Int32} {cf : Nat → AA} {st bx : Nat → Option Nat} {sv : Nat → Nx} {mi : Nat → Int32} {mf : Nat → AA} {ci' : Nat → Int32} {cf' : Nat → AA} {mi' : Nat → Int32} {mf' : Nat → AA}
theorem INV.line (h : INV ad n k b a u L uu pos ci cf st bx sv mi mf) {a' u' : Nat} (hG : GL n k a' u' pos sv (mf' 0) (mf' 46)) (hau : a' + u' = a + u) (e18 : ci' 18 = nI a') (e19 : ci' 19 = ci 19) (e49 : mi' 49 = nI a') (e50 : mi' 50 = nI u')
    (e : (mf' 1 = mf 1 ∧ mf' 2 = mf 2 ∧ mi' 5 = mi 5 ∧ cf' 3 = cf 3 ∧ mf' 6 = mf 6 ∧ ci' 13 = ci 13 ∧ mi' 7 = mi 7 ∧ mf' 18 = mf 18 ∧ ci' 0 = ci 0 ∧ ci' 1 = ci 1 ∧ mi' 16 = mi 16 ∧ mi' 17 = mi 17) ∧ cf' 18 = cf 18 ∧ mf' 48 = mf 48 ∧ mf' 47 = mf 47) : INV' ad ci' cf' st bx sv mi' mf' := by
  obtain ⟨⟨e1, e2, e3, e4, e5, e6, e7, e8, e9, e10, e11, e12⟩, e13, e14, e15⟩ := e
  refine ⟨n, k, b, a', u', L, uu, pos, ?_⟩
  exact ⟨(by rw [e1, e2]; exact h.hb), (by rw [e3]; exact h.bank), hG, h.ps, e18, (by rw [e19, hau]; exact h.last), e49, e50, (by rw [e4, e5]; exact h.tp), (by rw [e6]; exact h.len), (by rw [e7]; exact h.tap), (by rw [e8]; exact h.lt), (by rw [e9, e11]; exact h.f0), (by rw [e10, e12]; exact h.f1), (fun c hc => by rw [e13, e14, e15]; exact h.bxs c hc)⟩
theorem INV.tape (h : INV ad n k b a u L uu pos ci cf st bx sv mi mf) {L' : Nat} {uu' : Nat → Nat} (hT : TP L' uu' (cf' 3) (mf' 6)) (e13 : ci' 13 = nI L') (e7 : mi' 7 = nI L')
    (e : (mf' 1 = mf 1 ∧ mf' 2 = mf 2 ∧ mi' 5 = mi 5 ∧ mf' 18 = mf 18 ∧ ci' 0 = ci 0 ∧ ci' 1 = ci 1 ∧ mi' 16 = mi 16 ∧ mi' 17 = mi 17) ∧ (cf' 18 = cf 18 ∧ mf' 48 = mf 48 ∧ mf' 47 = mf 47) ∧ ci' 18 = ci 18 ∧ ci' 19 = ci 19 ∧ mi' 49 = mi 49 ∧ mi' 50 = mi 50 ∧ mf' 0 = mf 0 ∧ mf' 46 = mf 46) : INV' ad ci' cf' st bx sv mi' mf' := by
  obtain ⟨⟨e1, e2, e3, e8, e9, e10, e11, e12⟩, ⟨f1, f2, f3⟩, g1, g2, g3, g4, g5, g6⟩ := e
  refine ⟨n, k, b, a, u, L', uu', pos, ?_⟩
  exact ⟨(by rw [e1, e2]; exact h.hb), (by rw [e3]; exact h.bank), (by rw [g5, g6]; exact h.gl), h.ps, (by rw [g1]; exact h.at_), (by rw [g2]; exact h.last), (by rw [g3]; exact h.acts), (by rw [g4]; exact h.und), hT, e13, e7, (by rw [e8]; exact h.lt), (by rw [e9, e11]; exact h.f0), (by rw [e10, e12]; exact h.f1), (fun c hc => by rw [f1, f2, f3]; exact h.bxs c hc)⟩
theorem GL.far (h : GL n k a u pos sv (mf 0) (mf 46)) {j : Nat} (hj : 13 ≤ j) {o : Nx} : GL n k a u pos (svU sv j o) (mf 0) (mf 46) := by
  obtain ⟨g1, g2, g3, g4, g5, g6⟩ := h
  have q : ∀ i, i < 13 → svU sv j o (pos i) = sv (pos i) := fun i hi => svU_ne (by have := g2 i hi; omega)
  exact ⟨g1, g2, g3, fun i hi => by rw [q i (by omega)]; exact g4 i hi, by rw [q a (by omega)]; exact g5, fun i h1 h2 => by rw [q i (by omega)]; exact g6 i h1 h2⟩
def bxN (v : Int32) : Nat := if v = nI 1 then 1 else 0
theorem bxN_lt (v : Int32) : bxN v < 2 := by unfold bxN; by_cases h : v = nI 1 <;> simp [h]
theorem bxN_eq {v : Int32} {c : Nat} (hc : c < 2) (h : v = nI c) : c = bxN v := by
  unfold bxN
  rcases (show c = 0 ∨ c = 1 by omega) with rfl | rfl
  · rw [if_neg (by rw [h]; decide)]
  · rw [if_pos h]
theorem INV.image (h : INV ad n k b a u L uu pos ci cf st bx sv mi mf) {v : Int32} {o1 : Nx}
    (hd : (cf' 18 = cf 18 ∧ mf' 48 = mf 48 ∧ o1 = sv (13 + bxN v) ∧ mf' 47 = mf 47) ∨ ∃ c, c < 2 ∧ v = nI c ∧ cf' 18 = upd (cf 18) c 1 ∧ mf' 48 = upd (mf 48) c 1 ∧ SX n k o1 (mf 0) ∧ mf' 47 = swW c (mf 0) (mf 47))
    (e : (mf' 1 = mf 1 ∧ mf' 2 = mf 2 ∧ mi' 5 = mi 5 ∧ cf' 3 = cf 3 ∧ mf' 6 = mf 6 ∧ ci' 13 = ci 13 ∧ mi' 7 = mi 7 ∧ mf' 18 = mf 18 ∧ ci' 0 = ci 0 ∧ ci' 1 = ci 1 ∧ mi' 16 = mi 16 ∧ mi' 17 = mi 17) ∧ ci' 18 = ci 18 ∧ ci' 19 = ci 19 ∧ mi' 49 = mi 49 ∧ mi' 50 = mi 50 ∧ mf' 0 = mf 0 ∧ mf' 46 = mf 46) : INV' ad ci' cf' st bx (svU sv (13 + bxN v) o1) mi' mf' := by
  obtain ⟨⟨e1, e2, e3, e4, e5, e6, e7, e8, e9, e10, e11, e12⟩, g1, g2, g3, g4, g5, g6⟩ := e
  refine ⟨n, k, b, a, u, L, uu, pos, ?_⟩
  refine ⟨(by rw [e1, e2]; exact h.hb), (by rw [e3]; exact h.bank), (by rw [g5, g6]; exact h.gl.far (by omega)), h.ps, (by rw [g1]; exact h.at_), (by rw [g2]; exact h.last), (by rw [g3]; exact h.acts), (by rw [g4]; exact h.und), (by rw [e4, e5]; exact h.tp), (by rw [e6]; exact h.len), (by rw [e7]; exact h.tap), (by rw [e8]; exact h.lt), (by rw [e9, e11]; exact h.f0), (by rw [e10, e12]; exact h.f1), (fun c hc => ?_)⟩
  obtain ⟨p1, p2, p3⟩ := h.bxs c hc
  rcases hd with ⟨d1, d2, d3, d4⟩ | ⟨c', hc', hv, d1, d2, d3, d4⟩
  · rw [d1, d2, d3, d4, svU_same]
    exact ⟨p1, p2, p3⟩
  · have ec := bxN_eq hc' hv
    rw [← ec, d1, d2, d4]
    by_cases hcc : c = c'
    · subst hcc
      rw [svU_at]
      refine ⟨p1, by unfold upd; simp, fun _ => d3.al (fun x hx => row_swW_at x hx)⟩
    · rw [svU_ne (by omega)]
      have u1 : ∀ f : AA, upd f c' 1 c = f c := fun f => by unfold upd; simp [hcc]
      rw [u1, u1]
      exact ⟨p1, p2, fun hne => (p3 hne).al (fun x hx => row_swW_ne hcc x hx)⟩
theorem INV.back (h : INV ad n k b a u L uu pos ci cf st bx sv mi mf) {o1 : Nx} {st1 : Nat → Option Nat}
    (hd : (ci' 18 = nI a ∧ ci' 19 = nI (a + u) ∧ mi' 50 = nI u ∧ st1 = st ∧ o1 = sv (pos a) ∧ mf' 0 = mf 0) ∨ (ci' 18 = 0 ∧ ci' 19 = 0 ∧ mi' 50 = 0 ∧ st1 = va_up (va_up st a (some (ad (pos 0)))) 0 (some (ad (pos a))) ∧ SX n k o1 (mf' 0))) (e49 : mi' 49 = ci' 18)
    (e : (mf' 1 = mf 1 ∧ mf' 2 = mf 2 ∧ mi' 5 = mi 5 ∧ cf' 3 = cf 3 ∧ mf' 6 = mf 6 ∧ ci' 13 = ci 13 ∧ mi' 7 = mi 7 ∧ mf' 18 = mf 18 ∧ ci' 0 = ci 0 ∧ ci' 1 = ci 1 ∧ mi' 16 = mi 16 ∧ mi' 17 = mi 17) ∧ cf' 18 = cf 18 ∧ mf' 48 = mf 48 ∧ mf' 47 = mf 47 ∧ mf' 46 = mf 46) : INV' ad ci' cf' st1 bx (svU sv (pos a) o1) mi' mf' := by
  obtain ⟨⟨e1, e2, e3, e4, e5, e6, e7, e8, e9, e10, e11, e12⟩, g1, g2, g3, g4⟩ := e
  have hbx : ∀ c, c < 2 → bx c = some (ad (13 + c)) ∧ cf' 18 c = mf' 48 c ∧ (cf' 18 c ≠ 0 → SX n k (svU sv (pos a) o1 (13 + c)) (rwA (mf' 47) c)) := fun c hc => by
    rw [g1, g2, g3, svU_ne (by have := h.pl; omega)]
    exact h.bxs c hc
  rcases hd with ⟨d1, d2, d3, d4, d5, d6⟩ | ⟨d1, d2, d3, d4, d5⟩
  · refine ⟨n, k, b, a, u, L, uu, pos, ?_⟩
    refine ⟨(by rw [e1, e2]; exact h.hb), (by rw [e3]; exact h.bank), (by rw [d5, svU_same, d6, g4]; exact h.gl), (by rw [d4]; exact h.ps), d1, d2, (by rw [e49]; exact d1), d3, (by rw [e4, e5]; exact h.tp), (by rw [e6]; exact h.len), (by rw [e7]; exact h.tap), (by rw [e8]; exact h.lt), (by rw [e9, e11]; exact h.f0), (by rw [e10, e12]; exact h.f1), hbx⟩
  · obtain ⟨q1, q2⟩ := h.gl.forget (was1 := mf' 46) h.ps d5
    refine ⟨n, k, b, 0, 0, L, uu, sw0 a pos, ?_⟩
    refine ⟨(by rw [e1, e2]; exact h.hb), (by rw [e3]; exact h.bank), q2, (by rw [d4]; exact q1), d1, d2, (by rw [e49]; exact d1), d3, (by rw [e4, e5]; exact h.tp), (by rw [e6]; exact h.len), (by rw [e7]; exact h.tap), (by rw [e8]; exact h.lt), (by rw [e9, e11]; exact h.f0), (by rw [e10, e12]; exact h.f1), hbx⟩
theorem INV.code (h : INV ad n k b a u L uu pos ci cf st bx sv mi mf) {o1 : Nx} {st1 : Nat → Option Nat} {b1 : Nat} (hb1 : b1 < 2)
    (hd : CodeR a b (nI (a + u)) (nI u) st (ad (pos a)) (ad (pos 0)) (cf 18) (mf 48) (sv (pos a)) (mf 0) (mf 1) (mf 2) (ci' 18) (ci' 19) (mi' 50) st1 (cf' 18) (mf' 48) o1 b1 (mf' 0) (mf' 1) (mf' 2)) (e49 : mi' 49 = ci' 18) (e5 : mi' 5 = nI b1) (e13 : ci' 13 = 0) (e7 : mi' 7 = 0)
    (e : ci' 0 = mi' 16 ∧ ci' 1 = mi' 17 ∧ mf' 18 = mf 18 ∧ mf' 47 = mf 47 ∧ mf' 46 = mf 46) : INV' ad ci' cf' st1 bx (svU sv (pos a) o1) mi' mf' := by
  obtain ⟨g1, g2, g3, g4, g5⟩ := e
  have hT : TP 0 uu (cf' 3) (mf' 6) := ⟨Nat.zero_le _, fun i hi => by omega⟩
  rcases hd with ⟨d1, d2, d3, d4, d5, d6, d7, d8, d9, d10, d11⟩ | ⟨d1, d2, d3, d4, ⟨d5, d6, d7, d8⟩, n', k', d9, d10⟩
  · refine ⟨n, k, b, a, u, 0, uu, pos, ?_⟩
    refine ⟨⟨h.hb.1, by rw [d10]; exact h.hb.2.1, by rw [d11]; exact h.hb.2.2⟩, (by rw [e5, d8]), (by rw [d7, svU_same, d9, g5]; exact h.gl), (by rw [d4]; exact h.ps), d1, d2, (by rw [e49]; exact d1), d3, hT, e13, e7, (by rw [g3]; exact h.lt), g1, g2, (fun c hc => ?_)⟩
    rw [d5, d6, g4, d7, svU_same]
    exact h.bxs c hc
  · obtain ⟨q1, q2⟩ := h.gl.forget (was1 := mf' 46) h.ps d10
    refine ⟨n', k', b1, 0, 0, 0, uu, sw0 a pos, ?_⟩
    refine ⟨d9, e5, q2, (by rw [d4]; exact q1), d1, d2, (by rw [e49]; exact d1), d3, hT, e13, e7, (by rw [g3]; exact h.lt), g1, g2, (fun c hc => ?_)⟩
    rcases (show c = 0 ∨ c = 1 by omega) with rfl | rfl
    · exact ⟨(h.bxs 0 (by omega)).1, by rw [d5, d7], fun hne => absurd d5 hne⟩
    · exact ⟨(h.bxs 1 (by omega)).1, by rw [d6, d8], fun hne => absurd d6 hne⟩
end Inv2
