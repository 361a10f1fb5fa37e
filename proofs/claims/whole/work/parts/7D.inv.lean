/-! what holds between two calls -/
def INV (ad : Nat → Nat) (n k b a u L : Nat) (uu pos : Nat → Nat) (ci : Nat → Int32) (cf : Nat → AA) (st bx : Nat → Option Nat) (sv : Nat → Nx) (mi : Nat → Int32) (mf : Nat → AA) : Prop := (MB b n k (mf 1) (mf 2)) ∧ (mi 5 = nI b) ∧ (GL n k a u pos sv (mf 0) (mf 46)) ∧ (PosR ad pos st) ∧ (ci 18 = nI a) ∧ (ci 19 = nI (a + u)) ∧ (mi 49 = nI a) ∧ (mi 50 = nI u) ∧ (TP L uu (cf 3) (mf 6)) ∧ (ci 13 = nI L) ∧ (mi 7 = nI L) ∧ (LT (mf 18)) ∧ (ci 0 = mi 16) ∧ (ci 1 = mi 17) ∧ (∀ c, c < 2 → bx c = some (ad (13 + c)) ∧ cf 18 c = mf 48 c ∧ (cf 18 c ≠ 0 → SX n k (sv (13 + c)) (rwA (mf 47) c)))
theorem INV.hb {ad : Nat → Nat} {n k b a u L : Nat} {uu pos : Nat → Nat} {ci : Nat → Int32} {cf : Nat → AA} {st bx : Nat → Option Nat} {sv : Nat → Nx} {mi : Nat → Int32} {mf : Nat → AA} (h : INV ad n k b a u L uu pos ci cf st bx sv mi mf) : MB b n k (mf 1) (mf 2) := h.1
theorem INV.bank {ad : Nat → Nat} {n k b a u L : Nat} {uu pos : Nat → Nat} {ci : Nat → Int32} {cf : Nat → AA} {st bx : Nat → Option Nat} {sv : Nat → Nx} {mi : Nat → Int32} {mf : Nat → AA} (h : INV ad n k b a u L uu pos ci cf st bx sv mi mf) : mi 5 = nI b := h.2.1
theorem INV.gl {ad : Nat → Nat} {n k b a u L : Nat} {uu pos : Nat → Nat} {ci : Nat → Int32} {cf : Nat → AA} {st bx : Nat → Option Nat} {sv : Nat → Nx} {mi : Nat → Int32} {mf : Nat → AA} (h : INV ad n k b a u L uu pos ci cf st bx sv mi mf) : GL n k a u pos sv (mf 0) (mf 46) := h.2.2.1
theorem INV.ps {ad : Nat → Nat} {n k b a u L : Nat} {uu pos : Nat → Nat} {ci : Nat → Int32} {cf : Nat → AA} {st bx : Nat → Option Nat} {sv : Nat → Nx} {mi : Nat → Int32} {mf : Nat → AA} (h : INV ad n k b a u L uu pos ci cf st bx sv mi mf) : PosR ad pos st := h.2.2.2.1
theorem INV.at_ {ad : Nat → Nat} {n k b a u L : Nat} {uu pos : Nat → Nat} {ci : Nat → Int32} {cf : Nat → AA} {st bx : Nat → Option Nat} {sv : Nat → Nx} {mi : Nat → Int32} {mf : Nat → AA} (h : INV ad n k b a u L uu pos ci cf st bx sv mi mf) : ci 18 = nI a := h.2.2.2.2.1
theorem INV.last {ad : Nat → Nat} {n k b a u L : Nat} {uu pos : Nat → Nat} {ci : Nat → Int32} {cf : Nat → AA} {st bx : Nat → Option Nat} {sv : Nat → Nx} {mi : Nat → Int32} {mf : Nat → AA} (h : INV ad n k b a u L uu pos ci cf st bx sv mi mf) : ci 19 = nI (a + u) := h.2.2.2.2.2.1
theorem INV.acts {ad : Nat → Nat} {n k b a u L : Nat} {uu pos : Nat → Nat} {ci : Nat → Int32} {cf : Nat → AA} {st bx : Nat → Option Nat} {sv : Nat → Nx} {mi : Nat → Int32} {mf : Nat → AA} (h : INV ad n k b a u L uu pos ci cf st bx sv mi mf) : mi 49 = nI a := h.2.2.2.2.2.2.1
theorem INV.und {ad : Nat → Nat} {n k b a u L : Nat} {uu pos : Nat → Nat} {ci : Nat → Int32} {cf : Nat → AA} {st bx : Nat → Option Nat} {sv : Nat → Nx} {mi : Nat → Int32} {mf : Nat → AA} (h : INV ad n k b a u L uu pos ci cf st bx sv mi mf) : mi 50 = nI u := h.2.2.2.2.2.2.2.1
theorem INV.tp {ad : Nat → Nat} {n k b a u L : Nat} {uu pos : Nat → Nat} {ci : Nat → Int32} {cf : Nat → AA} {st bx : Nat → Option Nat} {sv : Nat → Nx} {mi : Nat → Int32} {mf : Nat → AA} (h : INV ad n k b a u L uu pos ci cf st bx sv mi mf) : TP L uu (cf 3) (mf 6) := h.2.2.2.2.2.2.2.2.1
theorem INV.len {ad : Nat → Nat} {n k b a u L : Nat} {uu pos : Nat → Nat} {ci : Nat → Int32} {cf : Nat → AA} {st bx : Nat → Option Nat} {sv : Nat → Nx} {mi : Nat → Int32} {mf : Nat → AA} (h : INV ad n k b a u L uu pos ci cf st bx sv mi mf) : ci 13 = nI L := h.2.2.2.2.2.2.2.2.2.1
theorem INV.tap {ad : Nat → Nat} {n k b a u L : Nat} {uu pos : Nat → Nat} {ci : Nat → Int32} {cf : Nat → AA} {st bx : Nat → Option Nat} {sv : Nat → Nx} {mi : Nat → Int32} {mf : Nat → AA} (h : INV ad n k b a u L uu pos ci cf st bx sv mi mf) : mi 7 = nI L := h.2.2.2.2.2.2.2.2.2.2.1
theorem INV.lt {ad : Nat → Nat} {n k b a u L : Nat} {uu pos : Nat → Nat} {ci : Nat → Int32} {cf : Nat → AA} {st bx : Nat → Option Nat} {sv : Nat → Nx} {mi : Nat → Int32} {mf : Nat → AA} (h : INV ad n k b a u L uu pos ci cf st bx sv mi mf) : LT (mf 18) := h.2.2.2.2.2.2.2.2.2.2.2.1
theorem INV.f0 {ad : Nat → Nat} {n k b a u L : Nat} {uu pos : Nat → Nat} {ci : Nat → Int32} {cf : Nat → AA} {st bx : Nat → Option Nat} {sv : Nat → Nx} {mi : Nat → Int32} {mf : Nat → AA} (h : INV ad n k b a u L uu pos ci cf st bx sv mi mf) : ci 0 = mi 16 := h.2.2.2.2.2.2.2.2.2.2.2.2.1
theorem INV.f1 {ad : Nat → Nat} {n k b a u L : Nat} {uu pos : Nat → Nat} {ci : Nat → Int32} {cf : Nat → AA} {st bx : Nat → Option Nat} {sv : Nat → Nx} {mi : Nat → Int32} {mf : Nat → AA} (h : INV ad n k b a u L uu pos ci cf st bx sv mi mf) : ci 1 = mi 17 := h.2.2.2.2.2.2.2.2.2.2.2.2.2.1
theorem INV.bxs {ad : Nat → Nat} {n k b a u L : Nat} {uu pos : Nat → Nat} {ci : Nat → Int32} {cf : Nat → AA} {st bx : Nat → Option Nat} {sv : Nat → Nx} {mi : Nat → Int32} {mf : Nat → AA} (h : INV ad n k b a u L uu pos ci cf st bx sv mi mf) : ∀ c, c < 2 → bx c = some (ad (13 + c)) ∧ cf 18 c = mf 48 c ∧ (cf 18 c ≠ 0 → SX n k (sv (13 + c)) (rwA (mf 47) c)) := h.2.2.2.2.2.2.2.2.2.2.2.2.2.2
/-- there are such numbers -/
def INV' (ad : Nat → Nat) (ci : Nat → Int32) (cf : Nat → AA) (st bx : Nat → Option Nat) (sv : Nat → Nx) (mi : Nat → Int32) (mf : Nat → AA) : Prop := ∃ n k b a u L uu pos, INV ad n k b a u L uu pos ci cf st bx sv mi mf
section Inv
variable {ad : Nat → Nat} {n k b a u L : Nat} {uu pos : Nat → Nat} {ci : Nat → Int32} {cf : Nat → AA} {st bx : Nat → Option Nat} {sv : Nat → Nx} {mi : Nat → Int32} {mf : Nat → AA}
theorem INV.ha (h : INV ad n k b a u L uu pos ci cf st bx sv mi mf) : a < 13 := by have := h.gl.1; omega
theorem INV.hs (h : INV ad n k b a u L uu pos ci cf st bx sv mi mf) : st a = some (ad (pos a)) := h.ps a h.ha
theorem INV.hn (h : INV ad n k b a u L uu pos ci cf st bx sv mi mf) : st (nxA a) = some (ad (pos (nxA a))) := h.ps _ (by unfold nxA; have := h.ha; by_cases c : a < 12 <;> simp [c] <;> omega)
theorem INV.pl (h : INV ad n k b a u L uu pos ci cf st bx sv mi mf) : pos a < 13 := h.gl.2.1 a h.ha
theorem INV.pn (h : INV ad n k b a u L uu pos ci cf st bx sv mi mf) : pos (nxA a) < 13 := h.gl.2.1 _ (by unfold nxA; have := h.ha; by_cases c : a < 12 <;> simp [c] <;> omega)
theorem nxA_lt {a : Nat} (h : a < 13) : nxA a < 13 := by unfold nxA; by_cases c : a < 12 <;> simp [c] <;> omega
theorem nxA_ne {a : Nat} (h : a < 13) : a ≠ nxA a := by unfold nxA; by_cases c : a < 12 <;> simp [c] <;> omega
theorem INV.pne (h : INV ad n k b a u L uu pos ci cf st bx sv mi mf) : pos a ≠ pos (nxA a) := fun e => nxA_ne h.ha (h.gl.2.2.1 a (nxA a) h.ha (nxA_lt h.ha) e)
/-- the state that is now -/
theorem INV.cur (h : INV ad n k b a u L uu pos ci cf st bx sv mi mf) : SX n k (sv (pos a)) (mf 0) := h.gl.2.2.2.2.1
/-- after an act, or none -/
theorem INV.act (h : INV ad n k b a u L uu pos ci cf st bx sv mi mf) {ci' : Nat → Int32} {cf' : Nat → AA} {mi' : Nat → Int32} {mf' : Nat → AA} {st1 : Nat → Option Nat} {o1 : Nx}
    (hS : StpA n k a (nI (a + u)) (nI u) st (sv (pos (nxA a))) (mf 0) (mf 46) (ci' 18) (ci' 19) (mi' 50) st1 o1 (mf' 0) (mf' 46)) (e49 : mi' 49 = ci' 18)
    (e : (mf' 1 = mf 1 ∧ mf' 2 = mf 2 ∧ mi' 5 = mi 5 ∧ cf' 3 = cf 3 ∧ mf' 6 = mf 6 ∧ ci' 13 = ci 13 ∧ mi' 7 = mi 7 ∧ mf' 18 = mf 18 ∧ ci' 0 = ci 0 ∧ ci' 1 = ci 1 ∧ mi' 16 = mi 16 ∧ mi' 17 = mi 17) ∧ cf' 18 = cf 18 ∧ mf' 48 = mf 48 ∧ mf' 47 = mf 47) : INV' ad ci' cf' st1 bx (svU sv (pos (nxA a)) o1) mi' mf' := by
  obtain ⟨⟨e1, e2, e3, e4, e5, e6, e7, e8, e9, e10, e11, e12⟩, e13, e14, e15⟩ := e
  obtain ⟨a', u', pos', q1, q2, q3, q4, q5⟩ := h.gl.act h.ps hS
  refine ⟨n, k, b, a', u', L, uu, pos', ?_⟩
  refine ⟨(by rw [e1, e2]; exact h.hb), (by rw [e3]; exact h.bank), q5, q4, q1, q2, (by rw [e49]; exact q1), q3, (by rw [e4, e5]; exact h.tp), (by rw [e6]; exact h.len), (by rw [e7]; exact h.tap), (by rw [e8]; exact h.lt), (by rw [e9, e11]; exact h.f0), (by rw [e10, e12]; exact h.f1), (fun c hc => ?_)⟩
  rw [e13, e14, e15, svU_ne (by have := h.pn; omega)]
  exact h.bxs c hc
/-- after a query: nothing but scratch has changed -/
theorem INV.same (h : INV ad n k b a u L uu pos ci cf st bx sv mi mf) {ci' : Nat → Int32} {cf' : Nat → AA} {mi' : Nat → Int32} {mf' : Nat → AA} (e0 : ∀ j, j < 121 → mf' 0 j = mf 0 j)
    (e : (mf' 1 = mf 1 ∧ mf' 2 = mf 2 ∧ mi' 5 = mi 5 ∧ cf' 3 = cf 3 ∧ mf' 6 = mf 6 ∧ ci' 13 = ci 13 ∧ mi' 7 = mi 7 ∧ mf' 18 = mf 18 ∧ ci' 0 = ci 0 ∧ ci' 1 = ci 1 ∧ mi' 16 = mi 16 ∧ mi' 17 = mi 17) ∧ (cf' 18 = cf 18 ∧ mf' 48 = mf 48 ∧ mf' 47 = mf 47) ∧ ci' 18 = ci 18 ∧ ci' 19 = ci 19 ∧ mi' 49 = mi 49 ∧ mi' 50 = mi 50 ∧ mf' 46 = mf 46) : INV' ad ci' cf' st bx sv mi' mf' := by
  obtain ⟨⟨e1, e2, e3, e4, e5, e6, e7, e8, e9, e10, e11, e12⟩, ⟨e13, e14, e15⟩, e16, e17, e18, e19, e20⟩ := e
  refine ⟨n, k, b, a, u, L, uu, pos, ?_⟩
  refine ⟨(by rw [e1, e2]; exact h.hb), (by rw [e3]; exact h.bank), ?_, h.ps, (by rw [e16]; exact h.at_), (by rw [e17]; exact h.last), (by rw [e18]; exact h.acts), (by rw [e19]; exact h.und), (by rw [e4, e5]; exact h.tp), (by rw [e6]; exact h.len), (by rw [e7]; exact h.tap), (by rw [e8]; exact h.lt), (by rw [e9, e11]; exact h.f0), (by rw [e10, e12]; exact h.f1), (fun c hc => by rw [e13, e14, e15]; exact h.bxs c hc)⟩
  obtain ⟨g1, g2, g3, g4, g5, g6⟩ := h.gl
  exact ⟨g1, g2, g3, by rw [e20]; exact g4, g5.al e0, by rw [e20]; exact g6⟩
end Inv
