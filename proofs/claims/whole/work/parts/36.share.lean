/-! signals that rows share -/
abbrev BP : Type := Nat × Int32 × Int32
def bpS (R : Nat → Int32) (i j : Nat) (z : BP) : BP := if z.1 < pcn (R i &&& R j) then (pcn (R i &&& R j), nI i, nI j) else z
def bpI (R : Nat → Int32) (s i : Nat) (z : BP) : BP := fo (bpS R i) (s - (i + 1)) (i + 1) z
def bpA (R : Nat → Int32) (s : Nat) : BP := fo (bpI R s) s 0 (1, -1, -1)
def BPok (R : Nat → Int32) (s : Nat) (z : BP) : Prop := z = (1, -1, -1) ∨ ∃ i j, i < j ∧ j < s ∧ z = (pcn (R i &&& R j), nI i, nI j) ∧ 2 ≤ pcn (R i &&& R j)
theorem BPok.le {R : Nat → Int32} {s : Nat} {z : BP} (h : BPok R s z) : 1 ≤ z.1 ∧ z.1 ≤ 32 := by
  rcases h with rfl | ⟨i, j, _, _, rfl, h⟩
  · exact ⟨Nat.le_refl _, (by decide : 1 ≤ 32)⟩
  · exact ⟨show 1 ≤ pcn _ by omega, pcn_le _⟩
theorem bpS_ok {R : Nat → Int32} {s i j : Nat} {z : BP} (hij : i < j) (hj : j < s) (h : BPok R s z) : BPok R s (bpS R i j z) := by
  unfold bpS
  by_cases c : z.1 < pcn (R i &&& R j)
  · rw [if_pos c]; exact Or.inr ⟨i, j, hij, hj, rfl, by have := h.le.1; omega⟩
  · rw [if_neg c]; exact h
theorem bpI_ok {R : Nat → Int32} {s i : Nat} {z : BP} (hi : i < s) (h : BPok R s z) : BPok R s (bpI R s i z) :=
  (fo_inv (g := bpS R i) (I := fun j z => i < j ∧ BPok R s z) (n := s) (fun j a hj ha => ⟨by omega, bpS_ok ha.1 hj ha.2⟩) (s - (i + 1)) (i + 1) z (by omega) ⟨by omega, h⟩).2
theorem pcn_and_le (x y : Int32) : pcn (x &&& y) ≤ pcn x := fb_ct_sub (fun i _ h => by
  have h' : bt (x &&& y) i = true := h
  rw [b_and] at h'
  simp at h'
  exact h'.1)
theorem bpI_skip {R : Nat → Int32} {s i : Nat} {z : BP} (hi : i < s) (h : pcn (R i) ≤ z.1) : bpI R s i z = z :=
  fo_inv (g := bpS R i) (I := fun _ a => a = z) (n := s) (fun j a _ ha => by
    rw [ha, bpS, if_neg]
    have := pcn_and_le (R i) (R j)
    omega) (s - (i + 1)) (i + 1) z (by omega) rfl
theorem bpA_ok (R : Nat → Int32) (s : Nat) : BPok R s (bpA R s) :=
  fo_inv (g := bpI R s) (I := fun _ z => BPok R s z) (n := s) (fun i a hi ha => bpI_ok hi ha) s 0 (1, -1, -1) (by omega) (Or.inl rfl)
theorem bpA_cong {R R' : Nat → Int32} {s : Nat} (h : ∀ j, j < s → R j = R' j) : bpA R s = bpA R' s :=
  fo_cong s 0 _ (fun i b _ hi => fo_cong _ _ _ (fun j c h1 h2 => by
    unfold bpS
    rw [h i (by omega), h j (by omega)]))
/-- a signal more -/
def jnR (R : Nat → Int32) (s i j : Nat) : Nat → Int32 := upd (upd (upd R s (R i &&& R j)) i (R i &&& ((R i &&& R j) ^^^ -1))) j (R j &&& ((R i &&& R j) ^^^ -1))
def upN (D : Nat → Nat) (s v : Nat) : Nat → Nat := fun q => if q = s then v else D q
abbrev SGS : Type := Nat × (Nat → Int32) × (Nat → Nat) × (Nat → Int32) × (Nat → Int32) × (Nat → Int32)
def sgN (σ : SGS) (i j t : Nat) : SGS := (σ.1 + 1, jnR σ.2.1 σ.1 i j, upN σ.2.2.1 σ.1 (max (σ.2.2.1 i) (σ.2.2.1 j) + 1), upd σ.2.2.2.1 σ.1 (nI i), upd σ.2.2.2.2.1 σ.1 (nI j), upd σ.2.2.2.2.2 σ.1 (nI t))
def Ag (n : Nat) (σ : SGS) (a1 a2 a3 a4 a5 : Nat → Int32) : Prop := ∀ j, j < σ.1 → a1 j = σ.2.1 j ∧ a2 j = nI (σ.2.2.1 j) ∧ (n ≤ j → a3 j = σ.2.2.2.1 j ∧ a4 j = σ.2.2.2.2.1 j ∧ a5 j = σ.2.2.2.2.2 j)
def sgT (σ : SGS) : Nat := fb_sm (fun j => pcn (σ.2.1 j)) σ.1
def SgI (n : Nat) (σ : SGS) : Prop := n ≤ 24 ∧ n ≤ σ.1 ∧ sgT σ + 2 * (σ.1 - n) ≤ 7 * n ∧ ∀ j, j < σ.1 → σ.2.2.1 j ≤ σ.1 - n
theorem SgI.le {n : Nat} {σ : SGS} (h : SgI n σ) : σ.1 ≤ 108 := by
  obtain ⟨h1, h2, h3, _⟩ := h
  omega
theorem pcn_less (x y : Int32) : pcn (x &&& ((x &&& y) ^^^ -1)) + pcn (x &&& y) = pcn x := by
  unfold pcn
  rw [← fb_ct_or (p := fun i => bt (x &&& ((x &&& y) ^^^ -1)) i) (q := fun i => bt (x &&& y) i)]
  · refine fb_ct_cong (fun i hi => ?_)
    simp only [b_and, b_xor, b_m1 i hi]
    cases bt x i <;> cases bt y i <;> rfl
  · intro i hi
    simp only [b_and, b_xor, b_m1 i hi]
    cases bt x i <;> cases bt y i <;> simp
theorem pcn_less' (x y : Int32) : pcn (y &&& ((x &&& y) ^^^ -1)) + pcn (x &&& y) = pcn y := by
  have e : x &&& y = y &&& x := b_ext fun i _ => by simp only [b_and, Bool.and_comm]
  rw [e]
  exact pcn_less y x
theorem jnR_at {R : Nat → Int32} {s i j q : Nat} (hij : i < j) (hj : j < s) : jnR R s i j q = if q = j then R j &&& ((R i &&& R j) ^^^ -1) else if q = i then R i &&& ((R i &&& R j) ^^^ -1) else if q = s then R i &&& R j else R q := by
  unfold jnR
  simp only [upd_at]
theorem sgT_next {σ : SGS} {i j t : Nat} (hij : i < j) (hj : j < σ.1) : sgT (sgN σ i j t) + pcn (σ.2.1 i &&& σ.2.1 j) = sgT σ := by
  obtain ⟨s, R, D, rest⟩ := σ
  show fb_sm (fun q => pcn (jnR R s i j q)) (s + 1) + pcn (R i &&& R j) = fb_sm (fun q => pcn (R q)) s
  have hj' : j < s := hj
  have e : fb_sm (fun q => pcn (jnR R s i j q)) s = fb_sm (fun q => if q = j then pcn (R j &&& ((R i &&& R j) ^^^ -1)) else if q = i then pcn (R i &&& ((R i &&& R j) ^^^ -1)) else pcn (R q)) s := fb_sm_cong (fun q hq => by
    rw [jnR_at hij hj']
    by_cases c1 : q = j
    · simp only [c1, ↓reduceIte]
    · by_cases c2 : q = i
      · subst c2; simp only [c1, ↓reduceIte]
      · have c3 : ¬ q = s := by omega
        simp only [c1, c2, c3, ↓reduceIte])
  have u1 := fb_sm_upd (fun q => if q = i then pcn (R i &&& ((R i &&& R j) ^^^ -1)) else pcn (R q)) (pcn (R j &&& ((R i &&& R j) ^^^ -1))) hj'
  have u2 := fb_sm_upd (fun q => pcn (R q)) (pcn (R i &&& ((R i &&& R j) ^^^ -1))) (show i < s by omega)
  have c4 : ¬ j = i := by omega
  simp only [c4, ↓reduceIte] at u1
  have l1 := pcn_less (R i) (R j)
  have l2 := pcn_less' (R i) (R j)
  rw [fb_sm_succ, e, jnR_at hij hj', if_neg (by omega), if_neg (by omega), if_pos rfl]
  omega
theorem SgI.next {n : Nat} {σ : SGS} {i j t : Nat} (h : SgI n σ) (hij : i < j) (hj : j < σ.1) (h2 : 2 ≤ pcn (σ.2.1 i &&& σ.2.1 j)) : SgI n (sgN σ i j t) := by
  have hT := sgT_next (t := t) hij hj
  obtain ⟨q1, q2, q3, q4⟩ := h
  refine ⟨q1, show n ≤ σ.1 + 1 by omega, ?_, fun q hq => ?_⟩
  · show sgT (sgN σ i j t) + 2 * (σ.1 + 1 - n) ≤ 7 * n
    omega
  · show upN σ.2.2.1 σ.1 (max (σ.2.2.1 i) (σ.2.2.1 j) + 1) q ≤ σ.1 + 1 - n
    have hq' : q < σ.1 + 1 := hq
    have d1 := q4 i (by omega)
    have d2 := q4 j hj
    unfold upN
    by_cases c : q = σ.1
    · rw [if_pos c]; omega
    · rw [if_neg c]
      have := q4 q (by omega)
      omega
theorem Ag.next {n : Nat} {σ : SGS} {a1 a2 a3 a4 a5 : Nat → Int32} {i j t : Nat} (h : Ag n σ a1 a2 a3 a4 a5) (hij : i < j) (hj : j < σ.1) : Ag n (sgN σ i j t) (jnR a1 σ.1 i j) (upd a2 σ.1 (nI (max (σ.2.2.1 i) (σ.2.2.1 j) + 1))) (upd a3 σ.1 (nI i)) (upd a4 σ.1 (nI j)) (upd a5 σ.1 (nI t)) := by
  intro q hq
  have hq' : q < σ.1 + 1 := hq
  show jnR a1 σ.1 i j q = jnR σ.2.1 σ.1 i j q ∧ upd a2 σ.1 (nI (max (σ.2.2.1 i) (σ.2.2.1 j) + 1)) q = nI (upN σ.2.2.1 σ.1 (max (σ.2.2.1 i) (σ.2.2.1 j) + 1) q) ∧ (n ≤ q → upd a3 σ.1 (nI i) q = upd σ.2.2.2.1 σ.1 (nI i) q ∧ upd a4 σ.1 (nI j) q = upd σ.2.2.2.2.1 σ.1 (nI j) q ∧ upd a5 σ.1 (nI t) q = upd σ.2.2.2.2.2 σ.1 (nI t) q)
  rw [jnR_at hij hj, jnR_at hij hj, (h i (by omega)).1, (h j hj).1]
  simp only [upd_at, upN]
  by_cases c : q = σ.1
  · simp only [c, ↓reduceIte, and_self, implies_true]
  · obtain ⟨e1, e2, e3⟩ := h q (by omega)
    simp only [c, ↓reduceIte, e1, e2]
    exact ⟨trivial, trivial, e3⟩
section Share
variable {F b n k s i : Nat} {dat chk : Nat → Int32} {pr : Int32} {col al a1 a2 a3 a4 a5 : Nat → Int32}
theorem X5_inner (hF : 300 < F) (hs : s ≤ 128) (hi : i < s) (k9 : Int32 → Int32 → Int32 → Int32 → Int32 → (Nat → Int32) → (Nat → Int32) → (Nat → Int32) → (Nat → Int32) → (Nat → Int32) → Option (Int32 × Int32 × (Nat → Int32) × (Nat → Int32) × (Nat → Int32) × (Nat → Int32) × (Nat → Int32))) (z : BP) (hz : BPok a1 s z) :
    p_X5_joinMostShared_L41 F (nI i) k9 F (nI z.1) z.2.1 z.2.2 (nI (i + 1)) (nI s) a1 a2 a3 a4 a5 = k9 (nI (bpI a1 s i z).1) (bpI a1 s i z).2.1 (bpI a1 s i z).2.2 (nI (i + 1)) (nI s) a1 a2 a3 a4 a5 :=
  fold_loop (fun fuel (z : BP) j => p_X5_joinMostShared_L41 F (nI i) k9 fuel (nI z.1) z.2.1 z.2.2 j (nI s) a1 a2 a3 a4 a5) (fun z => k9 (nI z.1) z.2.1 z.2.2 (nI (i + 1)) (nI s) a1 a2 a3 a4 a5) (bpS a1 i) (fun j z => i < j ∧ BPok a1 s z) s
    (fun fuel j z hj hI => by
      show p_X5_joinMostShared_L41b F (nI i) k9 _ (nI z.1) z.2.1 z.2.2 (nI j) (nI s) a1 a2 a3 a4 a5 = _
      have g1 : ¬ ixBad (nI i) 128 := ixg (by omega) (by decide)
      have g2 : ¬ ixBad (nI j) 128 := ixg (by omega) (by decide)
      have c1 : (nI i).toNatClampNeg = i := nI_clamp (by omega)
      have c2 : (nI j).toNatClampNeg = j := nI_clamp (by omega)
      have hp := pcn_le (a1 i &&& a1 j)
      have hz := hI.2.le
      unfold p_X5_joinMostShared_L41b p_X5_joinMostShared_J85
      rw [if_neg (nI_ge hj (by omega))]
      simp only [g1, g2, c1, c2, ↓reduceIte, bitCount_eq, Option.bind_some, nI_1]
      unfold bpS
      by_cases c : z.1 < pcn (a1 i &&& a1 j)
      · rw [if_pos c, if_neg (nI_ge c (by omega))]
      · rw [if_neg c, if_pos (nI_le (by omega) (by omega))])
    (fun fuel z _ => by
      show p_X5_joinMostShared_L41b F (nI i) k9 _ (nI z.1) z.2.1 z.2.2 (nI s) (nI s) a1 a2 a3 a4 a5 = _
      unfold p_X5_joinMostShared_L41b p_X5_joinMostShared_J91
      rw [if_pos (nI_le (Nat.le_refl _) (by omega)), nI_1])
    (fun j z hj hI => ⟨by omega, bpS_ok hI.1 hj hI.2⟩) (s - (i + 1)) (i + 1) F z (by omega) (by omega) ⟨by omega, hz⟩
theorem X5_add (hs : s < 128) {i j : Nat} (hij : i < j) (hj : j < s) {D : Nat → Nat} (hD : ∀ q, q < s → a2 q = nI (D q) ∧ D q < 1000) (t : Int32) : p_X5_addSignal F (nI s) a1 a2 a3 a4 a5 (nI i) (nI j) t = some (nI (s + 1), jnR a1 s i j, upd a2 s (nI (max (D i) (D j) + 1)), upd a3 s (nI i), upd a4 s (nI j), upd a5 s t) := by
  have g1 : ¬ ixBad (nI i) 128 := ixg (by omega) (by decide)
  have g2 : ¬ ixBad (nI j) 128 := ixg (by omega) (by decide)
  have g3 : ¬ ixBad (nI s) 128 := ixg (by omega) (by decide)
  have c1 : (nI i).toNatClampNeg = i := nI_clamp (by omega)
  have c2 : (nI j).toNatClampNeg = j := nI_clamp (by omega)
  have c3 : (nI s).toNatClampNeg = s := nI_clamp (by omega)
  have n1 : ¬ i = s := by omega
  have n2 : ¬ j = s := by omega
  have n3 : ¬ j = i := by omega
  unfold p_X5_addSignal jnR
  simp only [g1, g2, g3, c1, c2, c3, ↓reduceIte, jlet_eq, nI_1, upd_at, n1, n2, n3]
  rw [(hD i (by omega)).1, (hD j hj).1, nI_maxL (hD i (by omega)).2 (hD j hj).2, nI_1]
theorem X5_join (hF : 300 < F) {σ : SGS} (hI : SgI n σ) (h : Ag n σ a1 a2 a3 a4 a5) :
    p_X5_joinMostShared F (nI σ.1) a1 a2 a3 a4 a5 = if (bpA σ.2.1 σ.1).2.1 = -1 then some (0, nI σ.1, a1, a2, a3, a4, a5) else some (1, nI (σ.1 + 1), jnR a1 σ.1 (bpA σ.2.1 σ.1).2.1.toNatClampNeg (bpA σ.2.1 σ.1).2.2.toNatClampNeg, upd a2 σ.1 (nI (max (σ.2.2.1 (bpA σ.2.1 σ.1).2.1.toNatClampNeg) (σ.2.2.1 (bpA σ.2.1 σ.1).2.2.toNatClampNeg) + 1)), upd a3 σ.1 (bpA σ.2.1 σ.1).2.1, upd a4 σ.1 (bpA σ.2.1 σ.1).2.2, upd a5 σ.1 (nI (bpA σ.2.1 σ.1).1)) := by
  have hle := hI.le
  have e : bpA σ.2.1 σ.1 = bpA a1 σ.1 := bpA_cong (fun j hj => (h j hj).1.symm)
  rw [e]
  refine fold_loop (fun fuel (z : BP) i => p_X5_joinMostShared_L9 F fuel (nI z.1) z.2.1 z.2.2 i (nI σ.1) a1 a2 a3 a4 a5) (fun z => if z.2.1 = -1 then some (0, nI σ.1, a1, a2, a3, a4, a5) else some (1, nI (σ.1 + 1), jnR a1 σ.1 z.2.1.toNatClampNeg z.2.2.toNatClampNeg, upd a2 σ.1 (nI (max (σ.2.2.1 z.2.1.toNatClampNeg) (σ.2.2.1 z.2.2.toNatClampNeg) + 1)), upd a3 σ.1 z.2.1, upd a4 σ.1 z.2.2, upd a5 σ.1 (nI z.1))) (bpI a1 σ.1) (fun _ z => BPok a1 σ.1 z) σ.1 ?_ ?_ (fun i z hi hz => bpI_ok hi hz) σ.1 0 F (1, -1, -1) (by omega) (by omega) (Or.inl rfl)
  · intro fuel i z hi hz
    show p_X5_joinMostShared_L9b F _ (nI z.1) z.2.1 z.2.2 (nI i) (nI σ.1) a1 a2 a3 a4 a5 = _
    have g1 : ¬ ixBad (nI i) 128 := ixg (by omega) (by decide)
    have c1 : (nI i).toNatClampNeg = i := nI_clamp (by omega)
    have hp := pcn_le (a1 i)
    have hzl := hz.le
    unfold p_X5_joinMostShared_L9b p_X5_joinMostShared_J91
    rw [if_neg (nI_ge hi (by omega))]
    simp only [g1, c1, ↓reduceIte, bitCount_eq, Option.bind_some, nI_1]
    by_cases c : z.1 < pcn (a1 i)
    · rw [if_pos (nI_lt c (by omega))]
      exact X5_inner hF (by omega) hi _ z hz
    · rw [if_neg (nI_nlt (by omega) (by omega)), bpI_skip hi (by omega)]
  · intro fuel z hz
    show p_X5_joinMostShared_L9b F _ (nI z.1) z.2.1 z.2.2 (nI σ.1) (nI σ.1) a1 a2 a3 a4 a5 = _
    unfold p_X5_joinMostShared_L9b
    rw [if_pos (nI_le (Nat.le_refl _) (by omega)), if_pos (show nI σ.1 < (128 : Int32) from nI_lt (b := 128) (by omega) (by decide))]
    rcases hz with rfl | ⟨i, j, hij, hj, rfl, h2⟩
    · rfl
    · rw [if_neg (nI_ne_m1 (by omega)), if_neg (nI_ne_m1 (by omega)), X5_add (by omega) hij hj (D := σ.2.2.1) (fun q hq => ⟨(h q hq).2.1, by have := hI.2.2.2 q hq; omega⟩), nI_clamp (by omega), nI_clamp (by omega)]
      rfl
theorem M_inner (hF : 300 < F) (hs : s ≤ 128) (hi : i < s) (k9 : Int32 → Int32 → Int32 → Int32 → Int32 → (Nat → Int32) → (Nat → Int32) → (Nat → Int32) → (Nat → Int32) → (Nat → Int32) → Option (Int32 × Int32 × (Nat → Int32) × (Nat → Int32) × (Nat → Int32) × (Nat → Int32) × (Nat → Int32))) (z : BP) (hz : BPok a1 s z) :
    p_X11_makeSignal_L24 F (nI i) k9 F (nI z.1) z.2.1 z.2.2 (nI (i + 1)) (nI s) a1 a2 a3 a4 a5 = k9 (nI (bpI a1 s i z).1) (bpI a1 s i z).2.1 (bpI a1 s i z).2.2 (nI (i + 1)) (nI s) a1 a2 a3 a4 a5 :=
  fold_loop (fun fuel (z : BP) j => p_X11_makeSignal_L24 F (nI i) k9 fuel (nI z.1) z.2.1 z.2.2 j (nI s) a1 a2 a3 a4 a5) (fun z => k9 (nI z.1) z.2.1 z.2.2 (nI (i + 1)) (nI s) a1 a2 a3 a4 a5) (bpS a1 i) (fun j z => i < j ∧ BPok a1 s z) s
    (fun fuel j z hj hI => by
      show p_X11_makeSignal_L24b F (nI i) k9 _ (nI z.1) z.2.1 z.2.2 (nI j) (nI s) a1 a2 a3 a4 a5 = _
      have g1 : ¬ ixBad (nI i) 240 := ixg (by omega) (by decide)
      have g2 : ¬ ixBad (nI j) 240 := ixg (by omega) (by decide)
      have c1 : (nI i).toNatClampNeg = i := nI_clamp (by omega)
      have c2 : (nI j).toNatClampNeg = j := nI_clamp (by omega)
      have hp := pcn_le (a1 i &&& a1 j)
      have hz := hI.2.le
      unfold p_X11_makeSignal_L24b p_X11_makeSignal_J71
      rw [if_neg (nI_ge hj (by omega))]
      simp only [g1, g2, c1, c2, ↓reduceIte, M_ones (show 40 < F by omega), Option.bind_some, nI_1]
      unfold bpS
      by_cases c : z.1 < pcn (a1 i &&& a1 j)
      · rw [if_pos c, if_pos (nI_lt c (by omega))]
      · rw [if_neg c, if_neg (nI_nlt (by omega) (by omega))])
    (fun fuel z _ => by
      show p_X11_makeSignal_L24b F (nI i) k9 _ (nI z.1) z.2.1 z.2.2 (nI s) (nI s) a1 a2 a3 a4 a5 = _
      unfold p_X11_makeSignal_L24b
      rw [if_pos (nI_le (Nat.le_refl _) (by omega)), nI_1])
    (fun j z hj hI => ⟨by omega, bpS_ok hI.1 hj hI.2⟩) (s - (i + 1)) (i + 1) F z (by omega) (by omega) ⟨by omega, hz⟩
theorem M_more (F : Nat) (x y : Int32) : p_X11_more F x y = some (if x ≤ y then y else x) := by
  unfold p_X11_more
  rw [ite_some]
theorem M_join (hF : 300 < F) {σ : SGS} (hI : SgI n σ) (h : Ag n σ a1 a2 a3 a4 a5) :
    p_X11_makeSignal F (nI σ.1) a1 a2 a3 a4 a5 = if (bpA σ.2.1 σ.1).2.1 = -1 then some (0, nI σ.1, a1, a2, a3, a4, a5) else some (1, nI (σ.1 + 1), jnR a1 σ.1 (bpA σ.2.1 σ.1).2.1.toNatClampNeg (bpA σ.2.1 σ.1).2.2.toNatClampNeg, upd a2 σ.1 (nI (max (σ.2.2.1 (bpA σ.2.1 σ.1).2.1.toNatClampNeg) (σ.2.2.1 (bpA σ.2.1 σ.1).2.2.toNatClampNeg) + 1)), upd a3 σ.1 (bpA σ.2.1 σ.1).2.1, upd a4 σ.1 (bpA σ.2.1 σ.1).2.2, upd a5 σ.1 (nI (bpA σ.2.1 σ.1).1)) := by
  have hle := hI.le
  have e : bpA σ.2.1 σ.1 = bpA a1 σ.1 := bpA_cong (fun j hj => (h j hj).1.symm)
  rw [e]
  refine fold_loop (fun fuel (z : BP) i => p_X11_makeSignal_L9 F fuel (nI z.1) z.2.1 z.2.2 i (nI σ.1) a1 a2 a3 a4 a5) (fun z => if z.2.1 = -1 then some (0, nI σ.1, a1, a2, a3, a4, a5) else some (1, nI (σ.1 + 1), jnR a1 σ.1 z.2.1.toNatClampNeg z.2.2.toNatClampNeg, upd a2 σ.1 (nI (max (σ.2.2.1 z.2.1.toNatClampNeg) (σ.2.2.1 z.2.2.toNatClampNeg) + 1)), upd a3 σ.1 z.2.1, upd a4 σ.1 z.2.2, upd a5 σ.1 (nI z.1))) (bpI a1 σ.1) (fun _ z => BPok a1 σ.1 z) σ.1 ?_ ?_ (fun i z hi hz => bpI_ok hi hz) σ.1 0 F (1, -1, -1) (by omega) (by omega) (Or.inl rfl)
  · intro fuel i z hi hz
    show p_X11_makeSignal_L9b F _ (nI z.1) z.2.1 z.2.2 (nI i) (nI σ.1) a1 a2 a3 a4 a5 = _
    unfold p_X11_makeSignal_L9b
    rw [if_neg (nI_ge hi (by omega)), nI_1]
    exact M_inner hF (by omega) hi _ z hz
  · intro fuel z hz
    show p_X11_makeSignal_L9b F _ (nI z.1) z.2.1 z.2.2 (nI σ.1) (nI σ.1) a1 a2 a3 a4 a5 = _
    unfold p_X11_makeSignal_L9b
    rw [if_pos (nI_le (Nat.le_refl _) (by omega))]
    rcases hz with rfl | ⟨i, j, hij, hj, rfl, h2⟩
    · rfl
    · have g1 : ¬ ixBad (nI i) 240 := ixg (by omega) (by decide)
      have g2 : ¬ ixBad (nI j) 240 := ixg (by omega) (by decide)
      have g3 : ¬ ixBad (nI σ.1) 240 := ixg (by omega) (by decide)
      have c1 : (nI i).toNatClampNeg = i := nI_clamp (by omega)
      have c2 : (nI j).toNatClampNeg = j := nI_clamp (by omega)
      have c3 : (nI σ.1).toNatClampNeg = σ.1 := nI_clamp (by omega)
      have n1 : ¬ i = σ.1 := by omega
      have n2 : ¬ j = σ.1 := by omega
      have n3 : ¬ j = i := by omega
      have d1 := hI.2.2.2 i (by omega)
      have d2 := hI.2.2.2 j hj
      rw [if_pos (nI_ge0 (by omega)), if_neg (nI_ne_m1 (by omega))]
      unfold jnR
      simp only [g1, g2, g3, c1, c2, c3, ↓reduceIte, jlet_eq, nI_1, upd_at, n1, n2, n3, M_more, Option.bind_some]
      rw [(h i (by omega)).2.1, (h j hj).2.1, nI_maxM (by omega) (by omega), show (1 : Int32) = nI 1 from rfl, nI_add, Nat.add_comm 1]
/-- both join till nothing is shared any more -/
theorem share_loop (hF : 1000 < F) : ∀ (d : Nat) (σ : SGS) (fx fm : Nat) (a1 a2 a3 a4 a5 b1 b2 b3 b4 b5 : Nat → Int32), sgT σ < d → d < fx → d < fm → SgI n σ → Ag n σ a1 a2 a3 a4 a5 → Ag n σ b1 b2 b3 b4 b5 →
    ∃ (τ : SGS) (a1' a2' a3' a4' a5' b1' b2' b3' b4' b5' : Nat → Int32), SgI n τ ∧ Ag n τ a1' a2' a3' a4' a5' ∧ Ag n τ b1' b2' b3' b4' b5' ∧
      p_X5_share_L61 F (nI n) (nI k) col fx (nI (σ.1 - n)) (nI n) (nI k) (nI σ.1) a1 a2 a3 a4 a5 = some (nI n, nI k, nI τ.1, a1', a2', a3', a4', a5') ∧
      p_X11_laySignals_L44 F (nI b) al dat fm 1 (nI σ.1) b1 b2 b3 b4 b5 = some (nI τ.1, b1', b2', b3', b4', b5') := by
  intro d
  induction d with
  | zero =>
    intro σ fx fm a1 a2 a3 a4 a5 b1 b2 b3 b4 b5 hd
    exact absurd hd (by omega)
  | succ d ih =>
  intro σ fx fm a1 a2 a3 a4 a5 b1 b2 b3 b4 b5 hd h1 h2 hI hA hB
  have hle := hI.le
  have hok := bpA_ok σ.2.1 σ.1
  have eX := X5_join (F := F) (by omega) hI hA
  have eM := M_join (F := F) (by omega) hI hB
  obtain ⟨fx, rfl⟩ : ∃ q, fx = q + 1 := ⟨fx - 1, by omega⟩
  obtain ⟨fm, rfl⟩ : ∃ q, fm = q + 1 := ⟨fm - 1, by omega⟩
  obtain ⟨fm, rfl⟩ : ∃ q, fm = q + 1 := ⟨fm - 1, by omega⟩
  have i104 : ¬ (104 : Int32) ≤ nI (σ.1 - n) := nI_ge (b := 104) (by have := hI.2.2.1; have := hI.1; omega) (by decide)
  have i240 : ¬ (240 : Int32) ≤ nI σ.1 := nI_ge (b := 240) (by omega) (by decide)
  rcases hok with hz | ⟨i, j, hij, hj, hz, h2'⟩
  · rw [hz] at eX eM
    refine ⟨σ, a1, a2, a3, a4, a5, b1, b2, b3, b4, b5, hI, hA, hB, ?_, ?_⟩
    · show p_X5_share_L61b F (nI n) (nI k) col _ (nI (σ.1 - n)) (nI n) (nI k) (nI σ.1) a1 a2 a3 a4 a5 = _
      unfold p_X5_share_L61b
      rw [if_neg i104, eX]
      rfl
    · show p_X11_laySignals_L44b F (nI b) al dat _ 1 (nI σ.1) b1 b2 b3 b4 b5 = _
      unfold p_X11_laySignals_L44b
      rw [if_neg i32_1_0, if_neg i240, eM]
      rfl
  · rw [hz] at eX eM
    simp only [nI_ne_m1 (show i < 2 ^ 31 by omega), ↓reduceIte, nI_clamp (show i < 2 ^ 31 by omega), nI_clamp (show j < 2 ^ 31 by omega)] at eX eM
    have hT := sgT_next (t := pcn (σ.2.1 i &&& σ.2.1 j)) hij hj
    have hn := hI.2.1
    obtain ⟨τ, a1', a2', a3', a4', a5', b1', b2', b3', b4', b5', q1, q2, q3, q4, q5⟩ := ih (sgN σ i j (pcn (σ.2.1 i &&& σ.2.1 j))) fx (fm + 1) _ _ _ _ _ _ _ _ _ _ (by omega) (by omega) (by omega) (hI.next hij hj h2') (hA.next hij hj) (hB.next hij hj)
    refine ⟨τ, a1', a2', a3', a4', a5', b1', b2', b3', b4', b5', q1, q2, q3, ?_, ?_⟩
    · rw [← q4]
      show p_X5_share_L61b F (nI n) (nI k) col _ (nI (σ.1 - n)) (nI n) (nI k) (nI σ.1) a1 a2 a3 a4 a5 = _
      unfold p_X5_share_L61b
      rw [if_neg i104, eX]
      simp only [Option.bind_some, i32_1_0, ↓reduceIte, nI_1]
      show _ = p_X5_share_L61 F (nI n) (nI k) col fx (nI (σ.1 + 1 - n)) (nI n) (nI k) (nI (σ.1 + 1)) _ _ _ _ _
      rw [show σ.1 - n + 1 = σ.1 + 1 - n by omega]
    · rw [← q5]
      show p_X11_laySignals_L44b F (nI b) al dat _ 1 (nI σ.1) b1 b2 b3 b4 b5 = _
      unfold p_X11_laySignals_L44b
      rw [if_neg i32_1_0, if_neg i240, eM]
      rfl
theorem pcn8 : ∀ v, v < 256 → pcn (nI v) ≤ 8 := by decide +kernel
theorem DCol.le7 {c : Int32} (h : DCol k c) (hk : k ≤ 8) : pcn c ≤ 7 := by
  obtain ⟨⟨v, hv, rfl⟩, h1, h2⟩ := h
  have := pow_le8 hk
  have := pcn8 v (by omega)
  omega
theorem fo_two (f : Nat → Int32) (v : Int32) (a c : Nat → Int32) : ∀ d, fo (fun i (z : (Nat → Int32) × (Nat → Int32)) => (upd z.1 i (f i), upd z.2 i v)) d 0 (a, c) = ((fun j => if j < d then f j else a j), (fun j => if j < d then v else c j)) := by
  intro d
  have e1 := fo_fst (g := fun i (z : (Nat → Int32) × (Nat → Int32)) => (upd z.1 i (f i), upd z.2 i v)) (g1 := fun i b => upd b i (f i)) (fun _ _ => rfl) d 0 (a, c)
  have e2 := fo_snd (g := fun i (z : (Nat → Int32) × (Nat → Int32)) => (upd z.1 i (f i), upd z.2 i v)) (g1 := fun i b => upd b i ((fun _ => v) i)) (fun _ _ => rfl) d 0 (a, c)
  rw [cpy_fold] at e1 e2
  exact Prod.ext e1 e2
theorem share_both (hF : 1000 < F) (hb : MB b n k dat chk) (hc : CodeOK n k col) (hmc : MC b n k al dat chk col pr) (y0 y1 y2 z0 : Int32) (a1 a2 a3 a4 a5 b1 b2 b3 b4 b5 : Nat → Int32) :
    ∃ (τ : SGS) (a1' a2' a3' a4' a5' b1' b2' b3' b4' b5' : Nat → Int32), SgI n τ ∧ Ag n τ a1' a2' a3' a4' a5' ∧ Ag n τ b1' b2' b3' b4' b5' ∧
      p_X5_share F y0 y1 y2 a1 a2 a3 a4 a5 (nI n) (nI k) col = some (nI n, nI k, nI τ.1, a1', a2', a3', a4', a5') ∧
      p_X11_laySignals F (nI b) z0 al dat b1 b2 b3 b4 b5 = some (nI τ.1, b1', b2', b3', b4', b5') := by
  have hn := hc.2.1
  have hk := hc.2.2.2.1
  let σ : SGS := (n, col, (fun _ => 0), (fun _ => 0), (fun _ => 0), (fun _ => 0))
  have hT : sgT σ ≤ n * 7 := fb_sm_bound (fun j hj => (hc.2.2.2.2.1 j hj).le7 hk)
  have hI : SgI n σ := ⟨hn, Nat.le_refl _, by show sgT σ + 2 * (n - n) ≤ 7 * n; omega, fun j _ => Nat.zero_le _⟩
  have ag : ∀ x2 x3 x4 x5 x1 : Nat → Int32, Ag n σ (fun j => if j < n then col j else x1 j) (fun j => if j < n then 0 else x2 j) x3 x4 x5 := fun x2 x3 x4 x5 x1 j hj => ⟨if_pos hj, if_pos hj, fun h => absurd hj (Nat.not_lt.mpr h)⟩
  obtain ⟨τ, a1', a2', a3', a4', a5', b1', b2', b3', b4', b5', q1, q2, q3, q4, q5⟩ := share_loop (b := b) (k := k) (dat := dat) (col := col) (al := al) hF 200 σ F F _ _ _ _ _ _ _ _ _ _ (by omega) (by omega) (by omega) hI (ag a2 a3 a4 a5 a1) (ag b2 b3 b4 b5 b1)
  refine ⟨τ, a1', a2', a3', a4', a5', b1', b2', b3', b4', b5', q1, q2, q3, ?_, ?_⟩
  · have key := fold_loop (fun fuel (z : (Nat → Int32) × (Nat → Int32)) i => p_X5_share_L26 F (nI n) (nI k) col fuel i (nI n) (nI k) (nI n) z.1 z.2 a3 a4 a5) (fun z => p_X5_share_L61 F (nI n) (nI k) col F 0 (nI n) (nI k) (nI n) z.1 z.2 a3 a4 a5) (fun i (z : (Nat → Int32) × (Nat → Int32)) => (upd z.1 i (col i), upd z.2 i 0)) (fun _ _ => True) n
      (fun fuel i z hi _ => by
        show p_X5_share_L26b F (nI n) (nI k) col _ (nI i) (nI n) (nI k) (nI n) z.1 z.2 a3 a4 a5 = _
        have g1 : ¬ ixBad (nI i) 32 := ixg (by omega) (by decide)
        have g2 : ¬ ixBad (nI i) 128 := ixg (by omega) (by decide)
        have c1 : (nI i).toNatClampNeg = i := nI_clamp (by omega)
        unfold p_X5_share_L26b
        rw [if_neg (nI_ge hi (by omega))]
        simp only [g1, g2, c1, ↓reduceIte, nI_1])
      (fun fuel z _ => by
        show p_X5_share_L26b F (nI n) (nI k) col _ (nI n) (nI n) (nI k) (nI n) z.1 z.2 a3 a4 a5 = _
        unfold p_X5_share_L26b
        rw [if_pos (nI_le (Nat.le_refl _) (by omega))]) (fun _ _ _ _ => trivial) n 0 F (a1, a2) (by omega) (by omega) trivial
    refine Eq.trans key ?_
    rw [fo_two]
    have e0 : (nI (σ.1 - n)) = 0 := by show nI (n - n) = 0; rw [Nat.sub_self]; rfl
    rw [e0] at q4
    exact q4
  · unfold p_X11_laySignals
    rw [M_data hb.1 hb.2.1]
    simp only [Option.bind_some]
    have key := fold_loop (fun fuel (z : (Nat → Int32) × (Nat → Int32)) i => p_X11_laySignals_L10 F (nI b) al dat fuel i (nI n) z.1 z.2 b3 b4 b5) (fun z => p_X11_laySignals_L44 F (nI b) al dat F 1 (nI n) z.1 z.2 b3 b4 b5) (fun i (z : (Nat → Int32) × (Nat → Int32)) => (upd z.1 i (col i), upd z.2 i 0)) (fun _ _ => True) n
      (fun fuel i z hi _ => by
        show p_X11_laySignals_L10b F (nI b) al dat _ (nI i) (nI n) z.1 z.2 b3 b4 b5 = _
        have g2 : ¬ ixBad (nI i) 240 := ixg (by omega) (by decide)
        have c1 : (nI i).toNatClampNeg = i := nI_clamp (by omega)
        unfold p_X11_laySignals_L10b
        rw [if_neg (nI_ge hi (by omega)), hmc.col (by omega)]
        simp only [Option.bind_some, g2, c1, ↓reduceIte, nI_1])
      (fun fuel z _ => by
        show p_X11_laySignals_L10b F (nI b) al dat _ (nI n) (nI n) z.1 z.2 b3 b4 b5 = _
        unfold p_X11_laySignals_L10b
        rw [if_pos (nI_le (Nat.le_refl _) (by omega))]) (fun _ _ _ _ => trivial) n 0 F (b1, b2) (by omega) (by omega) trivial
    refine Eq.trans key ?_
    rw [fo_two]
    exact q5
end Share
