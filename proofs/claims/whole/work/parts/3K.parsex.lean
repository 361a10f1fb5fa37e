/-! the class's parser, token by token -/
abbrev AA : Type := Nat → Int32
abbrev I3 : Type := Int32 × Int32 × Int32
abbrev ChT : Type := Int32 × AA × AA × AA × AA × AA
abbrev CoT : Type := AA × AA × AA
/-- the class's loop, without fault so far -/
def CL (F L : Nat) (tx : AA) (f i p : Nat) (J : I3) (wt wy tl ch sj : Int32) (q : ChT) (d : I3) (co : CoT) (td : AA) :=
  p_X3_parse_L6 F (nI L) tx f (nI i) 0 (-1) (nI p) J.1 J.2.1 J.2.2 wt wy tl ch sj q.1 q.2.1 q.2.2.1 q.2.2.2.1 q.2.2.2.2.1 q.2.2.2.2.2 d.1 d.2.1 d.2.2 co.1 co.2.1 co.2.2 td
section Prx
variable {F L : Nat} {u : Nat → Nat} {tx tm : AA}
/-- the number of a token, as the class keeps it -/
def nX (F L : Nat) (u : Nat → Nat) (tx : AA) (p : Nat) (x9 : Int32) : Int32 := if tK L u (tJ L u p) = 2 then aX F L tx (tJ L u p) else x9
theorem X3_stop {f i q : Nat} (hq : 1 ≤ q) (hq4 : q ≤ 4) {fp x6 x7 x8 x9 wt wy tl ch sj c1 d0 d1 d2 : Int32} {A4 A5 A6 A7 A8 A10 A11 A12 A13 : AA} : ∃ rest, p_X3_parse_L6 F (nI L) tx (f + 1) (nI i) (nI q) fp x6 x7 x8 x9 wt wy tl ch sj c1 A4 A5 A6 A7 A8 d0 d1 d2 A10 A11 A12 A13 = some (0, nI q, fp, rest) := by
  have n0 : ¬ nI q = 0 := nI_ne0 (by omega) (by omega)
  refine ⟨(x6, x7, x8, x9, wt, wy, tl, ch, sj, c1, A4, A5, A6, A7, A8, d0, d1, d2, A10, A11, A12, A13), ?_⟩
  · show p_X3_parse_L6b F (nI L) tx _ (nI i) (nI q) fp x6 x7 x8 x9 wt wy tl ch sj c1 A4 A5 A6 A7 A8 d0 d1 d2 A10 A11 A12 A13 = _
    unfold p_X3_parse_L6b p_X3_parse_J97
    simp only [n0, ↓reduceIte, ite_self]
theorem X3_noHead {x6 x7 x8 wt ch : Int32} (h : ¬ wt = 0) : p_X3_endsHead F x6 x7 x8 wt ch (nI L) tx = some 0 := by
  unfold p_X3_endsHead
  rw [if_neg h]
  by_cases c : ch = 0
  · rw [if_pos c]
  · rw [if_neg c]
theorem X3_go (hF : 1000 < F) (h : TP L u tx tm) {f i p : Nat} (hp : p ≤ L) (hi : i ≤ 600) (hk : tK L u (tJ L u p) ≠ 0) {J : I3} {wt wy tl ch sj : Int32} {q : ChT} {d d' : I3} {co co' : CoT} {td td' : AA} {fk fp wt' wy' tl' sj' : Int32}
    (hend : p_X3_endsHead F (nI (tE L u (tJ L u p))) (nI (tJ L u p)) (nI (tK L u (tJ L u p))) wt ch (nI L) tx = some 0)
    (ht : p_X3_takeToken F 0 (-1) (nI (tE L u (tJ L u p))) (nI (tJ L u p)) (nI (tK L u (tJ L u p))) (nX F L u tx p J.2.2) wt wy tl ch sj (nI L) tx d.1 d.2.1 d.2.2 co.1 co.2.1 co.2.2 td = some (fk, fp, wt', wy', tl', sj', d'.1, d'.2.1, d'.2.2, co'.1, co'.2.1, co'.2.2, td')) :
    CL F L tx (f + 1) i p J wt wy tl ch sj q d co td = p_X3_parse_L6 F (nI L) tx f (nI (i + 1)) fk fp (nI (tE L u (tJ L u p))) (nI (tJ L u p)) (nI (tK L u (tJ L u p))) (nX F L u tx p J.2.2) wt' wy' tl' ch sj' q.1 q.2.1 q.2.2.1 q.2.2.2.1 q.2.2.2.2.1 q.2.2.2.2.2 d'.1 d'.2.1 d'.2.2 co'.1 co'.2.1 co'.2.2 td' := by
  have hk4 := tK_le (L := L) (u := u) (tJ L u p)
  show p_X3_parse_L6b F (nI L) tx _ (nI i) 0 (-1) (nI p) J.1 J.2.1 J.2.2 wt wy tl ch sj q.1 q.2.1 q.2.2.1 q.2.2.2.1 q.2.2.2.2.1 q.2.2.2.2.2 d.1 d.2.1 d.2.2 co.1 co.2.1 co.2.2 td = _
  unfold p_X3_parse_L6b p_X3_parse_J65
  rw [if_neg (show ¬ (600 : Int32) < nI i from nI_nlt (a := 600) hi (by decide)), if_pos rfl, X3_next hF h hp]
  simp only [Option.bind_some]
  rw [hend]
  simp only [Option.bind_some, ↓reduceIte]
  rw [if_neg (show ¬ nI (tK L u (tJ L u p)) = 0 from nI_ne0 (by omega) (by omega))]
  have ht' : p_X3_takeToken F 0 (-1) (nI (tE L u (tJ L u p))) (nI (tJ L u p)) (nI (tK L u (tJ L u p))) (if tK L u (tJ L u p) = 2 then aX F L tx (tJ L u p) else J.2.2) wt wy tl ch sj (nI L) tx d.1 d.2.1 d.2.2 co.1 co.2.1 co.2.2 td = some (fk, fp, wt', wy', tl', sj', d'.1, d'.2.1, d'.2.2, co'.1, co'.2.1, co'.2.2, td') := ht
  rw [ht']
  simp only [Option.bind_some, nI_1]
  rfl
theorem X3_eof (hF : 1000 < F) (h : TP L u tx tm) {f i p : Nat} (hp : p ≤ L) (hi : i ≤ 600) (hk : tK L u (tJ L u p) = 0) {J : I3} {wt wy tl ch sj : Int32} {q : ChT} {d : I3} {co : CoT} {td : AA} (hw : ¬ wt = 0) :
    ∃ rest, CL F L tx (f + 1) i p J wt wy tl ch sj q d co td = some (0, nI 1, nI (tJ L u p), rest) := by
  refine ⟨(nI (tE L u (tJ L u p)), nI (tJ L u p), nI 0, nX F L u tx p J.2.2, wt, wy, tl, ch, sj, q.1, q.2.1, q.2.2.1, q.2.2.2.1, q.2.2.2.2.1, q.2.2.2.2.2, d.1, d.2.1, d.2.2, co.1, co.2.1, co.2.2, td), ?_⟩
  · show p_X3_parse_L6b F (nI L) tx _ (nI i) 0 (-1) (nI p) J.1 J.2.1 J.2.2 wt wy tl ch sj q.1 q.2.1 q.2.2.1 q.2.2.2.1 q.2.2.2.2.1 q.2.2.2.2.2 d.1 d.2.1 d.2.2 co.1 co.2.1 co.2.2 td = _
    unfold p_X3_parse_L6b p_X3_parse_J65 p_X3_fail p_X3_parse_J97
    rw [if_neg (show ¬ (600 : Int32) < nI i from nI_nlt (a := 600) hi (by decide)), if_pos rfl, X3_next hF h hp]
    simp only [Option.bind_some]
    rw [X3_noHead hw]
    simp only [Option.bind_some, ↓reduceIte]
    unfold nX
    rw [hk, if_pos (show nI 0 = 0 from rfl), if_neg hw, if_neg i32_1_0]
    rfl
/-- a class's call that ends with a fault -/
def CF (r : Option (Int32 × Int32 × Int32 × Int32 × Int32 × Int32 × Int32 × Int32 × Int32 × Int32 × Int32 × Int32 × Int32 × AA × AA × AA × AA × AA × Int32 × Int32 × Int32 × AA × AA × AA × AA)) (q pl : Nat) : Prop := ∃ rest, r = some (0, nI q, nI pl, rest)
theorem X3_within {lo hi kd j a : Nat} (hhi : hi < 90000000) (hlo : lo ≤ 90000000) (hkd : kd ≤ 4) (ha : a < 2 ^ 31) {x9 wt nx : Int32} (hx : kd = 2 → x9 = nI a) : p_X3_isNumberWithin F 0 (-1) (nI j) (nI kd) x9 wt (nI lo) (nI hi) nx = if kd = 2 then (if lo ≤ a ∧ a ≤ hi then some (1, 0, -1, nx) else some (0, nI 2, nI j, wt)) else some (0, nI 1, nI j, wt) := by
  unfold p_X3_isNumberWithin p_X3_isNumberWithin_J31 p_X3_fail
  by_cases c : kd = 2
  · rw [if_pos (show nI kd = 2 by rw [c]; rfl), if_pos c, hx c]
    simp only [Option.bind_some]
    by_cases c1 : lo ≤ a
    · rw [if_neg (nI_nlt c1 ha)]
      by_cases c2 : a ≤ hi
      · rw [if_pos (nI_le c2 (by omega)), if_pos ⟨c1, c2⟩]
      · rw [if_neg (nI_ge (by omega) ha), if_neg (fun q => c2 q.2)]
        rfl
    · rw [if_pos (nI_lt (by omega) (by omega)), if_neg (fun q => c1 q.1)]
      rfl
  · rw [if_neg (show ¬ nI kd = 2 from fun q => c ((nI_eq (b := 2) (by omega) (by decide)).mp q)), if_neg c]
    rfl
end Prx
