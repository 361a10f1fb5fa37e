/-! words of a code, whole tokens -/
def kwN (w : Nat) : List Nat := [[100, 97, 116, 97], [99, 104, 101, 99, 107, 115], [119, 97, 121], [102, 105, 114, 115, 116], [98, 97, 108, 97, 110, 99, 101, 100], [112, 97, 105, 114, 101, 100], [112, 97, 105, 114, 115], [99, 111, 108, 117, 109, 110], [119, 111, 114, 100]].getD w []
def frN (w : Nat) : Nat := [0, 5, 12, 16, 22, 31, 38, 44, 51, 56].getD w 0
def ltrL : List Nat := kwN 0 ++ [32] ++ kwN 1 ++ [32] ++ kwN 2 ++ [32] ++ kwN 3 ++ [32] ++ kwN 4 ++ [32] ++ kwN 5 ++ [32] ++ kwN 6 ++ [32] ++ kwN 7 ++ [32] ++ kwN 8 ++ [32]
def LT (lets : Nat → Int32) : Prop := ∀ i, i < 56 → lets i = nI (ltrL.getD i 0)
theorem kw_tab : ∀ w, w < 9 → frN w + (kwN w).length < 56 ∧ (kwN w).length < 9 ∧ frN (w + 1) = frN w + (kwN w).length + 1 ∧ ltrL.getD (frN w + (kwN w).length) 0 = 32 := by decide +kernel
theorem kw_tab2 : ∀ w, w < 9 → ∀ t, t < (kwN w).length → ltrL.getD (frN w + t) 0 = (kwN w).getD t 0 ∧ ltrL.getD (frN w + t) 0 ≠ 32 ∧ (kwN w).getD t 0 < 128 := by decide +kernel
/-- the class's texts, in the model's order -/
def kjN (s : Nat) : Nat := [7, 8, 0, 1, 2, 6, 3, 4, 5].getD s 0
theorem kj_tab : ∀ s, s < 9 → kjN s < 9 ∧ lenJS.getD s 0 = (kwN (kjN s)).length ∧ strLen s = nI (kwN (kjN s)).length := by decide +kernel
theorem kj_tab2 : ∀ s, s < 9 → ∀ t, t < (kwN (kjN s)).length → strCh s (nI t) = nI ((kwN (kjN s)).getD t 0) ∧ (kwN (kjN s)).getD t 0 < 256 := by decide +kernel
def tokL (u : Nat → Nat) (j e : Nat) : List Nat := (List.range (e - j)).map (fun t => u (j + t))
theorem tokL_eq {u : Nat → Nat} {j e : Nat} {l : List Nat} : tokL u j e = l ↔ e - j = l.length ∧ ∀ t, t < l.length → u (j + t) = l.getD t 0 := by
  constructor
  · intro h
    subst h
    refine ⟨by simp [tokL], fun t ht => ?_⟩
    have ht' : t < e - j := by simpa [tokL] using ht
    rw [List.getD_eq_getElem?_getD, List.getElem?_eq_getElem ht, Option.getD_some]
    simp [tokL]
  · rintro ⟨h1, h2⟩
    apply List.ext_getElem
    · simp [tokL, h1]
    · intro i h3 h4
      have := h2 i h4
      rw [List.getD_eq_getElem?_getD, List.getElem?_eq_getElem h4, Option.getD_some] at this
      simp [tokL, this]
theorem cmp_loop (Lp : Nat → Int32 → Option Int32) (len : Nat) (f g : Nat → Nat) (hs : ∀ fuel t, t < len → Lp (fuel + 1) (nI t) = if f t = g t then Lp fuel (nI (t + 1)) else some 0) (he : ∀ fuel, Lp (fuel + 1) (nI len) = some 1) :
    ∀ (d t fuel : Nat), t + d = len → d < fuel → (∀ s, s < t → f s = g s) → Lp fuel (nI t) = some (if ∀ s, s < len → f s = g s then 1 else 0)
  | 0, t, 0, _, hf, _ => absurd hf (by omega)
  | 0, t, fuel + 1, ht, _, h => by
    have e : t = len := by omega
    subst e
    rw [he, if_pos h]
  | d + 1, t, 0, _, hf, _ => absurd hf (by omega)
  | d + 1, t, fuel + 1, ht, hf, h => by
    rw [hs fuel t (by omega)]
    by_cases c : f t = g t
    · rw [if_pos c]
      exact cmp_loop Lp len f g hs he d (t + 1) fuel (by omega) (by omega) (fun s hs' => by
        by_cases e : s = t
        · subst e; exact c
        · exact h s (by omega))
    · rw [if_neg c, if_neg (fun q => c (q t (by omega)))]
section Tok2
variable {F L : Nat} {u : Nat → Nat} {tx tm lets : Nat → Int32}
theorem X3_tokenIs (hF : 1000 < F) (h : TP L u tx tm) {j e s kd : Nat} (hk : kd ≤ 4) (hs : s < 9) (hje : j ≤ e) (he : e ≤ L) : p_X3_tokenIs F (nI e) (nI j) (nI kd) (nI L) tx s = some (if kd = 1 ∧ tokL u j e = kwN (kjN s) then 1 else 0) := by
  have hL := h.1
  obtain ⟨t1, t2, t3⟩ := kj_tab s hs
  obtain ⟨_, t4, _⟩ := kw_tab _ t1
  unfold p_X3_tokenIs
  by_cases c : kd = 1
  · subst c
    rw [if_pos (show nI 1 = 1 from rfl), nI_sub hje, t3]
    by_cases c2 : e - j = (kwN (kjN s)).length
    · rw [if_pos (by rw [c2])]
      have key := cmp_loop (fun fuel i => p_X3_tokenIs_L28 F (nI e) (nI j) (nI 1) (nI L) tx s fuel i) (kwN (kjN s)).length (fun t => u (j + t)) (fun t => (kwN (kjN s)).getD t 0)
        (fun fuel t ht => by
          show p_X3_tokenIs_L28b F (nI e) (nI j) (nI 1) (nI L) tx s _ (nI t) = _
          obtain ⟨q1, q2⟩ := kj_tab2 s hs t ht
          have g : ¬ ixBad (nI t) (lenJS.getD s 0) := by rw [t2]; exact ixg ht (by omega)
          have hu := (h.2 (j + t) (by omega)).1
          unfold p_X3_tokenIs_L28b
          rw [t3, if_neg (nI_ge ht (by omega)), nI_add, X7_byte h (by omega)]
          simp only [Option.bind_some, g, ↓reduceIte, q1, nI_1, nI_eq (show u (j + t) < 2 ^ 31 by omega) (show (kwN (kjN s)).getD t 0 < 2 ^ 31 by omega)])
        (fun fuel => by
          show p_X3_tokenIs_L28b F (nI e) (nI j) (nI 1) (nI L) tx s _ (nI (kwN (kjN s)).length) = _
          unfold p_X3_tokenIs_L28b
          rw [t3, if_pos (nI_le (Nat.le_refl _) (by omega))]) (kwN (kjN s)).length 0 F (by omega) (by omega) (fun _ q => absurd q (by omega))
      refine Eq.trans key (congrArg some ?_)
      by_cases c3 : ∀ t, t < (kwN (kjN s)).length → u (j + t) = (kwN (kjN s)).getD t 0
      · rw [if_pos c3, if_pos ⟨rfl, tokL_eq.mpr ⟨c2, c3⟩⟩]
      · rw [if_neg c3, if_neg (fun q => c3 (tokL_eq.mp q.2).2)]
    · rw [if_neg (by rw [nI_eq (by omega) (by omega)]; exact c2), if_neg (fun q => c2 (tokL_eq.mp q.2).1)]
  · rw [if_neg (show ¬ nI kd = 1 from fun q => c ((nI_eq (a := kd) (b := 1) (by omega) (by decide)).mp q)), if_neg (fun q => c q.1)]
theorem M_same (hF : 1000 < F) (h : TP L u tx tm) (hl : LT lets) {j e w : Nat} (hw : w < 9) (hje : j ≤ e) (he : e ≤ L) (hlt : ∀ t, j ≤ t → t < e → ltB (u t) = true) : p_X11_isSame F (nI e) (nI j) tm lets (nI (frN w)) (nI (frN w + (kwN w).length)) = some (if tokL u j e = kwN w then 1 else 0) := by
  have hL := h.1
  obtain ⟨t1, t4, _⟩ := kw_tab w hw
  unfold p_X11_isSame
  rw [nI_sub (by omega), nI_sub hje, show frN w + (kwN w).length - frN w = (kwN w).length by omega]
  by_cases c2 : e - j = (kwN w).length
  · rw [if_pos (by rw [c2])]
    have key := cmp_loop (fun fuel i => p_X11_isSame_L19 F (nI e) (nI j) tm lets (nI (frN w)) (nI (frN w + (kwN w).length)) fuel i) (kwN w).length (fun t => u (j + t)) (fun t => (kwN w).getD t 0)
      (fun fuel t ht => by
        show p_X11_isSame_L19b F (nI e) (nI j) tm lets (nI (frN w)) (nI (frN w + (kwN w).length)) _ (nI t) = _
        obtain ⟨q1, _, q3⟩ := kw_tab2 w hw t ht
        have g1 : ¬ ixBad (nI (frN w + t)) 56 := ixg (by omega) (by decide)
        have c1 : (nI (frN w + t)).toNatClampNeg = frN w + t := nI_clamp (by omega)
        have g2 : ¬ ixBad (nI (j + t)) 600 := ixg (by omega) (by decide)
        have c2' : (nI (j + t)).toNatClampNeg = j + t := nI_clamp (by omega)
        obtain ⟨hu, _, hm⟩ := h.2 (j + t) (by omega)
        have hsg := (sc_m (u (j + t)) hu).2.2.2.1 (hlt (j + t) (by omega) (by omega))
        have hq : (nI ((kwN w).getD t 0) = nI (u (j + t))) ↔ u (j + t) = (kwN w).getD t 0 := by
          rw [nI_eq (by omega) (by omega)]
          exact eq_comm
        unfold p_X11_isSame_L19b
        rw [nI_sub (by omega), show frN w + (kwN w).length - frN w = (kwN w).length by omega, if_neg (nI_ge ht (by omega))]
        simp only [nI_add, g1, c1, g2, c2', ↓reduceIte, hm, hsg, hl (frN w + t) (by omega), q1, nI_1, hq])
      (fun fuel => by
        show p_X11_isSame_L19b F (nI e) (nI j) tm lets (nI (frN w)) (nI (frN w + (kwN w).length)) _ (nI (kwN w).length) = _
        unfold p_X11_isSame_L19b
        rw [nI_sub (by omega), show frN w + (kwN w).length - frN w = (kwN w).length by omega, if_pos (nI_le (Nat.le_refl _) (by omega))]) (kwN w).length 0 F (by omega) (by omega) (fun _ q => absurd q (by omega))
    refine Eq.trans key (congrArg some ?_)
    by_cases c3 : ∀ t, t < (kwN w).length → u (j + t) = (kwN w).getD t 0
    · rw [if_pos c3, if_pos (tokL_eq.mpr ⟨c2, c3⟩)]
    · rw [if_neg c3, if_neg (fun q => c3 (tokL_eq.mp q).2)]
  · rw [if_neg (by rw [nI_eq (by omega) (by omega)]; exact fun q => c2 q.symm), if_neg (fun q => c2 (tokL_eq.mp q).1)]
def wdI (l : List Nat) : Int32 := fo (fun w z => if l = kwN w then nI w else z) 9 0 (-1)
theorem wdI_kw : ∀ w, w < 9 → wdI (kwN w) = nI w := by decide +kernel
theorem kwN_inj : ∀ w, w < 9 → ∀ v, v < 9 → kwN w = kwN v → w = v := by decide +kernel
theorem wdI_no {l : List Nat} (h : ∀ w, w < 9 → l ≠ kwN w) : wdI l = -1 := by
  have inv := fo_inv (g := fun w z => if l = kwN w then nI w else z) (I := fun _ z => z = (-1 : Int32)) (n := 9) (fun i a hi ha => by
    show (if l = kwN i then nI i else a) = -1
    rw [if_neg (h i hi)]; exact ha) 9 0 (-1) (by omega) rfl
  exact inv
theorem wdI_iff {l : List Nat} {w : Nat} (hw : w < 9) : wdI l = nI w ↔ l = kwN w := by
  constructor
  · intro h
    by_cases c : ∃ v, v < 9 ∧ l = kwN v
    · obtain ⟨v, hv, e⟩ := c
      rw [e, wdI_kw v hv, nI_eq (by omega) (by omega)] at h
      rw [e, h]
    · rw [wdI_no (fun v hv e => c ⟨v, hv, e⟩)] at h
      exact absurd h.symm (nI_ne_m1 (by omega))
  · rintro rfl
    exact wdI_kw w hw
theorem M_kws (hF : 1000 < F) (h : TP L u tx tm) (hl : LT lets) {j e : Nat} (hje : j ≤ e) (he : e ≤ L) (hlt : ∀ t, j ≤ t → t < e → ltB (u t) = true) (x11 : Int32) : ∀ (d w fuel : Nat) (z : Int32), w + d = 9 → d < fuel → p_X11_scanWord_L49 F (nI L) (nI j) tm lets fuel (nI (frN w)) (nI w) (nI e) x11 z = some (nI e, x11, fo (fun w z => if tokL u j e = kwN w then nI w else z) d w z) := by
  intro d
  induction d with
  | zero =>
    intro w fuel z hw hf
    obtain ⟨fuel, rfl⟩ : ∃ q, fuel = q + 1 := ⟨fuel - 1, by omega⟩
    show p_X11_scanWord_L49b F (nI L) (nI j) tm lets _ (nI (frN w)) (nI w) (nI e) x11 z = _
    unfold p_X11_scanWord_L49b
    rw [if_pos (show (9 : Int32) ≤ nI w from nI_le (a := 9) (by omega) (by omega))]
    rfl
  | succ d ih =>
    intro w fuel z hw hf
    obtain ⟨fuel, rfl⟩ : ∃ q, fuel = q + 1 := ⟨fuel - 1, by omega⟩
    obtain ⟨t1, t2, t3, t4⟩ := kw_tab w (by omega)
    have walk : ∀ (d' t fu : Nat) (k49 : Int32 → Int32 → Int32 → Int32 → Int32 → Option (Int32 × Int32 × Int32)), t + d' = (kwN w).length → d' < fu → p_X11_scanWord_L57 F (nI L) (nI j) tm lets (nI (frN w)) (nI w) k49 fu (nI (frN w + t)) (nI e) x11 z = k49 (nI (frN (w + 1))) (nI (w + 1)) (nI e) x11 (if tokL u j e = kwN w then nI w else z) := by
      intro d'
      induction d' with
      | zero =>
        intro t fu k49 ht hfu
        obtain ⟨fu, rfl⟩ : ∃ q, fu = q + 1 := ⟨fu - 1, by omega⟩
        have et : t = (kwN w).length := by omega
        subst et
        have g1 : ¬ ixBad (nI (frN w + (kwN w).length)) 56 := ixg (by omega) (by decide)
        have c1 : (nI (frN w + (kwN w).length)).toNatClampNeg = frN w + (kwN w).length := nI_clamp (by omega)
        show p_X11_scanWord_L57b F (nI L) (nI j) tm lets (nI (frN w)) (nI w) k49 _ (nI (frN w + (kwN w).length)) (nI e) x11 z = _
        unfold p_X11_scanWord_L57b p_X11_scanWord_J88
        simp only [g1, c1, ↓reduceIte, hl (frN w + (kwN w).length) (by omega), t4]
        rw [if_pos (show nI 32 = 32 from rfl), M_same hF h hl (by omega) hje he hlt]
        simp only [Option.bind_some, nI_1, t3]
        by_cases c : tokL u j e = kwN w
        · rw [if_pos c, if_neg i32_1_0, if_pos c]
        · rw [if_neg c, if_pos rfl, if_neg c]
      | succ d' ihd =>
        intro t fu k49 ht hfu
        obtain ⟨fu, rfl⟩ : ∃ q, fu = q + 1 := ⟨fu - 1, by omega⟩
        obtain ⟨q1, q2, q3⟩ := kw_tab2 w (by omega) t (by omega)
        have g1 : ¬ ixBad (nI (frN w + t)) 56 := ixg (by omega) (by decide)
        have c1 : (nI (frN w + t)).toNatClampNeg = frN w + t := nI_clamp (by omega)
        have ne : ¬ nI (ltrL.getD (frN w + t) 0) = 32 := fun q => q2 ((nI_eq (b := 32) (by omega) (by decide)).mp q)
        rw [← ihd (t + 1) fu k49 (by omega) (by omega)]
        show p_X11_scanWord_L57b F (nI L) (nI j) tm lets (nI (frN w)) (nI w) k49 _ (nI (frN w + t)) (nI e) x11 z = _
        unfold p_X11_scanWord_L57b
        simp only [g1, c1, ↓reduceIte, hl (frN w + t) (by omega), ne, nI_1]
        rfl
    show p_X11_scanWord_L49b F (nI L) (nI j) tm lets _ (nI (frN w)) (nI w) (nI e) x11 z = _
    unfold p_X11_scanWord_L49b
    rw [if_neg (show ¬ (9 : Int32) ≤ nI w from nI_ge (b := 9) (by omega) (by decide))]
    have w0 := walk (kwN w).length 0 F (p_X11_scanWord_L49 F (nI L) (nI j) tm lets fuel) (by omega) (by omega)
    rw [Nat.add_zero] at w0
    rw [w0, ih (w + 1) fuel _ (by omega) (by omega)]
    rfl
/-! a token -/
def tJ (L : Nat) (u : Nat → Nat) (p : Nat) : Nat := rnF (fun t => blB (u t)) (L - p) p
def tK (L : Nat) (u : Nat → Nat) (j : Nat) : Nat := if L ≤ j then 0 else if ltB (u j) = true then 1 else if dgB (u j) = true then 2 else if u j = 59 then 3 else 4
def tE (L : Nat) (u : Nat → Nat) (j : Nat) : Nat := if L ≤ j then j else if ltB (u j) = true then rnF (fun t => ltB (u t)) (L - j) j else if dgB (u j) = true then rnF (fun t => dgB (u t)) (L - j) j else j + 1
def kM (kd : Nat) : Nat := [0, 2, 3, 4, 1].getD kd 0
def aX (F L : Nat) (tx : Nat → Int32) (j : Nat) : Int32 := ((p_X3_takeDigits_L5 F (nI L) tx F (nI j) 0).getD (0, 0)).2
def bM (F L : Nat) (tm : Nat → Int32) (j : Nat) : Int32 := ((p_X11_scanNumber_L18 F (nI L) (nI j) tm F (nI j) 3 0).getD (0, 0, 0)).2.2
def NumI (x y : Int32) : Prop := ∃ a b, x = nI a ∧ y = nI b ∧ NumR a b
theorem tJ_le {p : Nat} (hp : p ≤ L) : p ≤ tJ L u p ∧ tJ L u p ≤ L := by
  have := rnF_le (fun t => blB (u t)) (L - p) p
  unfold tJ
  omega
theorem tK_le (j : Nat) : tK L u j ≤ 4 := by
  unfold tK
  repeat' split
  all_goals omega
theorem tK_0 {j : Nat} : tK L u j = 0 ↔ L ≤ j := by
  unfold tK
  constructor
  · intro h
    by_cases c : L ≤ j
    · exact c
    · rw [if_neg c] at h
      repeat' split at h
      all_goals omega
  · intro h; rw [if_pos h]
theorem tE_le {j : Nat} (hj : j < L) : j < tE L u j ∧ tE L u j ≤ L := by
  unfold tE
  rw [if_neg (by omega)]
  have step : ∀ q : Nat → Bool, q j = true → j < rnF q (L - j) j ∧ rnF q (L - j) j ≤ L := fun q hq => by
    obtain ⟨d, hd⟩ : ∃ d, L - j = d + 1 := ⟨L - j - 1, by omega⟩
    rw [hd]
    show j < (if q j = true then rnF q d (j + 1) else j) ∧ (if q j = true then rnF q d (j + 1) else j) ≤ L
    rw [if_pos hq]
    have := rnF_le q d (j + 1)
    omega
  by_cases c1 : ltB (u j) = true
  · rw [if_pos c1]; exact step _ c1
  · rw [if_neg c1]
    by_cases c2 : dgB (u j) = true
    · rw [if_pos c2]; exact step _ c2
    · rw [if_neg c2]; omega
theorem num_at (hF : 1000 < F) (h : TP L u tx tm) {j : Nat} (hj : j ≤ L) : NumI (aX F L tx j) (bM F L tm j) ∧ p_X3_takeDigits_L5 F (nI L) tx F (nI j) 0 = some (nI (rnF (fun t => dgB (u t)) (L - j) j), aX F L tx j) ∧ p_X11_scanNumber_L18 F (nI L) (nI j) tm F (nI j) 3 0 = some (nI (rnF (fun t => dgB (u t)) (L - j) j), 3, bM F L tm j) := by
  have hL := h.1
  obtain ⟨a, b, h1, h2, h3⟩ := digits_both (F := F) h (nI j) (L - j) j 0 0 F F (by omega) (by omega) (by omega) (Or.inl ⟨rfl, by decide⟩)
  have h2' : p_X3_takeDigits_L5 F (nI L) tx F (nI j) 0 = some (nI (rnF (fun t => dgB (u t)) (L - j) j), nI a) := h2
  have h3' : p_X11_scanNumber_L18 F (nI L) (nI j) tm F (nI j) 3 0 = some (nI (rnF (fun t => dgB (u t)) (L - j) j), 3, nI b) := h3
  have ea : aX F L tx j = nI a := by unfold aX; rw [h2']; rfl
  have eb : bM F L tm j = nI b := by unfold bM; rw [h3']; rfl
  rw [ea, eb]
  exact ⟨⟨a, b, rfl, rfl, h1⟩, h2', h3'⟩
theorem X3_next (hF : 1000 < F) (h : TP L u tx tm) {p : Nat} (hp : p ≤ L) (x7 x8 x9 : Int32) : p_X3_nextToken F (nI p) x7 x8 x9 (nI L) tx = some (nI (tE L u (tJ L u p)), nI (tJ L u p), nI (tK L u (tJ L u p)), if tK L u (tJ L u p) = 2 then aX F L tx (tJ L u p) else x9) := by
  have hL := h.1
  obtain ⟨j1, j2⟩ := tJ_le (u := u) hp
  unfold p_X3_nextToken
  rw [X3_skip h x7 x8 x9 (L - p) p F (by omega) (by omega)]
  show p_X3_nextToken_J44 F (nI L) tx (nI (tJ L u p)) x7 x8 x9 = _
  generalize tJ L u p = j at j1 j2
  unfold p_X3_nextToken_J44 p_X3_nextToken_J164 tK tE
  by_cases c0 : L ≤ j
  · have e : j = L := by omega
    subst e
    rw [X7_byte_end h]
    simp only [Option.bind_some, Nat.le_refl, ↓reduceIte]
    rfl
  · have hj : j < L := by omega
    have hu := (h.2 j hj).1
    rw [X7_byte h hj]
    simp only [Option.bind_some, c0, ↓reduceIte]
    rw [if_neg (nI_ne_m1 (by omega)), X3_letter hu]
    simp only [Option.bind_some]
    by_cases c1 : ltB (u j) = true
    · simp only [c1, ↓reduceIte]
      rw [if_neg i32_1_0, X3_letters h _ _ _ (L - j) j F (by omega) (by omega)]
      rfl
    · simp only [c1]
      rw [if_pos (by rfl), X3_digit hu]
      simp only [Option.bind_some]
      by_cases c2 : dgB (u j) = true
      · simp only [c2, ↓reduceIte]
        rw [if_neg i32_1_0]
        unfold p_X3_takeDigits
        rw [(num_at hF h (by omega)).2.1]
        rfl
      · simp only [c2]
        rw [if_pos (by rfl)]
        by_cases c3 : u j = 59
        · rw [if_pos ((sc_m (u j) hu).2.1.mpr c3), nI_1]
          simp [c3]
          rfl
        · rw [if_neg (fun q => c3 ((sc_m (u j) hu).2.1.mp q)), nI_1]
          simp [c3]
          rfl
theorem M_scan (hF : 1000 < F) (h : TP L u tx tm) (hl : LT lets) {p : Nat} (hp : p ≤ L) (z10 z11 z12 z13 : Int32) : p_X11_scan F (nI L) (nI p) z10 z11 z12 z13 tm lets = some (nI (tE L u (tJ L u p)), nI (tJ L u p), nI (kM (tK L u (tJ L u p))), (if tK L u (tJ L u p) = 2 then bM F L tm (tJ L u p) else z12), if tK L u (tJ L u p) = 1 then wdI (tokL u (tJ L u p) (tE L u (tJ L u p))) else z13) := by
  have hL := h.1
  have skip : ∀ (d i fuel : Nat), i + d = L → d < fuel → p_X11_scan_L8 F (nI L) tm lets fuel (nI p) (nI i) z11 z12 z13 = p_X11_scan_L8 F (nI L) tm lets 1 (nI p) (nI (rnF (fun t => blB (u t)) d i)) z11 z12 z13 := by
    intro d
    induction d with
    | zero =>
      intro i fuel hi hf
      obtain ⟨fuel, rfl⟩ : ∃ q, fuel = q + 1 := ⟨fuel - 1, by omega⟩
      have e : i = L := by omega
      subst e
      show p_X11_scan_L8b F (nI i) tm lets _ (nI p) (nI i) z11 z12 z13 = p_X11_scan_L8b F (nI i) tm lets _ (nI p) (nI i) z11 z12 z13
      unfold p_X11_scan_L8b
      rw [M_blank_end h]
      simp only [Option.bind_some, ↓reduceIte]
    | succ d ih =>
      intro i fuel hi hf
      obtain ⟨fuel, rfl⟩ : ∃ q, fuel = q + 1 := ⟨fuel - 1, by omega⟩
      show p_X11_scan_L8b F (nI L) tm lets _ (nI p) (nI i) z11 z12 z13 = p_X11_scan_L8 F (nI L) tm lets 1 (nI p) (nI (if blB (u i) = true then rnF (fun t => blB (u t)) d (i + 1) else i)) z11 z12 z13
      by_cases c : blB (u i) = true
      · unfold p_X11_scan_L8b
        rw [M_blank h (by omega)]
        simp only [Option.bind_some, c, ↓reduceIte, nI_1]
        rw [if_neg i32_1_0]
        exact ih (i + 1) fuel (by omega) (by omega)
      · rw [if_neg c]
        show _ = p_X11_scan_L8b F (nI L) tm lets _ (nI p) (nI i) z11 z12 z13
        unfold p_X11_scan_L8b
        rw [M_blank h (by omega)]
        simp only [Option.bind_some, c]
        rfl
  obtain ⟨j1, j2⟩ := tJ_le (u := u) hp
  have hbl : tJ L u p = L ∨ blB (u (tJ L u p)) = false := by
    rcases rnF_end (fun t => blB (u t)) (L - p) p with q | q
    · left; unfold tJ; omega
    · right; exact q
  unfold p_X11_scan
  rw [skip (L - p) p F (by omega) (by omega)]
  show p_X11_scan_L8b F (nI L) tm lets _ (nI p) (nI (tJ L u p)) z11 z12 z13 = _
  generalize tJ L u p = j at j1 j2 hbl
  unfold p_X11_scan_L8b p_X11_scan_J118 tK tE
  by_cases c0 : L ≤ j
  · have e : j = L := by omega
    subst e
    rw [M_blank_end h, M_sign_end h]
    simp only [Option.bind_some, Nat.le_refl, ↓reduceIte]
    rw [if_neg (nI_nlt (Nat.le_refl _) (by omega))]
    rfl
  · have hj : j < L := by omega
    have hu := (h.2 j hj).1
    have hb : blB (u j) = false := hbl.resolve_left (by omega)
    rw [M_blank h hj, M_sign h hj]
    simp only [Option.bind_some, c0, hb, ↓reduceIte]
    rw [if_pos (by rfl), if_pos (nI_lt hj (by omega)), M_letter hu]
    simp only [Option.bind_some]
    by_cases c1 : ltB (u j) = true
    · simp only [c1, ↓reduceIte]
      rw [if_neg i32_1_0]
      unfold p_X11_scanWord
      obtain ⟨r1, r2⟩ := rnF_le (fun t => ltB (u t)) (L - j) j
      rw [M_letters h _ _ _ (L - j) j F (by omega) (by omega)]
      have k := M_kws (x11 := 2) hF h hl (j := j) (e := rnF (fun t => ltB (u t)) (L - j) j) (by omega) (by omega) (fun t q1 q2 => rnF_in (fun t => ltB (u t)) (L - j) j t q1 q2) 9 0 F (-1) (by omega) (by omega)
      have k' : p_X11_scanWord_L49 F (nI L) (nI j) tm lets F 0 0 (nI (rnF (fun t => ltB (u t)) (L - j) j)) 2 (-1) = _ := k
      rw [k']
      rfl
    · simp only [c1]
      rw [if_pos (by rfl), M_digit hu]
      simp only [Option.bind_some]
      by_cases c2 : dgB (u j) = true
      · simp only [c2, ↓reduceIte]
        rw [if_neg i32_1_0]
        unfold p_X11_scanNumber
        rw [(num_at hF h (by omega)).2.2]
        rfl
      · simp only [c2]
        rw [if_pos (by rfl)]
        by_cases c3 : u j = 59
        · rw [if_pos ((sc_m (u j) hu).1.mpr c3), nI_1]
          simp [c3]
          rfl
        · rw [if_neg (fun q => c3 ((sc_m (u j) hu).1.mp q)), nI_1]
          simp [c3]
          rfl
end Tok2
