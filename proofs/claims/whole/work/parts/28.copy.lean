/-! what a state says depends on its ranges alone; copies -/
theorem i32_nlt {a b : Int32} : ¬ a < b ↔ b ≤ a := ⟨fa_of_nlt, fun h q => by rw [fa_le] at h; rw [fa_lt] at q; omega⟩
theorem i32_nle {a b : Int32} : ¬ a ≤ b ↔ b < a := ⟨fa_of_nle, fun h q => by rw [fa_lt] at h; rw [fa_le] at q; omega⟩
theorem plc_cong {c c' : Nat → Int32} {m : Nat} (h : ∀ p, p < m → c' p = c p) (x : Int32) : plc c' m x = plc c m x := fi_cong (fun p hp => by rw [h p hp])
theorem prc_cong {c c' : Nat → Int32} {m : Nat} (h : ∀ p, p < m → c' p = c p) (x : Int32) : prc c' m x = prc c m x := fi_cong (fun p hp => by rw [h p (by omega), h (p + 1) (by omega)])
theorem CodeOK.cong {n k : Nat} {c c' : Nat → Int32} (h : CodeOK n k c) (e : ∀ p, p < 32 → c' p = c p) : CodeOK n k c' := by
  have hm := h.hm
  obtain ⟨h1, h2, h3, h4, h5, h6, h7⟩ := h
  exact ⟨h1, h2, h3, h4, fun p hp => by rw [e p (by omega)]; exact h5 p hp, fun p hp => by rw [e _ (by omega)]; exact h6 p hp, fun p q hp hq => by rw [e p (by omega), e q (by omega)]; exact h7 p q hp hq⟩
theorem SR.cong {n k : Nat} {pr : Int32} {col pl prT bits mea stk syn tal al col' pl' prT' bits' mea' stk' syn' tal' al' : Nat → Int32} (h : SR n k pr col pl prT bits mea stk syn tal al)
    (e1 : ∀ p, p < 32 → col' p = col p) (e2 : ∀ p, p < 256 → pl' p = pl p) (e3 : ∀ p, p < 256 → prT' p = prT p) (e4 : ∀ p, p < 16 → bits' p = bits p) (e5 : ∀ p, p < 16 → mea' p = mea p) (e6 : ∀ p, p < 16 → stk' p = stk p) (e7 : ∀ p, p < 16 → syn' p = syn p) (e8 : ∀ p, p < 8 → tal' p = tal p) (e9 : ∀ p, p < 121 → al' p = al p) :
    SR n k pr col' pl' prT' bits' mea' stk' syn' tal' al' := by
  obtain ⟨h1, hc, ht, ⟨ab, hR⟩, hW, hI⟩ := h
  have hm := hc.hm
  have e1' : ∀ p, p < n + k → col' p = col p := fun p hp => e1 p (by omega)
  have hsy : ∀ x, sy col' x (n + k) = sy col x (n + k) := fun x => sy_cong e1' (fun _ _ => rfl)
  refine ⟨h1, hc.cong e1, fun s hs => ?_, ⟨ab, fun p hp => ?_, ?_, fun w hw => ?_, fun t ht => ?_⟩, fun w hw => ?_, fun w hw => ?_⟩
  · rw [e2 s hs, e3 s hs, plc_cong e1', prc_cong e1']; exact ht s hs
  · rw [e9 p (by omega), e1 p (by omega)]; exact hR.1 p hp
  · rw [e9 32 (by omega)]; exact hR.2.1
  · rw [e9 _ (by omega), e9 _ (by omega), e9 _ (by omega), e9 _ (by omega), e9 _ (by omega), e4 w hw, e5 w hw, e6 w hw]; exact hR.2.2.1 w hw
  · rw [e9 _ (by omega), e8 t ht]; exact hR.2.2.2 t ht
  · rw [e5 w hw, hsy]; exact hW w hw
  · show Fit (n + k) (bits' w) ∧ syn' w = sy col' (bits' w) (n + k)
    rw [e4 w hw, e7 w hw, hsy]; exact hI w hw
theorem SR.al {n k : Nat} {pr : Int32} {col pl prT bits mea stk syn tal al al' : Nat → Int32} (h : SR n k pr col pl prT bits mea stk syn tal al) (e9 : ∀ p, p < 121 → al' p = al p) : SR n k pr col pl prT bits mea stk syn tal al' :=
  h.cong (fun _ _ => rfl) (fun _ _ => rfl) (fun _ _ => rfl) (fun _ _ => rfl) (fun _ _ => rfl) (fun _ _ => rfl) (fun _ _ => rfl) (fun _ _ => rfl) e9
theorem cpy0 {f g : Nat → Int32} {n p : Nat} (h : p < n) : va_cpy f g 0 0 n p = f p := by
  show (if 0 ≤ p ∧ p < 0 + n then f (0 + (p - 0)) else g p) = f p
  rw [if_pos ⟨by omega, by omega⟩, show 0 + (p - 0) = p by omega]
theorem cpy_fold (f a : Nat → Int32) : ∀ d, fo (fun i (b : Nat → Int32) => upd b i (f i)) d 0 a = fun j => if j < d then f j else a j := by
  intro d
  induction d with
  | zero => funext j; rfl
  | succ d ih =>
    rw [fo_succ, ih]
    funext j
    rw [upd_at]
    by_cases h1 : j = 0 + d
    · rw [if_pos h1, if_pos (by omega), show 0 + d = j by omega]
    · rw [if_neg h1]
      by_cases h3 : j < d
      · rw [if_pos h3, if_pos (by omega)]
      · rw [if_neg h3, if_neg (by omega)]
theorem M_putAside {F : Nat} (hF : 1000 < F) (al x : Nat → Int32) : p_X11_putAside F al x = some (fun j => if j < 121 then al j else x j) := by
  have key := fold_loop (fun fuel (a : Nat → Int32) i => p_X11_putAside_L2 F al fuel i a) some (fun i a => upd a i (al i)) (fun _ _ => True) 121 (fun fuel i a hi _ => by
      show p_X11_putAside_L2b F al _ (nI i) a = _
      have g : ¬ ixBad (nI i) 121 := ixg hi (by decide)
      have c : (nI i).toNatClampNeg = i := nI_clamp (by omega)
      unfold p_X11_putAside_L2b
      rw [if_neg (show ¬ (121 : Int32) ≤ nI i from nI_ge (b := 121) hi (by decide))]
      simp only [g, c, ↓reduceIte, nI_1]) (fun fuel a _ => rfl) (fun _ _ _ _ => trivial) 121 0 F x (by omega) (by omega) trivial
  exact key.trans (congrArg some (cpy_fold al x 121))
theorem M_bringBack {F : Nat} (hF : 1000 < F) (al x : Nat → Int32) : p_X11_bringBack F al x = some (fun j => if j < 121 then x j else al j) := by
  have key := fold_loop (fun fuel (a : Nat → Int32) i => p_X11_bringBack_L2 F x fuel i a) some (fun i a => upd a i (x i)) (fun _ _ => True) 121 (fun fuel i a hi _ => by
      show p_X11_bringBack_L2b F x _ (nI i) a = _
      have g : ¬ ixBad (nI i) 121 := ixg hi (by decide)
      have c : (nI i).toNatClampNeg = i := nI_clamp (by omega)
      unfold p_X11_bringBack_L2b
      rw [if_neg (show ¬ (121 : Int32) ≤ nI i from nI_ge (b := 121) hi (by decide))]
      simp only [g, c, ↓reduceIte, nI_1]) (fun fuel a _ => rfl) (fun _ _ _ _ => trivial) 121 0 F al (by omega) (by omega) trivial
  exact key.trans (congrArg some (cpy_fold x al 121))
/-! storms that would be -/
theorem X10_isStorm_eq (F : Nat) (a b c : Int32) : p_X10_isStorm F a b c = some (if (0 ≤ a ∧ a ≤ 9999) ∧ (0 ≤ b ∧ b ≤ 200) ∧ (0 ≤ c ∧ c ≤ 50) then 1 else 0) := by
  unfold p_X10_isStorm
  simp only [← i32_nlt]
  by_cases h1 : a < 0
  · simp [h1]
  · by_cases h2 : 9999 < a
    · simp [h1, h2]
    · by_cases h3 : b < 0
      · simp [h1, h2, h3]
      · by_cases h4 : 200 < b
        · simp [h1, h2, h3, h4]
        · by_cases h5 : c < 0
          · simp [h1, h2, h3, h4, h5]
          · by_cases h6 : 50 < c
            · simp [h1, h2, h3, h4, h5, h6]
            · simp [h1, h2, h3, h4, h5, h6]
theorem M_isStorm_eq (F : Nat) (a b l m c : Int32) : p_X11_isStorm F a b l m c = some (if (0 ≤ a ∧ a ≤ 9999) ∧ (l ≤ b ∧ b ≤ m) ∧ (0 ≤ c ∧ c ≤ 50) then 1 else 0) := by
  unfold p_X11_isStorm
  simp only [M_isIn, Option.bind_some, ite0]
  by_cases h1 : 0 ≤ a ∧ a ≤ 9999
  · rw [if_pos h1]
    by_cases h2 : l ≤ b ∧ b ≤ m
    · rw [if_pos h2]
      by_cases h3 : 0 ≤ c ∧ c ≤ 50
      · rw [if_pos h3, if_pos ⟨h1, h2, h3⟩]
      · rw [if_neg h3, if_neg (fun q => h3 q.2.2)]
    · rw [if_neg h2, if_neg (fun q => h2 q.2.1)]
  · rw [if_neg h1, if_neg (fun q => h1 q.1)]
theorem rng_of {v : Int32} {N : Nat} (hN : N < 2 ^ 30) {c : Int32} (hc : c = nI N) (h : 0 ≤ v ∧ v ≤ c) : ∃ j, j ≤ N ∧ v = nI j := by
  subst hc
  rcases rng v (N := N + 1) (by omega) with ⟨j, hj, e⟩ | ho
  · exact ⟨j, by omega, e⟩
  · exfalso
    have h1 := (fa_le _ _).mp h.1
    have h2 := (fa_le _ _).mp h.2
    rw [nI_toInt (by omega)] at h2
    rcases ho with e | e
    · have := (fa_lt _ _).mp e
      omega
    · have := (fa_le _ _).mp e
      rw [nI_toInt (by omega)] at this; omega
