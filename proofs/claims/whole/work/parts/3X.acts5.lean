/-! acts that burst and write in part -/
section Act4
variable {F b n k a gc gn : Nat} {dat chk : AA} {la un pr : Int32} {col pl prT bits mea stk syn tal al was : AA} {st : Nat → Option Nat} {o : Nx}
/-- d places from p on -/
def bmk (p d : Nat) : Int32 := mk d <<< (nI p &&& 31)
theorem bt_bmk {p d i : Nat} (hp : p < 32) (hd : d < 32) (hi : i < 32) : bt (bmk p d) i = (decide (p ≤ i) && decide (i - p < d)) := by
  unfold bmk; rw [b_shl p hp _ hi, bt_mk hd]
theorem bmk_succ {p d : Nat} (h : p + d < 32) (hd : d < 31) : bmk p (d + 1) = bmk p d ^^^ oh (p + d) := b_ext fun i hi => by
  rw [b_xor, bt_bmk (by omega) (by omega) hi, bt_bmk (by omega) (by omega) hi, bt_oh (by omega)]
  by_cases h1 : p ≤ i
  · by_cases h2 : i - p < d
    · rw [decide_eq_true h1, decide_eq_true h2, decide_eq_true (show i - p < d + 1 by omega), decide_eq_false (show ¬ i = p + d by omega)]; rfl
    · by_cases h3 : i = p + d
      · rw [decide_eq_true h1, decide_eq_false h2, decide_eq_true (show i - p < d + 1 by omega), decide_eq_true h3]; rfl
      · rw [decide_eq_false h2, decide_eq_false (show ¬ i - p < d + 1 by omega), decide_eq_false h3]; simp
  · rw [decide_eq_false h1, decide_eq_false (show ¬ i = p + d by omega)]; rfl
theorem bmk_0 {p : Nat} (hp : p < 32) : bmk p 0 = 0 := b_ext fun i hi => by
  rw [bt_bmk hp (by omega) hi, b_0, decide_eq_false (show ¬ i - p < 0 by omega), Bool.and_false]
theorem turn_xor (s x y : Int32) : turnM s (x ^^^ y) = turnM s x ^^^ turnM s y := b_ext fun i _ => by
  unfold turnM
  simp only [b_and, b_xor]
  cases bt x i <;> cases bt y i <;> cases bt s i <;> cases bt (-1) i <;> rfl
theorem pcn_dis {x y : Int32} (h : ∀ i, i < 32 → ¬ (bt x i = true ∧ bt y i = true)) : pcn (x ^^^ y) = pcn x + pcn y := by
  have e : pcn (x ^^^ y) = fb_ct (fun i => bt x i || bt y i) 32 := fb_ct_cong (fun i hi => by
    rw [b_xor]
    have := h i hi
    cases q1 : bt x i <;> cases q2 : bt y i <;> simp_all)
  rw [e, fb_ct_or h]; rfl
theorem slS_bmk {m w p d : Nat} {z : A3} (h : p + d < 32) (hd : d < 31) : (slS col m stk w (oh (p + d)) (slS col m stk w (bmk p d) z)).1 = (slS col m stk w (bmk p (d + 1)) z).1 ∧ (slS col m stk w (oh (p + d)) (slS col m stk w (bmk p d) z)).2.2 = (slS col m stk w (bmk p (d + 1)) z).2.2 := by
  unfold slS
  simp only []
  rw [bmk_succ h hd, turn_xor, upd_upd, upd_upd, upd_at, if_pos rfl, upd_at, if_pos rfl]
  refine ⟨congrArg (upd z.1 w) (b_ext fun i _ => by simp only [b_xor, Bool.xor_assoc]), congrArg (upd z.2.2 7) ?_⟩
  rw [pcn_dis (x := turnM (stk w) (bmk p d)) (y := turnM (stk w) (oh (p + d))), ← nI_add, Int32.add_assoc]
  intro i hi
  unfold turnM
  rw [b_and, b_and, bt_bmk (by omega) (by omega) hi, bt_oh (by omega)]
  rintro ⟨h1, h2⟩
  simp at h1 h2
  omega
theorem slS_0 {m w : Nat} {z : A3} : (slS col m stk w 0 z).1 = z.1 ∧ (slS col m stk w 0 z).2.2 = z.2.2 := by
  unfold slS
  rw [turnM_0]
  refine ⟨?_, ?_⟩
  · rw [show z.1 w ^^^ 0 = z.1 w from b_ext fun i _ => by rw [b_xor, b_0, Bool.xor_false], upd_same]
  · rw [pcn_0, show z.2.2 7 + nI 0 = z.2.2 7 from Int32.add_zero _, upd_same]
theorem M_burst_loop {w p len : Nat} {z : A3} {ab : Nat → Int32 × Int32} {x49 x50 : Int32} (hb : BC b n k dat chk col) (hw : w < 16) (hp : p + len ≤ n + k) (hl8 : len ≤ 8) : ∀ (d i fuel : Nat) (al : AA), i + d = len → d < fuel → RA n k al col pr (slS col (n + k) stk w (bmk p i) z).1 mea stk (slS col (n + k) stk w (bmk p i) z).2.2 ab →
    ∃ al', p_X11_burst_L46 F (nI b) dat chk (nI w) (nI p) (nI len) fuel (nI (p + i)) x49 x50 al was = some (1, x49, x50, al', was) ∧ RA n k al' col pr (slS col (n + k) stk w (bmk p len) z).1 mea stk (slS col (n + k) stk w (bmk p len) z).2.2 ab := by
  have hm := hb.hm
  intro d
  induction d with
  | zero =>
    intro i fuel al hi hf h
    cases fuel with
    | zero => exact absurd hf (by omega)
    | succ fuel =>
      have e : i = len := by omega
      subst e
      refine ⟨al, ?_, h⟩
      show p_X11_burst_L46b F (nI b) dat chk (nI w) (nI p) (nI i) _ (nI (p + i)) x49 x50 al was = _
      unfold p_X11_burst_L46b
      rw [nI_add, if_pos (nI_le (Nat.le_refl _) (by omega))]
  | succ d ih =>
    intro i fuel al hi hf h
    cases fuel with
    | zero => exact absurd hf (by omega)
    | succ fuel =>
      obtain ⟨al1, hM, hR1⟩ := M_slip (F := F) (z := slS col (n + k) stk w (bmk p i) z) hb h hw (p := p + i) (by omega)
      have e := slS_bmk (col := col) (stk := stk) (m := n + k) (w := w) (p := p) (d := i) (z := z) (by omega) (by omega)
      rw [e.1, e.2] at hR1
      obtain ⟨al', h1, h2⟩ := ih (i + 1) fuel al1 (by omega) (by omega) hR1
      refine ⟨al', ?_, h2⟩
      show p_X11_burst_L46b F (nI b) dat chk (nI w) (nI p) (nI len) (p_X11_burst_L46 F (nI b) dat chk (nI w) (nI p) (nI len) fuel) (nI (p + i)) x49 x50 al was = _
      unfold p_X11_burst_L46b
      rw [nI_add, if_neg (nI_ge (by omega) (by omega)), hM]
      simp only [Option.bind_some, nI_1]
      exact h1
theorem fit_bmk {p d m : Nat} (h : p + d ≤ m) (hm : m ≤ 32) (hd : d < 32) (hp : p < 32) : Fit m (bmk p d) := fun i hi => by
  by_cases q : i < 32
  · rw [bt_bmk hp hd q, decide_eq_false (show ¬ i - p < d by omega), Bool.and_false]
  · exact b_big (by omega)
theorem A_burst (hF : 2000 < F) (ha : a < 13) (hs : st a = some gc) (hn : st (nxA a) = some gn) (hb : MB b n k dat chk) (h : SR n k pr col pl prT bits mea stk syn tal al) (v x y : Int32) : ∃ r a1 l1 u1 st1 o1 al1 was1, p_X10_burst F gc gn (nI a) la st (nI n) (nI k) pr col pl prT bits mea stk syn tal o.1 o.2.1 o.2.2.1 o.2.2.2.1 o.2.2.2.2.1 o.2.2.2.2.2.1 o.2.2.2.2.2.2.1 o.2.2.2.2.2.2.2.1 o.2.2.2.2.2.2.2.2.1 o.2.2.2.2.2.2.2.2.2.1 o.2.2.2.2.2.2.2.2.2.2 v x y = some (r, a1, l1, st1, o1) ∧ p_X11_burst F (nI b) (nI a) un al dat chk was v x y = some (r, a1, u1, al1, was1) ∧ StpA n k a la un st o al was a1 l1 u1 st1 o1 al1 was1 := by
  obtain ⟨col', pl', prT', bits', mea', stk', syn', tal', hA, h', hcl, hww⟩ := X8_act (F := F) (la := la) (o := o) ha hs hn h
  have hK := M_keep hF ha un al was
  have hm := h.2.1.hm
  have hn4 := h.2.1.1
  have hk4 := h.2.1.2.2.1
  unfold p_X10_burst p_X11_burst
  rcases rng v (N := 16) (by decide) with ⟨w, hw, rfl⟩ | ho
  rotate_left
  · rw [(isWord_out ho).1, (isWord_out ho).2]
    simp only [Option.bind_some, ↓reduceIte]
    exact ⟨_, _, _, _, _, _, _, _, rfl, rfl, StpA.no⟩
  rw [(isWord_in hw).1, (isWord_in hw).2, now_eq ha hs]
  simp only [Option.bind_some, i32_1_0, ↓reduceIte, M_isIn, ite0, p_X1_places, nI_add]
  by_cases cy : 1 ≤ y ∧ y ≤ 8
  rotate_left
  · have hcl : ∀ (X Y : Option (Int32 × Int32 × Int32 × (Nat → Option Nat) × Nx)), (if y < 1 then X else if y ≤ 8 then Y else X) = X := fun X Y => by
      by_cases q : y < 1
      · rw [if_pos q]
      · rw [if_neg q, if_neg (fun q2 => cy ⟨i32_nlt.mp q, q2⟩)]
    rw [hcl (some (0, nI a, la, st, o))]
    refine ⟨0, nI a, la, un, st, o, al, was, rfl, ?_, StpA.no⟩
    rcases rng x (N := n + k) (by omega) with ⟨p, hp, rfl⟩ | ho
    · rw [M_isPlace_in hb hp hm]
      simp only [Option.bind_some, i32_1_0, ↓reduceIte]
      rw [if_neg cy]
    · rw [M_isPlace_out hb (by omega) hm ho]
      rfl
  obtain ⟨len, hlen, rfl⟩ := rng_of (v := y) (N := 8) (by decide) rfl ⟨by have := cy.1; rw [fa_le] at this ⊢; exact Int.le_trans (by decide) this, cy.2⟩
  have e1 : (1 : Int32).toInt = 1 := by decide +kernel
  have hl1 : 1 ≤ len := by have := cy.1; rw [fa_le, nI_toInt (by omega)] at this; omega
  rw [if_neg (i32_nlt.mpr cy.1), if_pos cy.2]
  rcases rng x (N := n + k) (by omega) with ⟨p, hp, rfl⟩ | ho
  rotate_left
  · rw [M_isPlace_out hb (by omega) hm ho]
    have hcl : ∀ (X Y : Option (Int32 × Int32 × Int32 × (Nat → Option Nat) × Nx)), (if x < 0 then X else if x ≤ nI (n + k) - nI len then Y else X) = X := fun X Y => by
      by_cases q : x < 0
      · rw [if_pos q]
      · rw [if_neg q, if_neg]
        intro q2
        have q3 := out_neg ho q
        rw [nI_sub (by omega), fa_le, nI_toInt (by omega)] at q2
        rw [fa_le, nI_toInt (by omega)] at q3
        omega
    rw [hcl (some (0, nI a, la, st, o))]
    exact ⟨0, nI a, la, un, st, o, al, was, rfl, rfl, StpA.no⟩
  rw [M_isPlace_in hb hp hm, if_neg (nI_pos (by omega))]
  simp only [Option.bind_some, i32_1_0, ↓reduceIte]
  rw [if_pos cy, nI_sub (show len ≤ n + k by omega), nI_add, show nI (p + len) - 1 = nI (p + len - 1) by have := nI_pred (p + len - 1); rw [show p + len - 1 + 1 = p + len by omega] at this; exact this]
  by_cases cp : p + len ≤ n + k
  · rw [if_pos (nI_le (by omega) (by omega)), M_isPlace_in hb (by omega) hm, hA, hK]
    simp only [Option.bind_some, i32_1_0, ↓reduceIte]
    obtain ⟨h1, hc, ht, ⟨ab, hR⟩, hW, hI⟩ := h'
    have hbc := hc.bc hb
    have hR0 : RA n k al col' pr (slS col' (n + k) stk' w (bmk p 0) (bits', syn', tal')).1 mea' stk' (slS col' (n + k) stk' w (bmk p 0) (bits', syn', tal')).2.2 ab := by
      rw [bmk_0 (by omega), slS_0.1, slS_0.2]; exact hR
    obtain ⟨al', hM, hR'⟩ := M_burst_loop (F := F) (x49 := nI (upA a)) (x50 := 0) (was := kwA a al was) (len := len) hbc hw cp hlen len 0 F al (by omega) (by omega) hR0
    have hX : p_X9_slipPlaces F bits' stk' syn' tal' (nI n) (nI k) col' (nI w) (((1 <<< (nI len &&& 31)) - 1) <<< (nI p &&& 31)) = some (slS col' (n + k) stk' w (bmk p len) (bits', syn', tal')) := by
      rw [mk_eq len (by omega)]; exact X9_slip (by omega) hm hw
    have hAI : AI n k col' (slS col' (n + k) stk' w (bmk p len) (bits', syn', tal')) := AI_upd hI (fit_turn (fit_bmk cp hm (by omega) (by omega)))
    generalize slS col' (n + k) stk' w (bmk p len) (bits', syn', tal') = z at hR' hAI hX
    rw [hX, show nI p = nI (p + 0) from rfl, show nI (p + 0) = nI p from rfl]
    simp only [Option.bind_some]
    exact ⟨_, _, _, _, _, _, _, _, rfl, hM, StpA.yes ⟨rfl, rfl, h1, hc, ht, ⟨ab, hR'⟩, hW, hAI⟩⟩
  · rw [if_neg (fun q => by rw [fa_le, nI_toInt (by omega), nI_toInt (by omega)] at q; omega), M_isPlace_out hb (by omega) hm (Or.inr (nI_le (by omega) (by omega)))]
    exact ⟨0, nI a, la, un, st, o, al, was, rfl, rfl, StpA.no⟩
end Act4
