/-! scrubbing and storms of the model; how many words are as meant -/
section Mod3
variable {F b n k w : Nat} {all col dat chk : Nat → Int32} {pr : Int32} {mea stk : Nat → Int32} {ab : Nat → Int32 × Int32}
theorem cnt_eq : ∀ q, q < 6 → (if nI q = 1 then (1 : Int32) else if nI q = 2 then 1 else if nI q = 5 then 1 else 0) = cntK (nI q) := by decide +kernel
theorem M_scrub_loop (hF : 40 < F) (hb : BC b n k dat chk col) (hW : WI n k col mea) : ∀ (d i fuel : Nat) (c : Int32) (z : A3) (all : Nat → Int32) (z0 z1 z2 z3 : Int32), i + d = 16 → d < fuel → RA n k all col pr z.1 mea stk z.2.2 ab → AI n k col z →
    ∃ all' y0 y1 y2 y3, p_X11_scrubNow_L4 F (nI b) dat chk fuel c (nI i) z0 z1 z2 z3 all = some ((fo (maS col (n + k) pr stk mea ab) d i (c, z)).1, y0, y1, y2, y3, all') ∧ RA n k all' col pr (fo (maS col (n + k) pr stk mea ab) d i (c, z)).2.1 mea stk (fo (maS col (n + k) pr stk mea ab) d i (c, z)).2.2.2 ab := by
  intro d
  induction d with
  | zero =>
    intro i fuel c z all z0 z1 z2 z3 hd hf h hI
    cases fuel with
    | zero => exact absurd hf (by omega)
    | succ fuel =>
      have e : i = 16 := by omega
      subst e
      refine ⟨all, z0, z1, z2, z3, ?_, h⟩
      show p_X11_scrubNow_L4b F (nI b) dat chk _ c (nI 16) z0 z1 z2 z3 all = _
      unfold p_X11_scrubNow_L4b
      rw [if_pos (by decide)]
      rfl
  | succ d ih =>
    intro i fuel c z all z0 z1 z2 z3 hd hf h hI
    cases fuel with
    | zero => exact absurd hf (by omega)
    | succ fuel =>
      have hi : i < 16 := by omega
      obtain ⟨al1, y0, y1, y2, a1, a2⟩ := M_mend hF hb h hW hI hi z0 z1 z2 z3
      have hI2 := mdS_AI (pr := pr) (mea := mea) hb.hm h.stk hi hI
      obtain ⟨q, hq, eq⟩ := rdS_kind col (n + k) pr (z.2.1 i) (ab i).1 (ab i).2
      have hfo : fo (maS col (n + k) pr stk mea ab) (d + 1) i (c, z) = fo (maS col (n + k) pr stk mea ab) d (i + 1) (c + cntK (rdS col (n + k) pr (z.2.1 i) (ab i).1 (ab i).2).1, mdS col (n + k) pr stk mea ab i z) := rfl
      rw [hfo]
      show ∃ all' w0 w1 w2 w3, p_X11_scrubNow_L4b F (nI b) dat chk _ c (nI i) z0 z1 z2 z3 all = _ ∧ _
      unfold p_X11_scrubNow_L4b p_X11_scrubNow_J32 p_X11_scrubNow_J37
      rw [if_neg (show ¬ (16 : Int32) ≤ nI i from nI_ge (b := 16) hi (by decide)), a1]
      simp only [Option.bind_some, nI_1]
      rw [eq, ← cnt_eq q hq]
      obtain ⟨al2, v0, v1, v2, v3, a3, a4⟩ := ih (i + 1) fuel (c + (if nI q = 1 then (1 : Int32) else if nI q = 2 then 1 else if nI q = 5 then 1 else 0)) (mdS col (n + k) pr stk mea ab i z) al1 (nI q) y0 y1 y2 (by omega) (by omega) a2 hI2
      refine ⟨al2, v0, v1, v2, v3, ?_, a4⟩
      rw [← a3]
      by_cases h1 : nI q = 1
      · rw [if_pos h1, if_pos h1]
      · rw [if_neg h1, if_neg h1]
        by_cases h2 : nI q = 2
        · rw [if_pos h2, if_pos h2]
        · rw [if_neg h2, if_neg h2]
          by_cases h3 : nI q = 5
          · rw [if_pos h3, if_pos h3]
          · rw [if_neg h3, if_neg h3]
theorem M_scrub (hF : 40 < F) (hb : BC b n k dat chk col) (hW : WI n k col mea) {z : A3} (h : RA n k all col pr z.1 mea stk z.2.2 ab) (hI : AI n k col z) (z0 z1 z2 z3 : Int32) :
    ∃ all' y0 y1 y2 y3, p_X11_scrubNow F (nI b) z0 z1 z2 z3 all dat chk = some ((fo (maS col (n + k) pr stk mea ab) 16 0 (0, z)).1, y0, y1, y2, y3, all') ∧ RA n k all' col pr (scS col (n + k) pr stk mea ab z).1 mea stk (scS col (n + k) pr stk mea ab z).2.2 ab :=
  M_scrub_loop hF hb hW 16 0 F 0 z all z0 z1 z2 z3 rfl (by omega) h hI
theorem SlotA.is {m : Nat} {stk s0 s1 a b : Int32} (hm : m ≤ 32) (h : SlotA m stk s0 s1 a b) {p : Nat} (hp : p < 32) : (s0 - 1 = nI p ∨ s1 - 1 = nI p) ↔ bt stk p = true := by
  have nm : ¬ (-1 : Int32) = nI p := fun e => nI_ne_m1 (by omega) e.symm
  rcases h with ⟨t1, t2, t3, t4, t5⟩ | ⟨i, hi, t1, t2, t3, t4, t5⟩ | ⟨i, j, hij, hj, t1, t2, t3, ⟨t4, t5⟩ | ⟨t4, t5⟩⟩
  · rw [t1, t4, t5, z1m, b_0]; simp [nm]
  · rw [t1, t4, t5, z1m, nI_s1, bt_oh (by omega), nI_eq (by omega) (by omega)]
    simp [nm, eq_comm]
  · rw [t1, t4, t5, nI_s1, nI_s1, b_or, bt_oh (by omega), bt_oh (by omega), nI_eq (by omega) (by omega), nI_eq (by omega) (by omega), Bool.or_eq_true, decide_eq_true_iff, decide_eq_true_iff]
    constructor <;> (intro h; omega)
  · rw [t1, t4, t5, nI_s1, nI_s1, b_or, bt_oh (by omega), bt_oh (by omega), nI_eq (by omega) (by omega), nI_eq (by omega) (by omega), Bool.or_eq_true, decide_eq_true_iff, decide_eq_true_iff]
    constructor <;> (intro h; omega)
theorem M_isStuck {bits tal : Nat → Int32} (hm : n + k ≤ 32) (h : RA n k all col pr bits mea stk tal ab) (hw : w < 16) {p : Nat} (hp : p < 32) : p_X11_isStuck F all (nI w) (nI p) = some (if bt (stk w) p = true then 1 else 0) := by
  have hs := (h.2.2.1 w hw).2.2.2.is hm hp
  unfold p_X11_isStuck
  rw [M_stuckAt0 hw, M_stuckAt1 hw]
  simp only [Option.bind_some]
  by_cases h1 : bt (stk w) p = true
  · rw [if_pos h1]
    rcases hs.mpr h1 with h2 | h2
    · rw [if_pos h2]
    · by_cases h3 : all (81 + 2 * w) - 1 = nI p
      · rw [if_pos h3]
      · rw [if_neg h3, if_pos h2]
  · rw [if_neg h1, if_neg (fun h2 => h1 (hs.mp (Or.inl h2))), if_neg (fun h2 => h1 (hs.mp (Or.inr h2)))]
theorem turn_oh_s {stk : Int32} {p : Nat} (hp : p < 32) (h : bt stk p = true) : turnM stk (oh p) = 0 := b_ext fun i hi => by
  rw [turnM, b_and, b_xor, b_m1 i hi, bt_oh hp, b_0]
  by_cases e : i = p
  · subst e; simp [h]
  · simp [e]
theorem turn_oh_f {stk : Int32} {p : Nat} (hp : p < 32) (h : bt stk p = false) : turnM stk (oh p) = oh p := b_ext fun i hi => by
  rw [turnM, b_and, b_xor, b_m1 i hi, bt_oh hp]
  by_cases e : i = p
  · subst e; simp [h]
  · simp [e]
theorem M_slip (hb : BC b n k dat chk col) {z : A3} (h : RA n k all col pr z.1 mea stk z.2.2 ab) (hw : w < 16) {p : Nat} (hp : p < n + k) :
    ∃ all', p_X11_slipNow F (nI b) all dat (nI w) (nI p) = some all' ∧ RA n k all' col pr (slS col (n + k) stk w (oh p) z).1 mea stk (slS col (n + k) stk w (oh p) z).2.2 ab := by
  have hm := hb.hm
  unfold p_X11_slipNow
  rw [M_isStuck hm h hw (by omega), M_bitOf hb h hw hp]
  simp only [Option.bind_some, slS]
  by_cases h1 : bt (stk w) p = true
  · rw [if_pos h1, if_neg (by decide), turn_oh_s (by omega) h1, xo_zero, upd_same, pcn_0, show z.2.2 7 + nI 0 = z.2.2 7 from Int32.add_zero _, upd_same]
    exact ⟨all, rfl, h⟩
  · have h1' : bt (stk w) p = false := by cases hq : bt (stk w) p <;> simp_all
    rw [if_neg h1, if_pos rfl, turn_oh_f (by omega) h1', pcn_oh (by omega)]
    have e1 : (1 : Int32) - (if bt (z.1 w) p = true then 1 else 0) = if (!bt (z.1 w) p) = true then 1 else 0 := by cases bt (z.1 w) p <;> decide
    rw [e1]
    obtain ⟨al1, a1, a2⟩ := M_setBit (F := F) hb h hw hp (!bt (z.1 w) p)
    rw [a1]
    refine ⟨_, rfl, ?_⟩
    have e2 : setb (z.1 w) p (!bt (z.1 w) p) = z.1 w ^^^ oh p := by
      unfold setb
      rw [if_neg (by cases bt (z.1 w) p <;> decide)]
    rw [e2] at a2
    rw [show (120 : Int32).toNatClampNeg = 113 + 7 from rfl, a2.2.2.2 7 (by decide)]
    exact a2.tally hm (by decide) _
theorem M_storm_loop (hF : 40 < F) (hb : BC b n k dat chk col) (hW : WI n k col mea) {N ev : Nat} (hN : N < 1000) (hev : ev < 1000) : ∀ (d i fuel dr : Nat) (z : A3) (all : Nat → Int32) (z0 z1 z2 z3 : Int32), i + d = N + 1 → d < fuel → dr < 10007 → RA n k all col pr z.1 mea stk z.2.2 ab → AI n k col z →
    ∃ all' y0 y1 y2 y3, p_X11_stormNow_L6 F (nI b) dat chk (nI N) (nI ev) fuel (nI dr) (nI i) z0 z1 z2 z3 all = some (y0, y1, y2, y3, all') ∧ RA n k all' col pr (fo (stS col (n + k) pr stk mea ab ev) d i (dr, z)).2.1 mea stk (fo (stS col (n + k) pr stk mea ab ev) d i (dr, z)).2.2.2 ab ∧ AI n k col (fo (stS col (n + k) pr stk mea ab ev) d i (dr, z)).2 := by
  intro d
  induction d with
  | zero =>
    intro i fuel dr z all z0 z1 z2 z3 hd hf hdr h hI
    cases fuel with
    | zero => exact absurd hf (by omega)
    | succ fuel =>
      refine ⟨all, z0, z1, z2, z3, ?_, h, hI⟩
      show p_X11_stormNow_L6b F (nI b) dat chk (nI N) (nI ev) _ (nI dr) (nI i) z0 z1 z2 z3 all = _
      unfold p_X11_stormNow_L6b
      rw [if_pos (nI_lt (by omega) (by omega))]
  | succ d ih =>
    intro i fuel dr z all z0 z1 z2 z3 hd hf hdr h hI
    cases fuel with
    | zero => exact absurd hf (by omega)
    | succ fuel =>
      have hm := hb.hm
      have h0 : 0 < n + k := by obtain ⟨b1, b2, b3, b4, b5, b6, b7, b8⟩ := hb; omega
      have h1 := nd_lt dr
      have h2 := nd_lt (nd dr)
      have hwd : nd dr % 16 < 16 := Nat.mod_lt _ (by decide)
      have hpl : nd (nd dr) % (n + k) < n + k := Nat.mod_lt _ h0
      have dw : ∀ x, x < 10007 → ((137 : Int32) * nI x + 71) - ((137 : Int32) * nI x + 71) / 10007 * 10007 = nI (nd x) := fun x hx => by
        rw [show (137 : Int32) = nI 137 from rfl, show (71 : Int32) = nI 71 from rfl, show (10007 : Int32) = nI 10007 from rfl, pk_mul, nI_add, pk_rem (by omega) (by decide) (by decide), Nat.mul_comm]
        rfl
      have e16 : (nI (nd dr) - nI (nd dr) / (16 : Int32) * (16 : Int32)) = nI (nd dr % 16) := pk_rem (d := 16) (by omega) (by decide) (by decide)
      have em : (nI (nd (nd dr)) - nI (nd (nd dr)) / nI (n + k) * nI (n + k)) = nI (nd (nd dr) % (n + k)) := pk_rem (by omega) h0 (by omega)
      have hne : ¬ nI (n + k) = 0 := nI_ne0 h0 (by omega)
      obtain ⟨al1, a1, a2⟩ := M_slip (F := F) hb h hwd hpl
      have hI1 := slS_AI (stk := stk) (w := nd dr % 16) hm hpl hI
      have hno := @stS_no col (n + k) pr stk mea ab ev i dr z
      have hyes := @stS_yes col (n + k) pr stk mea ab ev i dr z
      generalize slS col (n + k) stk (nd dr % 16) (oh (nd (nd dr) % (n + k))) z = w1 at a2 hI1 hno hyes
      have hfo : fo (stS col (n + k) pr stk mea ab ev) (d + 1) i (dr, z) = fo (stS col (n + k) pr stk mea ab ev) d (i + 1) (stS col (n + k) pr stk mea ab ev i (dr, z)) := rfl
      rw [hfo]
      show ∃ all' w0 w1 w2 w3, p_X11_stormNow_L6b F (nI b) dat chk (nI N) (nI ev) _ (nI dr) (nI i) z0 z1 z2 z3 all = _ ∧ _
      unfold p_X11_stormNow_L6b
      rw [if_neg (nI_nlt (by omega) (by omega))]
      have hj : ∀ {β : Type} (x : Nat) (kk : Int32 → Option β), x < 10007 → jlet (((137 : Int32) * nI x + 71) - ((137 : Int32) * nI x + 71) / 10007 * 10007) kk = kk (nI (nd x)) := fun x kk hx => by rw [dw x hx]; rfl
      rw [hj dr _ hdr, hj (nd dr) _ h1, M_places hb.1 hb.2.1 hb.2.2.1]
      simp only [Option.bind_some]
      rw [if_neg hne, e16, em, a1]
      simp only [Option.bind_some]
      unfold p_X11_stormNow_J78
      rw [nI_1]
      by_cases hz : ev = 0
      · rw [hno (by omega), hz, if_pos (by decide), ← hz]
        exact ih (i + 1) fuel (nd (nd dr)) w1 al1 z0 z1 z2 z3 (by omega) (by omega) h2 a2 hI1
      · rw [if_neg (nI_nle (by omega) (by omega)), if_neg (nI_ne0 (by omega) (by omega)), pk_rem (by omega) (by omega) (by omega)]
        by_cases hr : i % ev = 0
        · rw [hr, if_pos (show nI 0 = 0 from rfl), hyes ⟨by omega, hr⟩]
          obtain ⟨al2, y0, y1, y2, y3, a3, a4⟩ := M_scrub hF hb hW a2 hI1 z0 z1 z2 z3
          rw [a3]
          simp only [Option.bind_some]
          exact ih (i + 1) fuel (nd (nd dr)) _ al2 y0 y1 y2 y3 (by omega) (by omega) h2 a4 (scS_AI hm h.stk hI1)
        · rw [if_neg (by rw [nI_is0 (Nat.lt_of_lt_of_le (Nat.mod_lt _ (by omega)) (by omega))]; exact hr), hno (fun h => hr h.2)]
          exact ih (i + 1) fuel (nd (nd dr)) w1 al1 z0 z1 z2 z3 (by omega) (by omega) h2 a2 hI1
theorem M_storm (hF : 1000 < F) (hb : BC b n k dat chk col) (hW : WI n k col mea) {N ev sd : Nat} (hN : N < 1000) (hev : ev < 1000) (hsd : sd < 10007) {z : A3} (h : RA n k all col pr z.1 mea stk z.2.2 ab) (hI : AI n k col z) (z0 z1 z2 z3 : Int32) :
    ∃ all' y0 y1 y2 y3, p_X11_stormNow F (nI b) z0 z1 z2 z3 all dat chk (nI sd) (nI N) (nI ev) = some (y0, y1, y2, y3, all') ∧ RA n k all' col pr (fo (stS col (n + k) pr stk mea ab ev) N 1 (sd, z)).2.1 mea stk (fo (stS col (n + k) pr stk mea ab ev) N 1 (sd, z)).2.2.2 ab ∧ AI n k col (fo (stS col (n + k) pr stk mea ab ev) N 1 (sd, z)).2 :=
  M_storm_loop (by omega) hb hW hN hev N 1 F sd z all z0 z1 z2 z3 (by omega) (by omega) hsd h hI
end Mod3
