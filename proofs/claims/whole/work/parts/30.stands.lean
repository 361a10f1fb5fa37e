/-! how a word stands -/
theorem wh_whole {n k : Nat} {col : Nat → Int32} {x : Int32} (hn : n < 32) (hm : n + k ≤ 32) (hk8 : k ≤ 8) (hK : ColK n k col) (hc : ∀ c, c < k → col (n + c) = oh c) (hx : Fit (n + k) x) (h0 : sy col x (n + k) = 0) : whI n k col x = x :=
  fit_eq (k := k) hn (wh_DD hn) ((wh_CC hn hm hK).trans (whole_CC hn hm hk8 hc hx h0))
theorem put_off (s x y : Int32) : putB s x y = y ^^^ ((x ^^^ y) &&& s) := b_ext fun i hi => by
  rw [putB, b_or, b_and, b_and, b_xor, b_xor, b_and, b_xor, b_m1 i hi]
  cases bt s i <;> cases bt x i <;> cases bt y i <;> rfl
theorem off_or {s x : Int32} {p : Nat} (hp : p < 32) (h : bt s p = false) : (x &&& s) ||| oh p = (x &&& s) ^^^ oh p := b_ext fun i hi => by
  rw [b_or, b_xor, b_and, bt_oh hp]
  by_cases e : i = p
  · subst e; rw [h]; simp
  · simp [e]
theorem setb_flip (x : Int32) (p : Nat) : setb x p (!bt x p) = x ^^^ oh p := by
  unfold setb
  rw [if_neg (by cases bt x p <;> decide)]
theorem setb_back {x : Int32} {p : Nat} (hp : p < 32) : setb (x ^^^ oh p) p (!bt (x ^^^ oh p) p) = x := by
  rw [setb_flip, xo_assoc, xo_self, xo_zero]
theorem bit_inv (c : Bool) : (1 : Int32) - (if c = true then 1 else 0) = if (!c) = true then 1 else 0 := by cases c <;> decide
section Qry6
variable {F b n k g a : Nat} {dat chk : Nat → Int32} {pr : Int32} {col pl prT bits mea stk syn tal al : Nat → Int32} {st : Nat → Option Nat} {ab : Nat → Int32 × Int32}
theorem stands_loop (hF : 1000 < F) (hb : MB b n k dat chk) (hpr : pr = 0 ∨ pr = 1) (hc : CodeOK n k col) (ht : TabOK (n + k) col pl prT) (hW : WI n k col mea) {w : Nat} (hw : w < 16) {ofs : Int32} {B : Nat → Int32} (hB : B w = mea w ^^^ ofs) (hofs : ∃ x, ofs = x &&& stk w) (hfit : Fit (n + k) (B w)) {q : Nat} (hq : q < 3) (a1 a2 : Nat → Int32) {asd : Nat → Int32} :
    ∀ (d i fuel : Nat) (al : Nat → Int32) (cnt y0 y1 y2 z0 z1 z2 z3 : Int32) (srt : Nat → Int32), i + d = n + k → d < fuel → RA n k al col pr B mea stk tal ab → srt q = cnt →
    ∃ r, (∃ y, p_X9_countStands_L32 F a1 a2 stk (nI n) (nI k) pr col pl prT (nI q) (stk w) ofs fuel cnt (nI i) y0 y1 y2 = some (r, y)) ∧
      ∃ z0' z1' z2' z3' al' srt', p_X11_stands_L58 F (nI b) dat chk (nI w) (nI q) fuel (nI i) z0 z1 z2 z3 al srt asd = some (r, z0', z1', z2', z3', al', srt', asd) ∧ ∀ j, j < 121 → al' j = asd j := by
  have hm := hc.hm
  have hbc := hc.bc hb
  intro d
  induction d with
  | zero =>
    intro i fuel al cnt y0 y1 y2 z0 z1 z2 z3 srt hd hf hR hs
    cases fuel with
    | zero => exact absurd hf (by omega)
    | succ fuel =>
      have e : i = n + k := by omega
      subst e
      have g3 : ¬ ixBad (nI q) 3 := ixg hq (by decide)
      have c3 : (nI q).toNatClampNeg = q := nI_clamp (by omega)
      have hX : p_X9_countStands_L32 F a1 a2 stk (nI n) (nI k) pr col pl prT (nI q) (stk w) ofs (fuel + 1) cnt (nI (n + k)) y0 y1 y2 = some (cnt, y0, y1, y2) := by
        show p_X9_countStands_L32b F a1 a2 stk (nI n) (nI k) pr col pl prT (nI q) (stk w) ofs _ cnt (nI (n + k)) y0 y1 y2 = _
        unfold p_X9_countStands_L32b p_X1_places
        simp only [Option.bind_some, nI_add]
        rw [if_pos (nI_le (Nat.le_refl _) (by omega))]
      have hM : p_X11_stands_L58 F (nI b) dat chk (nI w) (nI q) (fuel + 1) (nI (n + k)) z0 z1 z2 z3 al srt asd = some (cnt, z0, z1, z2, z3, (fun j => if j < 121 then asd j else al j), srt, asd) := by
        show p_X11_stands_L58b F (nI b) dat chk (nI w) (nI q) _ (nI (n + k)) z0 z1 z2 z3 al srt asd = _
        unfold p_X11_stands_L58b
        rw [M_places hb.1 hb.2.1 hb.2.2]
        simp only [Option.bind_some]
        rw [if_pos (nI_le (Nat.le_refl _) (by omega)), M_bringBack hF]
        simp only [Option.bind_some, g3, c3, ↓reduceIte, hs]
      exact ⟨cnt, ⟨_, hX⟩, z0, z1, z2, z3, _, srt, hM, fun j hj => by simp only [hj, ↓reduceIte]⟩
  | succ d ih =>
    intro i fuel al cnt y0 y1 y2 z0 z1 z2 z3 srt hd hf hR hs
    cases fuel with
    | zero => exact absurd hf (by omega)
    | succ fuel =>
      have hle : ¬ nI (n + k) ≤ nI i := nI_ge (by omega) (by omega)
      have hbit : ((jushr (stk w) (nI i) &&& (1 : Int32)) = 0) ↔ bt (stk w) i = false := by
        rw [bit1u _ (by omega)]
        cases bt (stk w) i <;> simp
      show ∃ r, (∃ y, p_X9_countStands_L32b F a1 a2 stk (nI n) (nI k) pr col pl prT (nI q) (stk w) ofs (p_X9_countStands_L32 F a1 a2 stk (nI n) (nI k) pr col pl prT (nI q) (stk w) ofs fuel) cnt (nI i) y0 y1 y2 = some (r, y)) ∧
        ∃ z0' z1' z2' z3' al' srt', p_X11_stands_L58b F (nI b) dat chk (nI w) (nI q) (p_X11_stands_L58 F (nI b) dat chk (nI w) (nI q) fuel) (nI i) z0 z1 z2 z3 al srt asd = some (r, z0', z1', z2', z3', al', srt', asd) ∧ ∀ j, j < 121 → al' j = asd j
      unfold p_X9_countStands_L32b p_X11_stands_L58b p_X1_places
      rw [M_places hb.1 hb.2.1 hb.2.2, M_isStuck hm hR hw (show i < 32 by omega)]
      simp only [Option.bind_some, nI_add, jlet_eq]
      rw [if_neg hle, if_neg hle]
      by_cases hst : bt (stk w) i = true
      · have hst' : ¬ (jushr (stk w) (nI i) &&& (1 : Int32)) = 0 := by rw [hbit, hst]; decide
        rw [if_neg hst', if_pos hst, if_neg i32_1_0]
        unfold p_X9_countStands_J95 p_X11_stands_J144
        rw [nI_1]
        exact ih (i + 1) fuel al cnt y0 y1 y2 z0 z1 z2 z3 srt (by omega) (by omega) hR hs
      · have hst0 : bt (stk w) i = false := by cases hz : bt (stk w) i <;> simp_all
        obtain ⟨x0, hx0⟩ := hofs
        have hoff : ofs ||| oh i = ofs ^^^ oh i := by rw [hx0]; exact off_or (by omega) hst0
        rw [if_pos (hbit.mpr hst0), if_neg hst, if_pos rfl, show (1 : Int32) <<< (nI i &&& 31) = oh i from rfl, hoff, X1_synd (by omega) hm]
        simp only [Option.bind_some]
        rw [X2_read (by omega) hm hc.colB ht (hR.stk w hw) hpr]
        simp only [Option.bind_some, X2_judge, M_bitOf hbc hR hw (show i < n + k by omega), bit_inv]
        obtain ⟨al1, e1, R1⟩ := M_setBit (F := F) hbc hR hw (show i < n + k by omega) (!bt (B w) i)
        rw [e1]
        rw [setb_flip] at R1
        have hB1 : upd B w (B w ^^^ oh i) w = mea w ^^^ (ofs ^^^ oh i) := by rw [upd_at, if_pos rfl, hB, xo_assoc]
        have hfit1 : Fit (n + k) (upd B w (B w ^^^ oh i) w) := by rw [upd_at, if_pos rfl]; exact fit_xor hfit (fit_oh (by omega) hm)
        have hsy : sy col (upd B w (B w ^^^ oh i) w) (n + k) = sy col (ofs ^^^ oh i) (n + k) := by rw [hB1, sy_xor, (hW w hw).2, zero_xo]
        simp only [Option.bind_some]
        rw [M_readWord (by omega) hbc R1 hw hfit1, hsy]
        generalize hr : rdS col (n + k) pr (sy col (ofs ^^^ oh i) (n + k)) (ab w).1 (ab w).2 = r
        simp only [Option.bind_some, rrM, M_isTold, ite0, M_isRight (F := F) (show 40 < F by omega) hbc R1 hW hw]
        have hright : (upd B w (B w ^^^ oh i) w ^^^ r.2.2 = mea w) ↔ r.2.2 = ofs ^^^ oh i := by
          rw [hB1]
          constructor
          · intro e
            have e2 : mea w ^^^ ((ofs ^^^ oh i) ^^^ r.2.2) = mea w ^^^ 0 := by rw [← xo_assoc, e, xo_zero]
            exact (xo_eq0.mp (xo_cancel e2)).symm
          · intro e
            rw [e, xo_assoc, xo_self, xo_zero]
        have hbk : ∀ (z0 z1 z2 z3 s : Int32) (j : Nat), j < 3 → s = nI j → ∃ al2, RA n k al2 col pr B mea stk tal ab ∧ p_X11_stands_J125 F (nI b) dat chk (nI w) (nI q) (p_X11_stands_L58 F (nI b) dat chk (nI w) (nI q) fuel) (nI i) s z0 z1 z2 z3 al1 srt asd = p_X11_stands_L58 F (nI b) dat chk (nI w) (nI q) fuel (nI (i + 1)) z0 z1 z2 z3 al2 (upd srt j (srt j + 1)) asd := by
          intro z0 z1 z2 z3 s j hj hs
          subst hs
          have g3 : ¬ ixBad (nI j) 3 := ixg hj (by decide)
          have c3 : (nI j).toNatClampNeg = j := nI_clamp (by omega)
          obtain ⟨al2, e2, R2⟩ := M_setBit (F := F) hbc R1 hw (show i < n + k by omega) (!bt (upd B w (B w ^^^ oh i) w) i)
          refine ⟨al2, R2.congB (fun v hv => ?_), ?_⟩
          · by_cases ev : v = w
            · subst ev; simp only [upd_at, ↓reduceIte]; exact (setb_back (by omega)).symm
            · simp only [upd_at, ev, ↓reduceIte]
          · unfold p_X11_stands_J125 p_X11_stands_J144
            simp only [g3, c3, ↓reduceIte]
            rw [M_bitOf hbc R1 hw (show i < n + k by omega)]
            simp only [Option.bind_some, bit_inv]
            rw [e2]
            simp only [Option.bind_some, nI_1]
        have hjd : ∃ j, j < 3 ∧ jdS r.1 r.2.2 (ofs ^^^ oh i) = nI j := by
          unfold jdS
          by_cases c1 : r.1 = 3 ∨ r.1 = 4
          · exact ⟨1, by decide, by rw [if_pos c1]; rfl⟩
          · by_cases c2 : r.2.2 = ofs ^^^ oh i
            · exact ⟨0, by decide, by rw [if_neg c1, if_pos c2]; rfl⟩
            · exact ⟨2, by decide, by rw [if_neg c1, if_neg c2]; rfl⟩
        obtain ⟨j, hj, ej⟩ := hjd
        obtain ⟨al2, R2, eM⟩ := hbk r.1 r.2.1 (DD n (upd B w (B w ^^^ oh i) w ^^^ r.2.2)) (CC n (upd B w (B w ^^^ oh i) w ^^^ r.2.2)) (jdS r.1 r.2.2 (ofs ^^^ oh i)) j hj ej
        obtain ⟨rr, ⟨yy, hy⟩, w0, w1, w2, w3, al3, srt3, hz, he⟩ := ih (i + 1) fuel al2 (cnt + if j = q then 1 else 0) r.1 r.2.1 r.2.2 r.1 r.2.1 (DD n (upd B w (B w ^^^ oh i) w ^^^ r.2.2)) (CC n (upd B w (B w ^^^ oh i) w ^^^ r.2.2)) (upd srt j (srt j + 1)) (by omega) (by omega) R2 (by
          rw [upd_at]
          by_cases e : q = j
          · subst e; simp [hs]
          · rw [if_neg e, if_neg (fun h => e h.symm), hs]; exact (Int32.add_zero _).symm)
        refine ⟨rr, ⟨yy, ?_⟩, w0, w1, w2, w3, al3, srt3, ?_, he⟩
        · rw [ej, ← hy]
          unfold p_X9_countStands_J92 p_X9_countStands_J95
          by_cases e : j = q
          · subst e; simp only [if_pos, nI_1]
          · have : ¬ nI j = nI q := fun h => e ((nI_eq (by omega) (by omega)).mp h)
            rw [if_neg this, if_neg e, nI_1]
        · rw [← hz, ← eM]
          unfold jdS
          simp only [hright]
          by_cases c1 : r.1 = 3 ∨ r.1 = 4
          · simp only [c1, ↓reduceIte]
          · by_cases c2 : r.2.2 = ofs ^^^ oh i
            · simp only [c1, c2, ↓reduceIte]
            · simp only [c1, c2, ↓reduceIte]
theorem Q_stands (hF : 1000 < F) (ha : a < 13) (hs : st a = some g) (hb : MB b n k dat chk) (h : SR n k pr col pl prT bits mea stk syn tal al) (y0 y1 y2 z0 z1 z2 z3 : Int32) (srt asd : Nat → Int32) (u v : Int32) :
    ∃ r, (∃ y, p_X10_stands F g (nI a) st y0 y1 y2 (nI n) (nI k) pr col pl prT bits mea stk u v = some (r, y)) ∧
      ∃ z0' z1' z2' z3' al' srt' asd', p_X11_stands F (nI b) z0 z1 z2 z3 al dat chk srt asd u v = some (r, z0', z1', z2', z3', al', srt', asd') ∧ ∀ j, j < 121 → al' j = al j := by
  obtain ⟨h1, hc, ht, ⟨ab, hR⟩, hW, hI⟩ := h
  have hm := hc.hm
  have hbc := hc.bc hb
  have hn : n < 31 := by have := hc.2.1; omega
  have no : ∃ r, (∃ y, some ((-1 : Int32), y0, y1, y2) = some (r, y)) ∧ ∃ z0' z1' z2' z3' al' srt' asd', some ((-1 : Int32), z0, z1, z2, z3, al, srt, asd) = some (r, z0', z1', z2', z3', al', srt', asd') ∧ ∀ j, j < 121 → al' j = al j :=
    ⟨-1, ⟨_, rfl⟩, z0, z1, z2, z3, al, srt, asd, rfl, fun _ _ => rfl⟩
  unfold p_X10_stands p_X11_stands
  rcases rng u (N := 16) (by decide) with ⟨w, hw, rfl⟩ | ho
  · rw [(isWord_in hw).1, (isWord_in hw).2]
    simp only [Option.bind_some]
    rw [if_neg i32_1_0, if_neg i32_1_0]
    rcases rng v (N := 3) (by decide) with ⟨q, hq, rfl⟩ | hv
    · rw [cls_in 3 2 rfl hq (by decide), isIn_inL 3 2 rfl hq (by decide), now_eq ha hs, M_putAside hF]
      simp only [Option.bind_some]
      rw [if_neg i32_1_0]
      have g16 : ¬ ixBad (nI w) 16 := ixg hw (by decide)
      have c16 : (nI w).toNatClampNeg = w := nI_clamp (by omega)
      have e65 : (65 : Int32) + nI w = nI (65 + w) := nI_lit 65 w
      have g65 : ¬ ixBad (nI (65 + w)) 121 := ixg (by omega) (by decide)
      have c65 : (nI (65 + w)).toNatClampNeg = 65 + w := nI_clamp (by omega)
      obtain ⟨q1, q2, q3, q4⟩ := hR.2.2.1 w hw
      obtain ⟨al1, ea, R1⟩ := M_writeWhole (F := F) (by omega) hbc hc.colK hR hw (mea w)
      unfold p_X9_countStands
      simp only [g16, c16, e65, g65, c65, ↓reduceIte, jlet_eq, q3]
      rw [ea]
      simp only [Option.bind_some]
      rw [wh_whole (by omega) hm hc.2.2.2.1 hc.colK hc.2.2.2.2.2.1 (hW w hw).1 (hW w hw).2, put_off] at R1
      have hB : upd bits w (mea w ^^^ ((bits w ^^^ mea w) &&& stk w)) w = mea w ^^^ ((bits w ^^^ mea w) &&& stk w) := by rw [upd_at, if_pos rfl]
      have hfit : Fit (n + k) (upd bits w (mea w ^^^ ((bits w ^^^ mea w) &&& stk w)) w) := by
        rw [hB]
        refine fit_xor (hW w hw).1 (fun i hi => ?_)
        rw [b_and, fit_xor (hI w hw).1 (hW w hw).1 i hi]; rfl
      have hz : ∀ (asd' : Nat → Int32), p_X11_stands_L38 F (nI b) dat chk (nI w) (nI q) F 0 z0 z1 z2 z3 al1 srt asd' = p_X11_stands_L58 F (nI b) dat chk (nI w) (nI q) F 0 z0 z1 z2 z3 al1 (fun j => if j < 3 then 0 else srt j) asd' := by
        intro asd'
        have key := fold_loop (fun fuel (s : Nat → Int32) i => p_X11_stands_L38 F (nI b) dat chk (nI w) (nI q) fuel i z0 z1 z2 z3 al1 s asd') (fun s => p_X11_stands_L58 F (nI b) dat chk (nI w) (nI q) F 0 z0 z1 z2 z3 al1 s asd') (fun i s => upd s i ((fun _ => 0) i)) (fun _ _ => True) 3 (fun fuel i s hi _ => by
          show p_X11_stands_L38b F (nI b) dat chk (nI w) (nI q) _ (nI i) z0 z1 z2 z3 al1 s asd' = _
          have g3 : ¬ ixBad (nI i) 3 := ixg hi (by decide)
          have c3 : (nI i).toNatClampNeg = i := nI_clamp (by omega)
          unfold p_X11_stands_L38b
          rw [if_neg (show ¬ (3 : Int32) ≤ nI i from nI_ge (b := 3) hi (by decide))]
          simp only [g3, c3, ↓reduceIte, nI_1]) (fun fuel s _ => rfl) (fun _ _ _ _ => trivial) 3 0 F srt (by omega) (by omega) trivial
        rw [cpy_fold] at key
        exact key
      rw [hz]
      obtain ⟨r, ⟨y, hy⟩, w0, w1, w2, w3, al2, srt2, hz2, he⟩ := stands_loop hF hb h1 hc ht hW hw hB ⟨_, rfl⟩ hfit hq bits mea (asd := fun j => if j < 121 then al j else asd j) (n + k) 0 F al1 0 y0 y1 y2 z0 z1 z2 z3 (fun j => if j < 3 then 0 else srt j) (by omega) (by omega) R1 (by simp [hq])
      refine ⟨r, ⟨y, ?_⟩, w0, w1, w2, w3, al2, srt2, _, hz2, fun j hj => by rw [he j hj]; simp only [hj, ↓reduceIte]⟩
      rw [show p_X9_countStands_L32 F bits mea stk (nI n) (nI k) pr col pl prT (nI q) (stk w) ((bits w ^^^ mea w) &&& stk w) F 0 0 y0 y1 y2 = _ from hy]
      rfl
    · rw [cls_out 3 2 rfl (by decide) (by decide) hv, isIn_outL 3 2 rfl (by decide) (by decide) hv]
      exact no
  · rw [(isWord_out ho).1, (isWord_out ho).2]
    exact no
end Qry6
