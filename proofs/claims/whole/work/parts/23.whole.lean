/-! whole words -/
def ColK (n k : Nat) (col : Nat → Int32) : Prop := ∀ p, p < n → Fit k (col p)
theorem sy_fit {n k : Nat} {col : Nat → Int32} {x : Int32} (h : ColK n k col) : ∀ d, d ≤ n → Fit k (sy col x d)
  | 0, _ => fit_0
  | d + 1, hd => by
    show Fit k (sy col x d ^^^ (if bt x d = true then col d else 0))
    refine fit_xor (sy_fit h d (by omega)) ?_
    by_cases e : bt x d = true
    · rw [if_pos e]; exact h d (by omega)
    · rw [if_neg e]; exact fit_0
theorem wh_syn {n k : Nat} {col : Nat → Int32} {x : Int32} (hn : n < 32) : sy col (x &&& mk n) (n + k) = sy col (DD n x) n := sy_split col (DD n x) n k (fun p h1 _ => by
  have : ¬ p < n := by omega
  rw [bt_DD hn]; simp [this])
theorem bt_wh {n k : Nat} {col : Nat → Int32} {x : Int32} (hn : n < 32) {i : Nat} (hi : i < 32) : bt (whI n k col x) i = if i < n then bt x i else bt (sy col (DD n x) n) (i - n) := by
  rw [whI, wh_syn hn, b_or, b_shl n hn _ hi, b_and, bt_mk hn]
  by_cases h : i < n
  · have h2 : ¬ n ≤ i := by omega
    simp [h, h2]
  · have h2 : n ≤ i := by omega
    simp [h, h2]
theorem wh_fit {n k : Nat} {col : Nat → Int32} {x : Int32} (hn : n < 32) (hc : ColK n k col) : Fit (n + k) (whI n k col x) := fun i hi => by
  by_cases h : i < 32
  · rw [bt_wh hn h, if_neg (by omega)]
    exact sy_fit hc n (Nat.le_refl _) _ (by omega)
  · exact b_big (by omega)
theorem wh_DD {n k : Nat} {col : Nat → Int32} {x : Int32} (hn : n < 32) : DD n (whI n k col x) = DD n x := b_ext fun i hi => by
  rw [bt_DD hn, bt_DD hn, bt_wh hn hi]
  by_cases h : i < n
  · rw [if_pos h]
  · simp [h]
theorem wh_CC {n k : Nat} {col : Nat → Int32} {x : Int32} (hn : n < 32) (hm : n + k ≤ 32) (hc : ColK n k col) : CC n (whI n k col x) = sy col (DD n x) n := b_ext fun i hi => by
  rw [bt_CC hn]
  by_cases h : n + i < 32
  · rw [bt_wh hn h, if_neg (by omega), show n + i - n = i by omega]
  · rw [b_big (by omega)]
    exact (sy_fit hc n (Nat.le_refl _) i (by omega)).symm
theorem wh_sy {n k : Nat} {col : Nat → Int32} {x : Int32} (hn : n < 32) (hm : n + k ≤ 32) (hk8 : k ≤ 8) (hc : ColK n k col) (ho : ∀ c, c < k → col (n + c) = oh c) : sy col (whI n k col x) (n + k) = 0 := by
  rw [sy_CC hn hm hk8 ho (wh_fit hn hc), wh_DD hn, wh_CC hn hm hc, xo_self]
theorem fit_put {m : Nat} {s x y : Int32} (h1 : Fit m x) (h2 : Fit m y) : Fit m (putB s x y) := fun i hi => by
  rw [putB, b_or, b_and, b_and, h1 i hi, h2 i hi]; rfl
/-- what writing all words anew gives -/
def waB (n k : Nat) (col stk bits mea : Nat → Int32) : Nat → Int32 := fun w => if w < 16 then putB (stk w) (bits w) (whI n k col (mea w)) else bits w
def waM (n k : Nat) (col mea : Nat → Int32) : Nat → Int32 := fun w => if w < 16 then whI n k col (mea w) else mea w
def waS (n k : Nat) (col stk bits mea syn : Nat → Int32) : Nat → Int32 := fun w => if w < 16 then sy col (putB (stk w) (bits w) (whI n k col (mea w))) (n + k) else syn w
theorem X9_writeAll' {F n k : Nat} {col bits mea stk syn : Nat → Int32} (hF : 40 < F) (hn : n < 31) (hm : n + k ≤ 32) :
    p_X9_writeAllAnew F bits mea stk syn (nI n) (nI k) col = some (waB n k col stk bits mea, waM n k col mea, waS n k col stk bits mea syn) := by
  rw [X9_writeAll hF hn hm, fo_upd3 (f := wrAll n k col stk) (g := fun i x y _ => (putB (stk i) x (whI n k col y), whI n k col y, sy col (putB (stk i) x (whI n k col y)) (n + k))) (fun i z => rfl)]
  rfl
section Mod5
variable {F b n k w : Nat} {all col dat chk : Nat → Int32} {pr : Int32} {bits mea stk tal : Nat → Int32} {ab : Nat → Int32 × Int32}
theorem M_writeWhole (hF : 40 < F) (hb : BC b n k dat chk col) (hc : ColK n k col) (h : RA n k all col pr bits mea stk tal ab) (hw : w < 16) (x : Int32) :
    ∃ all', p_X11_writeWhole F (nI b) all dat (nI w) (DD n x) = some all' ∧ RA n k all' col pr (upd bits w (putB (stk w) (bits w) (whI n k col x))) mea stk tal ab := by
  have hm := hb.hm
  have hn := hb.hn
  obtain ⟨al, a1, a2⟩ := M_writeBits (F := F) hb h hw (whI n k col x)
  refine ⟨al, ?_, a2⟩
  rw [wh_DD (by omega), wh_CC (by omega) hm hc] at a1
  unfold p_X11_writeWhole
  rw [(h.mc hb).checks hF]
  simp only [Option.bind_some]
  rw [a1]
  rfl
theorem RA.meaC {mea' : Nat → Int32} (h : RA n k all col pr bits mea stk tal ab) (hm : ∀ w, w < 16 → DD n (mea' w) = DD n (mea w)) : RA n k all col pr bits mea' stk tal ab := by
  obtain ⟨h1, h2, h3, h4⟩ := h
  refine ⟨h1, h2, fun w hw => ?_, h4⟩
  obtain ⟨q1, q2, q3, q4⟩ := h3 w hw
  exact ⟨q1, q2, by rw [hm w hw]; exact q3, q4⟩
theorem RA.congB {bits' : Nat → Int32} (h : RA n k all col pr bits mea stk tal ab) (hm : ∀ w, w < 16 → bits' w = bits w) : RA n k all col pr bits' mea stk tal ab := by
  obtain ⟨h1, h2, h3, h4⟩ := h
  refine ⟨h1, h2, fun w hw => ?_, h4⟩
  rw [hm w hw]; exact h3 w hw
theorem M_writeAnew (hF : 40 < F) (hb : BC b n k dat chk col) (hc : ColK n k col) (h : RA n k all col pr bits mea stk tal ab) :
    ∃ all', p_X11_writeAnew F (nI b) all dat = some all' ∧ RA n k all' col pr (waB n k col stk bits mea) (waM n k col mea) stk tal ab := by
  have hn := hb.hn
  have key : ∀ (d i fuel : Nat) (al : Nat → Int32), i + d = 16 → d < fuel → RA n k al col pr (fun w => if w < i then putB (stk w) (bits w) (whI n k col (mea w)) else bits w) mea stk tal ab →
      ∃ all', p_X11_writeAnew_L2 F (nI b) dat fuel (nI i) al = some all' ∧ RA n k all' col pr (waB n k col stk bits mea) mea stk tal ab := by
    intro d
    induction d with
    | zero =>
      intro i fuel al hd hf ha
      cases fuel with
      | zero => exact absurd hf (by omega)
      | succ fuel =>
        have e : i = 16 := by omega
        subst e
        refine ⟨al, ?_, ha⟩
        show p_X11_writeAnew_L2b F (nI b) dat _ (nI 16) al = _
        unfold p_X11_writeAnew_L2b
        rw [if_pos (by decide)]
    | succ d ih =>
      intro i fuel al hd hf ha
      cases fuel with
      | zero => exact absurd hf (by omega)
      | succ fuel =>
        have hi : i < 16 := by omega
        obtain ⟨q1, q2, q3, q4⟩ := ha.2.2.1 i hi
        have e65 : (65 : Int32) + nI i = nI (65 + i) := nI_lit 65 i
        have g65 : ¬ ixBad (nI (65 + i)) 121 := ixg (by omega) (by decide)
        have c65 : (nI (65 + i)).toNatClampNeg = 65 + i := nI_clamp (by omega)
        obtain ⟨al2, a1, a2⟩ := M_writeWhole hF hb hc ha hi (mea i)
        show ∃ all', p_X11_writeAnew_L2b F (nI b) dat _ (nI i) al = _ ∧ _
        unfold p_X11_writeAnew_L2b
        rw [if_neg (show ¬ (16 : Int32) ≤ nI i from nI_ge (b := 16) hi (by decide))]
        simp only [e65, g65, c65, q3, ↓reduceIte, nI_1]
        rw [a1]
        simp only [Option.bind_some]
        refine ih (i + 1) fuel al2 (by omega) (by omega) (a2.congB (fun v hv => ?_))
        simp only [upd_at]
        by_cases e : v = i
        · subst e
          simp
        · by_cases h2 : v < i
          · have h3 : v < i + 1 := by omega
            simp [e, h2, h3]
          · have h3 : ¬ v < i + 1 := by omega
            simp [e, h2, h3]
  obtain ⟨al, a1, a2⟩ := key 16 0 F all rfl (by omega) (h.congB (fun v _ => by simp))
  refine ⟨al, a1, a2.meaC (fun v hv => ?_)⟩
  unfold waM
  rw [if_pos hv, wh_DD (by omega)]
end Mod5
theorem waM_WI {n k : Nat} {col mea : Nat → Int32} (hn : n < 32) (hm : n + k ≤ 32) (hk8 : k ≤ 8) (hc : ColK n k col) (ho : ∀ c, c < k → col (n + c) = oh c) : WI n k col (waM n k col mea) := fun w hw => by
  unfold waM
  rw [if_pos hw]
  exact ⟨wh_fit hn hc, wh_sy hn hm hk8 hc ho⟩
theorem waB_AI {n k : Nat} {col stk bits mea syn tal : Nat → Int32} (hn : n < 32) (hc : ColK n k col) (hb : ∀ w, w < 16 → Fit (n + k) (bits w)) : AI n k col (waB n k col stk bits mea, waS n k col stk bits mea syn, tal) := fun w hw => by
  show Fit (n + k) (waB n k col stk bits mea w) ∧ waS n k col stk bits mea syn w = sy col (waB n k col stk bits mea w) (n + k)
  unfold waB waS
  rw [if_pos hw, if_pos hw]
  exact ⟨fit_put (hb w hw) (wh_fit hn hc), rfl⟩
