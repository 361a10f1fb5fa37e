/-! words of the class: what its methods do to them -/
def DD (n : Nat) (x : Int32) : Int32 := x &&& mk n
def CC (n : Nat) (x : Int32) : Int32 := jushr x (nI n)
theorem bt_DD {n : Nat} (hn : n < 32) (x : Int32) (i : Nat) : bt (DD n x) i = (bt x i && decide (i < n)) := by rw [DD, b_and, bt_mk hn]
theorem bt_CC {n : Nat} (hn : n < 32) (x : Int32) (i : Nat) : bt (CC n x) i = bt x (n + i) := b_ushr n hn x i
/-- no bit from m on -/
def Fit (m : Nat) (x : Int32) : Prop := ∀ i, m ≤ i → bt x i = false
def whI (n k : Nat) (col : Nat → Int32) (x : Int32) : Int32 := (x &&& mk n) ||| (sy col (x &&& mk n) (n + k) <<< (nI n &&& 31))
theorem X1_mask {F n : Nat} (hn : n < 31) : p_X1_dataMask F (nI n) = some (mk n) := by
  unfold p_X1_dataMask
  rw [mk_eq n hn]
theorem X1_whole {F n k : Nat} {col : Nat → Int32} {x : Int32} (hF : 40 < F) (hn : n < 31) (hm : n + k ≤ 32) : p_X1_wholeOf F (nI n) (nI k) col x = some (whI n k col x) := by
  unfold p_X1_wholeOf
  rw [X1_mask hn]
  show (p_X1_syndromeOf F (nI n) (nI k) col (x &&& mk n)).bind _ = _
  rw [X1_synd hF hm]
  rfl
def putB (stk x y : Int32) : Int32 := (y &&& (stk ^^^ (-1))) ||| (x &&& stk)
theorem X9_put {F n k w : Nat} {col bits stk syn : Nat → Int32} {y : Int32} (hF : 40 < F) (hm : n + k ≤ 32) (hw : w < 16) : p_X9_putBits F bits stk syn (nI n) (nI k) col (nI w) y = some (upd bits w (putB (stk w) (bits w) y), upd syn w (sy col (putB (stk w) (bits w) y) (n + k))) := by
  have g : ¬ ixBad (nI w) 16 := ixg hw (by decide)
  have c : (nI w).toNatClampNeg = w := nI_clamp (by omega)
  unfold p_X9_putBits
  simp only [g, c, ↓reduceIte]
  rw [show upd bits w ((y &&& (stk w ^^^ -1)) ||| bits w &&& stk w) w = putB (stk w) (bits w) y by rw [upd_at, if_pos rfl]; rfl, X1_synd hF hm]
  rfl
theorem X9_writeMeant {F n k w : Nat} {col bits mea stk syn : Nat → Int32} {y : Int32} (hF : 40 < F) (hn : n < 31) (hm : n + k ≤ 32) (hw : w < 16) :
    p_X9_writeMeant F bits mea stk syn (nI n) (nI k) col (nI w) y = some (upd bits w (putB (stk w) (bits w) (whI n k col y)), upd mea w (whI n k col y), upd syn w (sy col (putB (stk w) (bits w) (whI n k col y)) (n + k))) := by
  have g : ¬ ixBad (nI w) 16 := ixg hw (by decide)
  have c : (nI w).toNatClampNeg = w := nI_clamp (by omega)
  unfold p_X9_writeMeant
  rw [X1_whole hF hn hm]
  simp only [Option.bind_some, g, c, ↓reduceIte]
  rw [show upd mea w (whI n k col y) w = whI n k col y by rw [upd_at, if_pos rfl], X9_put hF hm hw]
  rfl
/-- all words that are not done yet are as they were -/
def wrAll (n k : Nat) (col stk : Nat → Int32) (i : Nat) (z : (Nat → Int32) × (Nat → Int32) × (Nat → Int32)) : (Nat → Int32) × (Nat → Int32) × (Nat → Int32) :=
  (upd z.1 i (putB (stk i) (z.1 i) (whI n k col (z.2.1 i))), upd z.2.1 i (whI n k col (z.2.1 i)), upd z.2.2 i (sy col (putB (stk i) (z.1 i) (whI n k col (z.2.1 i))) (n + k)))
theorem X9_writeAll {F n k : Nat} {col bits mea stk syn : Nat → Int32} (hF : 40 < F) (hn : n < 31) (hm : n + k ≤ 32) :
    p_X9_writeAllAnew F bits mea stk syn (nI n) (nI k) col = some (fo (wrAll n k col stk) 16 0 (bits, mea, syn)) := by
  refine fold_loop (fun fuel (z : (Nat → Int32) × (Nat → Int32) × (Nat → Int32)) i => p_X9_writeAllAnew_L2 F stk (nI n) (nI k) col fuel i z.1 z.2.1 z.2.2) some (wrAll n k col stk) (fun _ _ => True) 16 (fun fuel i z hi _ => ?_) (fun fuel z _ => ?_) (fun _ _ _ _ => trivial) 16 0 F (bits, mea, syn) rfl (by omega) trivial
  · show p_X9_writeAllAnew_L2b F stk (nI n) (nI k) col _ (nI i) z.1 z.2.1 z.2.2 = _
    have g : ¬ ixBad (nI i) 16 := ixg hi (by decide)
    have c : (nI i).toNatClampNeg = i := nI_clamp (by omega)
    unfold p_X9_writeAllAnew_L2b
    rw [if_neg (show ¬ (16 : Int32) ≤ nI i from nI_ge (b := 16) hi (by decide))]
    simp only [g, c, ↓reduceIte]
    rw [X9_writeMeant hF hn hm hi, nI_1]
    rfl
  · show p_X9_writeAllAnew_L2b F stk (nI n) (nI k) col _ (nI 16) z.1 z.2.1 z.2.2 = _
    unfold p_X9_writeAllAnew_L2b
    rw [if_pos (by decide)]
/-- a fold that writes at i alone what it reads at i alone, is done place by place -/
theorem fo_upd3 {g : Nat → Int32 → Int32 → Int32 → Int32 × Int32 × Int32} {f : Nat → (Nat → Int32) × (Nat → Int32) × (Nat → Int32) → (Nat → Int32) × (Nat → Int32) × (Nat → Int32)}
    (hf : ∀ i z, f i z = (upd z.1 i (g i (z.1 i) (z.2.1 i) (z.2.2 i)).1, upd z.2.1 i (g i (z.1 i) (z.2.1 i) (z.2.2 i)).2.1, upd z.2.2 i (g i (z.1 i) (z.2.1 i) (z.2.2 i)).2.2)) (z : (Nat → Int32) × (Nat → Int32) × (Nat → Int32)) :
    ∀ d, fo f d 0 z = ((fun j => if j < d then (g j (z.1 j) (z.2.1 j) (z.2.2 j)).1 else z.1 j), (fun j => if j < d then (g j (z.1 j) (z.2.1 j) (z.2.2 j)).2.1 else z.2.1 j), (fun j => if j < d then (g j (z.1 j) (z.2.1 j) (z.2.2 j)).2.2 else z.2.2 j))
  | 0 => rfl
  | d + 1 => by
    rw [fo_succ, fo_upd3 hf z d, hf]
    simp only [Nat.zero_add, Nat.lt_irrefl, ↓reduceIte]
    refine Prod.ext ?_ (Prod.ext ?_ ?_) <;>
    · funext j
      simp only [upd_at]
      by_cases h : j = d
      · subst h; simp
      · by_cases h2 : j < d
        · have h3 : j < d + 1 := by omega
          simp [h, h2, h3]
        · have h3 : ¬ j < d + 1 := by omega
          simp [h, h2, h3]
def turnM (stk mask : Int32) : Int32 := mask &&& (stk ^^^ (-1))
theorem upd_same {f : Nat → Int32} {i : Nat} : upd f i (f i) = f := by
  funext j
  rw [upd_at]
  by_cases h : j = i
  · rw [if_pos h, h]
  · rw [if_neg h]
theorem X9_turn {F n k w : Nat} {col bits stk syn : Nat → Int32} {mask : Int32} (hF : 40 < F) (hm : n + k ≤ 32) (hw : w < 16) :
    p_X9_turnPlaces F bits stk syn (nI n) (nI k) col (nI w) mask = some (nI (pcn (turnM (stk w) mask)), upd bits w (bits w ^^^ turnM (stk w) mask), upd syn w (syn w ^^^ sy col (turnM (stk w) mask) (n + k))) := by
  have g : ¬ ixBad (nI w) 16 := ixg hw (by decide)
  have c : (nI w).toNatClampNeg = w := nI_clamp (by omega)
  unfold p_X9_turnPlaces p_X9_turnPlaces_J43
  simp only [g, c, ↓reduceIte]
  refine jlet_of (fun z hz => ?_)
  have hz : z = turnM (stk w) mask := hz
  rw [bitCount_eq, X1_synd hF hm]
  simp only [Option.bind_some]
  rw [hz]
  by_cases h : turnM (stk w) mask = 0
  · rw [if_pos h, h, sy_zero col (fun p _ => b_0 p), xo_zero, xo_zero, upd_same, upd_same]
  · rw [if_neg h]
theorem X9_slip {F n k w : Nat} {col bits stk syn tal : Nat → Int32} {mask : Int32} (hF : 40 < F) (hm : n + k ≤ 32) (hw : w < 16) :
    p_X9_slipPlaces F bits stk syn tal (nI n) (nI k) col (nI w) mask = some (upd bits w (bits w ^^^ turnM (stk w) mask), upd syn w (syn w ^^^ sy col (turnM (stk w) mask) (n + k)), upd tal 7 (tal 7 + nI (pcn (turnM (stk w) mask)))) := by
  unfold p_X9_slipPlaces
  rw [X9_turn hF hm hw]
  rfl
def told (kd : Int32) : Prop := kd = 3 ∨ kd = 4
theorem X2_told (F : Nat) (kd : Int32) : p_X2_isTold F kd = some (if kd = 3 ∨ kd = 4 then 1 else 0) := by
  unfold p_X2_isTold
  by_cases h1 : kd = 3
  · simp [h1]
  · by_cases h2 : kd = 4
    · simp [h2]
    · simp [h1, h2]
def jdS (kd tu off : Int32) : Int32 := if kd = 3 ∨ kd = 4 then 1 else if tu = off then 0 else 2
theorem X2_judge (F : Nat) (kd tu off : Int32) : p_X2_judge F kd tu off = some (jdS kd tu off) := by
  unfold p_X2_judge
  rw [X2_told]
  simp only [Option.bind_some, jdS]
  by_cases h : kd = 3 ∨ kd = 4
  · rw [if_pos h, if_pos h, if_neg (by decide)]
  · rw [if_neg h, if_neg h, if_pos rfl]
    by_cases h2 : tu = off
    · rw [if_pos h2, if_pos h2]
    · rw [if_neg h2, if_neg h2]
def tl1 (tal : Nat → Int32) (kd tu off : Int32) : Nat → Int32 :=
  if jdS kd tu off = 2 then upd (upd tal kd.toNatClampNeg (tal kd.toNatClampNeg + 1)) 6 (upd tal kd.toNatClampNeg (tal kd.toNatClampNeg + 1) 6 + 1) else upd tal kd.toNatClampNeg (tal kd.toNatClampNeg + 1)
theorem X9_countReading {F w : Nat} {bits mea tal : Nat → Int32} {kd tu : Int32} (hw : w < 16) (hk : ¬ ixBad kd 8) : p_X9_countReading F bits mea tal kd tu (nI w) = some (tl1 tal kd tu (bits w ^^^ mea w)) := by
  have g : ¬ ixBad (nI w) 16 := ixg hw (by decide)
  have c : (nI w).toNatClampNeg = w := nI_clamp (by omega)
  unfold p_X9_countReading
  simp only [g, hk, c, ↓reduceIte, X2_judge, Option.bind_some]
  unfold tl1
  by_cases h : jdS kd tu (bits w ^^^ mea w) = 2
  · rw [if_pos h, if_pos h]; rfl
  · rw [if_neg h, if_neg h]
theorem X9_countClean {F w : Nat} {bits mea tal : Nat → Int32} (hw : w < 16) : p_X9_countClean F bits mea tal (nI w) = some (tl1 tal 0 0 (bits w ^^^ mea w)) := by
  have g : ¬ ixBad (nI w) 16 := ixg hw (by decide)
  have c : (nI w).toNatClampNeg = w := nI_clamp (by omega)
  unfold p_X9_countClean
  simp only [g, c, ↓reduceIte]
  unfold tl1 jdS
  have h0 : (0 : Int32).toNatClampNeg = 0 := rfl
  have h6 : (6 : Int32).toNatClampNeg = 6 := rfl
  have hn : ¬ ((0 : Int32) = 3 ∨ (0 : Int32) = 4) := by decide
  simp only [h0, h6, hn, ↓reduceIte]
  by_cases h : bits w = mea w
  · have : (0 : Int32) = bits w ^^^ mea w := (xo_eq0.mpr h).symm
    rw [if_pos h, if_pos this, if_neg (by decide)]
  · have : ¬ (0 : Int32) = bits w ^^^ mea w := fun e => h (xo_eq0.mp e.symm)
    rw [if_neg h, if_neg this, if_pos rfl]
/-- the kinds -/
theorem rdS_kind (col : Nat → Int32) (m : Nat) (pr s a b : Int32) : ∃ q, q < 6 ∧ (rdS col m pr s a b).1 = nI q := by
  unfold rdS
  repeat' split
  all_goals first | exact ⟨0, by decide, rfl⟩ | exact ⟨1, by decide, rfl⟩ | exact ⟨2, by decide, rfl⟩ | exact ⟨3, by decide, rfl⟩ | exact ⟨4, by decide, rfl⟩ | exact ⟨5, by decide, rfl⟩ | skip
  all_goals (dsimp only; first | exact ⟨3, by decide, rfl⟩ | exact ⟨4, by decide, rfl⟩)
