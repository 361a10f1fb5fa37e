/-! how many ones: the JDK's bitCount -/
def pcn (x : Int32) : Nat := fb_ct (fun i => bt x i) 32
def uI (x : Int32) : Nat := x.toBitVec.toNat
theorem uI_lt (x : Int32) : uI x < 4294967296 := x.toBitVec.isLt
theorem uI_inj {x y : Int32} (h : uI x = uI y) : x = y := Int32.toBitVec_inj.mp (BitVec.eq_of_toNat_eq h)
theorem uI_add (x y : Int32) : uI (x + y) = (uI x + uI y) % 4294967296 := by
  show (x + y).toBitVec.toNat = _
  rw [Int32.toBitVec_add, BitVec.toNat_add]; rfl
theorem uI_sub (x y : Int32) : uI (x - y) = (4294967296 - uI y + uI x) % 4294967296 := by
  show (x - y).toBitVec.toNat = _
  rw [Int32.toBitVec_sub, BitVec.toNat_sub]; rfl
theorem uI_and (x y : Int32) : uI (x &&& y) = uI x &&& uI y := by
  show (x &&& y).toBitVec.toNat = _
  rw [Int32.toBitVec_and, BitVec.toNat_and]; rfl
theorem uI_bt (x : Int32) (i : Nat) : bt x i = (uI x).testBit i := by
  show x.toBitVec.getLsbD i = _
  exact (BitVec.testBit_toNat x.toBitVec).symm
theorem uI_jushr (x : Int32) {k : Nat} (hk : k < 32) : uI (jushr x (nI k)) = uI x / 2 ^ k := by
  apply Nat.eq_of_testBit_eq
  intro i
  rw [← uI_bt, Nat.testBit_div_two_pow, Nat.add_comm, ← uI_bt]
  exact b_ushr k hk x i
theorem uI_nI {n : Nat} (h : n < 4294967296) : uI (nI n) = n := by
  show (Int32.ofNat n).toBitVec.toNat = n
  rw [show (Int32.ofNat n).toBitVec = BitVec.ofNat 32 n from rfl, BitVec.toNat_ofNat]
  exact Nat.mod_eq_of_lt h
theorem nI_uI (x : Int32) : nI (uI x) = x := uI_inj (uI_nI (uI_lt x))
def pop8 (v : Nat) : Nat := fb_ct (fun i => v.testBit i) 8
theorem sw_and (A B : Nat) : A &&& B = 256 * (A / 256 &&& B / 256) + (A % 256 &&& B % 256) := by
  have h1 := Nat.and_div_two_pow (a := A) (b := B) (n := 8)
  have h2 := Nat.and_mod_two_pow (a := A) (b := B) (n := 8)
  have h3 := Nat.div_add_mod (A &&& B) 256
  rw [show (2 : Nat) ^ 8 = 256 from rfl] at h1 h2
  rw [h1, h2] at h3
  exact h3.symm
theorem sw_and4 {a0 a1 a2 a3 b0 b1 b2 b3 : Nat} (h0 : a0 < 256) (h1 : a1 < 256) (h2 : a2 < 256) (h3 : a3 < 256) (k0 : b0 < 256) (k1 : b1 < 256) (k2 : b2 < 256) (k3 : b3 < 256) :
    (a0 + 256 * a1 + 65536 * a2 + 16777216 * a3) &&& (b0 + 256 * b1 + 65536 * b2 + 16777216 * b3) = (a0 &&& b0) + 256 * (a1 &&& b1) + 65536 * (a2 &&& b2) + 16777216 * (a3 &&& b3) := by
  rw [sw_and, show (a0 + 256 * a1 + 65536 * a2 + 16777216 * a3) / 256 = a1 + 256 * a2 + 65536 * a3 by omega, show (b0 + 256 * b1 + 65536 * b2 + 16777216 * b3) / 256 = b1 + 256 * b2 + 65536 * b3 by omega, show (a0 + 256 * a1 + 65536 * a2 + 16777216 * a3) % 256 = a0 by omega, show (b0 + 256 * b1 + 65536 * b2 + 16777216 * b3) % 256 = b0 by omega]
  rw [sw_and (a1 + 256 * a2 + 65536 * a3), show (a1 + 256 * a2 + 65536 * a3) / 256 = a2 + 256 * a3 by omega, show (b1 + 256 * b2 + 65536 * b3) / 256 = b2 + 256 * b3 by omega, show (a1 + 256 * a2 + 65536 * a3) % 256 = a1 by omega, show (b1 + 256 * b2 + 65536 * b3) % 256 = b1 by omega]
  rw [sw_and (a2 + 256 * a3), show (a2 + 256 * a3) / 256 = a3 by omega, show (b2 + 256 * b3) / 256 = b3 by omega, show (a2 + 256 * a3) % 256 = a2 by omega, show (b2 + 256 * b3) % 256 = b2 by omega]
  omega
theorem sw_1 : ∀ a, a < 256 → (∀ t, t < 2 → (a / 2 + 128 * t) &&& 85 = a / 2 &&& 85) ∧ (a / 2 &&& 85) ≤ a := by decide +kernel
theorem sw_2 : ∀ b, b < 256 → (∀ t, t < 4 → (b / 4 + 64 * t) &&& 51 = b / 4 &&& 51) ∧ (b &&& 51) ≤ 51 ∧ (b / 4 &&& 51) ≤ 51 := by decide +kernel
theorem sw_3 : ∀ a, a < 256 → let b := a - (a / 2 &&& 85); let c := (b &&& 51) + (b / 4 &&& 51); c % 16 ≤ 4 ∧ c / 16 ≤ 4 ∧ c % 16 + c / 16 = pop8 a := by decide +kernel
theorem sw_4 : ∀ d, d < 256 → d &&& 15 = d % 16 := by decide +kernel
theorem sw_pop8 : ∀ a, a < 256 → pop8 a ≤ 8 := by decide +kernel
theorem sw_dm (a b : Nat) (hb : 0 < b) : ∃ q r, a = b * q + r ∧ r < b ∧ a / b = q ∧ a % b = r := ⟨a / b, a % b, (Nat.div_add_mod a b).symm, Nat.mod_lt _ hb, rfl, rfl⟩
theorem sw_y1 {a0 a1 a2 a3 : Nat} (h0 : a0 < 256) (h1 : a1 < 256) (h2 : a2 < 256) (h3 : a3 < 256) {X : Nat} (hX : X = a0 + 256 * a1 + 65536 * a2 + 16777216 * a3) :
    (X / 2 &&& 1431655765) = (a0 / 2 &&& 85) + 256 * (a1 / 2 &&& 85) + 65536 * (a2 / 2 &&& 85) + 16777216 * (a3 / 2 &&& 85) := by
  have p0 := (sw_1 a0 h0).1
  have p1 := (sw_1 a1 h1).1
  have p2 := (sw_1 a2 h2).1
  have p3 := (sw_1 a3 h3).1
  obtain ⟨r0, s0, e0, l0, d0, m0⟩ := sw_dm a0 2 (by decide)
  obtain ⟨r1, s1, e1, l1, d1, m1⟩ := sw_dm a1 2 (by decide)
  obtain ⟨r2, s2, e2, l2, d2, m2⟩ := sw_dm a2 2 (by decide)
  obtain ⟨r3, s3, e3, l3, d3, m3⟩ := sw_dm a3 2 (by decide)
  rw [d0] at p0
  rw [d1] at p1
  rw [d2] at p2
  rw [d3] at p3
  rw [d0, d1, d2, d3]
  have hX2 : X / 2 = (r0 + 128 * s1) + 256 * (r1 + 128 * s2) + 65536 * (r2 + 128 * s3) + 16777216 * (r3 + 128 * 0) := by
    rw [show X = 2 * ((r0 + 128 * s1) + 256 * (r1 + 128 * s2) + 65536 * (r2 + 128 * s3) + 16777216 * (r3 + 128 * 0)) + s0 by omega]
    omega
  rw [hX2, show (1431655765 : Nat) = 85 + 256 * 85 + 65536 * 85 + 16777216 * 85 by rfl, sw_and4 (by omega) (by omega) (by omega) (by omega) (by omega) (by omega) (by omega) (by omega), p0 _ l1, p1 _ l2, p2 _ l3, p3 _ (by decide)]
theorem sw_y2 {b0 b1 b2 b3 : Nat} (g0 : b0 < 256) (g1 : b1 < 256) (g2 : b2 < 256) (g3 : b3 < 256) {Y : Nat} (hY : Y = b0 + 256 * b1 + 65536 * b2 + 16777216 * b3) :
    (Y &&& 858993459) + (Y / 4 &&& 858993459) = ((b0 &&& 51) + (b0 / 4 &&& 51)) + 256 * ((b1 &&& 51) + (b1 / 4 &&& 51)) + 65536 * ((b2 &&& 51) + (b2 / 4 &&& 51)) + 16777216 * ((b3 &&& 51) + (b3 / 4 &&& 51)) := by
  have p0 := (sw_2 b0 g0).1
  have p1 := (sw_2 b1 g1).1
  have p2 := (sw_2 b2 g2).1
  have p3 := (sw_2 b3 g3).1
  have hm3 : (Y &&& 858993459) = (b0 &&& 51) + 256 * (b1 &&& 51) + 65536 * (b2 &&& 51) + 16777216 * (b3 &&& 51) := by
    rw [hY, show (858993459 : Nat) = 51 + 256 * 51 + 65536 * 51 + 16777216 * 51 by rfl, sw_and4 g0 g1 g2 g3 (by omega) (by omega) (by omega) (by omega)]
  obtain ⟨r0, s0, e0, l0, d0, m0⟩ := sw_dm b0 4 (by decide)
  obtain ⟨r1, s1, e1, l1, d1, m1⟩ := sw_dm b1 4 (by decide)
  obtain ⟨r2, s2, e2, l2, d2, m2⟩ := sw_dm b2 4 (by decide)
  obtain ⟨r3, s3, e3, l3, d3, m3⟩ := sw_dm b3 4 (by decide)
  rw [d0] at p0
  rw [d1] at p1
  rw [d2] at p2
  rw [d3] at p3
  rw [d0, d1, d2, d3, hm3]
  have hY4 : Y / 4 = (r0 + 64 * s1) + 256 * (r1 + 64 * s2) + 65536 * (r2 + 64 * s3) + 16777216 * (r3 + 64 * 0) := by
    rw [show Y = 4 * ((r0 + 64 * s1) + 256 * (r1 + 64 * s2) + 65536 * (r2 + 64 * s3) + 16777216 * (r3 + 64 * 0)) + s0 by omega]
    omega
  rw [hY4, show (858993459 : Nat) = 51 + 256 * 51 + 65536 * 51 + 16777216 * 51 by rfl, sw_and4 (by omega) (by omega) (by omega) (by omega) (by omega) (by omega) (by omega) (by omega), p0 _ l1, p1 _ l2, p2 _ l3, p3 _ (by decide)]
  generalize (b0 &&& 51) = u0
  generalize (b1 &&& 51) = u1
  generalize (b2 &&& 51) = u2
  generalize (b3 &&& 51) = u3
  generalize (r0 &&& 51) = v0
  generalize (r1 &&& 51) = v1
  generalize (r2 &&& 51) = v2
  generalize (r3 &&& 51) = v3
  omega
theorem sw_y3 {c0 c1 c2 c3 : Nat} (x0 : c0 % 16 ≤ 4) (x1 : c1 % 16 ≤ 4) (x2 : c2 % 16 ≤ 4) (x3 : c3 % 16 ≤ 4) (y0 : c0 / 16 ≤ 4) (y1 : c1 / 16 ≤ 4) (y2 : c2 / 16 ≤ 4) (y3 : c3 / 16 ≤ 4) {Y : Nat} (hY : Y = c0 + 256 * c1 + 65536 * c2 + 16777216 * c3) :
    (Y + Y / 16) % 4294967296 &&& 252645135 = (c0 % 16 + c0 / 16) + 256 * (c1 % 16 + c1 / 16) + 65536 * (c2 % 16 + c2 / 16) + 16777216 * (c3 % 16 + c3 / 16) := by
  obtain ⟨r0, s0, e0, l0, d0, m0⟩ := sw_dm c0 16 (by decide)
  obtain ⟨r1, s1, e1, l1, d1, m1⟩ := sw_dm c1 16 (by decide)
  obtain ⟨r2, s2, e2, l2, d2, m2⟩ := sw_dm c2 16 (by decide)
  obtain ⟨r3, s3, e3, l3, d3, m3⟩ := sw_dm c3 16 (by decide)
  rw [d0] at y0
  rw [d1] at y1
  rw [d2] at y2
  rw [d3] at y3
  rw [m0] at x0
  rw [m1] at x1
  rw [m2] at x2
  rw [m3] at x3
  rw [d0, d1, d2, d3, m0, m1, m2, m3]
  have hY4 : Y / 16 = (r0 + 16 * s1) + 256 * (r1 + 16 * s2) + 65536 * (r2 + 16 * s3) + 16777216 * r3 := by
    rw [show Y = 16 * ((r0 + 16 * s1) + 256 * (r1 + 16 * s2) + 65536 * (r2 + 16 * s3) + 16777216 * r3) + s0 by omega]
    omega
  have hs : (Y + Y / 16) % 4294967296 = (s0 + r0 + 16 * (r0 + s1)) + 256 * (s1 + r1 + 16 * (r1 + s2)) + 65536 * (s2 + r2 + 16 * (r2 + s3)) + 16777216 * (s3 + r3 + 16 * r3) := by
    rw [Nat.mod_eq_of_lt (by omega), hY4]
    omega
  rw [hs, show (252645135 : Nat) = 15 + 256 * 15 + 65536 * 15 + 16777216 * 15 by rfl, sw_and4 (by omega) (by omega) (by omega) (by omega) (by omega) (by omega) (by omega) (by omega), sw_4 _ (by omega), sw_4 _ (by omega), sw_4 _ (by omega), sw_4 _ (by omega)]
  rw [show (s0 + r0 + 16 * (r0 + s1)) % 16 = s0 + r0 by omega, show (s1 + r1 + 16 * (r1 + s2)) % 16 = s1 + r1 by omega, show (s2 + r2 + 16 * (r2 + s3)) % 16 = s2 + r2 by omega, show (s3 + r3 + 16 * r3) % 16 = s3 + r3 by omega]
theorem sw_main {a0 a1 a2 a3 : Nat} (h0 : a0 < 256) (h1 : a1 < 256) (h2 : a2 < 256) (h3 : a3 < 256) {X Y1 Y2 Y3 : Nat} (hX : X = a0 + 256 * a1 + 65536 * a2 + 16777216 * a3)
    (e1 : Y1 = (4294967296 - (X / 2 &&& 1431655765) + X) % 4294967296) (e2 : Y2 = ((Y1 &&& 858993459) + (Y1 / 4 &&& 858993459)) % 4294967296) (e3 : Y3 = (Y2 + Y2 / 16) % 4294967296 &&& 252645135) :
    Y3 = pop8 a0 + 256 * pop8 a1 + 65536 * pop8 a2 + 16777216 * pop8 a3 := by
  have q0 := (sw_1 a0 h0).2
  have q1 := (sw_1 a1 h1).2
  have q2 := (sw_1 a2 h2).2
  have q3 := (sw_1 a3 h3).2
  have r0 := sw_3 a0 h0
  have r1 := sw_3 a1 h1
  have r2 := sw_3 a2 h2
  have r3 := sw_3 a3 h3
  dsimp only at r0 r1 r2 r3
  have hm := sw_y1 h0 h1 h2 h3 hX
  generalize (a0 / 2 &&& 85) = t0 at *
  generalize (a1 / 2 &&& 85) = t1 at *
  generalize (a2 / 2 &&& 85) = t2 at *
  generalize (a3 / 2 &&& 85) = t3 at *
  have hY1 : Y1 = (a0 - t0) + 256 * (a1 - t1) + 65536 * (a2 - t2) + 16777216 * (a3 - t3) := by rw [e1, hm, hX]; omega
  have g0 : a0 - t0 < 256 := by omega
  have g1 : a1 - t1 < 256 := by omega
  have g2 : a2 - t2 < 256 := by omega
  have g3 : a3 - t3 < 256 := by omega
  generalize a0 - t0 = b0 at *
  generalize a1 - t1 = b1 at *
  generalize a2 - t2 = b2 at *
  generalize a3 - t3 = b3 at *
  have hm2 := sw_y2 g0 g1 g2 g3 hY1
  have w0 := (sw_2 b0 g0).2
  have w1 := (sw_2 b1 g1).2
  have w2 := (sw_2 b2 g2).2
  have w3 := (sw_2 b3 g3).2
  have v0 : (b0 &&& 51) + (b0 / 4 &&& 51) ≤ 102 := by omega
  have v1 : (b1 &&& 51) + (b1 / 4 &&& 51) ≤ 102 := by omega
  have v2 : (b2 &&& 51) + (b2 / 4 &&& 51) ≤ 102 := by omega
  have v3 : (b3 &&& 51) + (b3 / 4 &&& 51) ≤ 102 := by omega
  generalize (b0 &&& 51) + (b0 / 4 &&& 51) = c0 at *
  generalize (b1 &&& 51) + (b1 / 4 &&& 51) = c1 at *
  generalize (b2 &&& 51) + (b2 / 4 &&& 51) = c2 at *
  generalize (b3 &&& 51) + (b3 / 4 &&& 51) = c3 at *
  have hY2 : Y2 = c0 + 256 * c1 + 65536 * c2 + 16777216 * c3 := by rw [e2, hm2]; omega
  rw [e3, sw_y3 r0.1 r1.1 r2.1 r3.1 r0.2.1 r1.2.1 r2.2.1 r3.2.1 hY2, r0.2.2, r1.2.2, r2.2.2, r3.2.2]
theorem pcn_bytes (x : Int32) : pcn x = pop8 (uI x % 256) + pop8 (uI x / 256 % 256) + pop8 (uI x / 65536 % 256) + pop8 (uI x / 16777216) := by
  have key : ∀ q, q < 4 → fb_ct (fun i => bt x (8 * q + i)) 8 = pop8 (uI x / 2 ^ (8 * q) % 256) := by
    intro q _
    refine fb_ct_cong ?_
    intro i hi
    show bt x (8 * q + i) = (uI x / 2 ^ (8 * q) % 2 ^ 8).testBit i
    rw [Nat.testBit_mod_two_pow, Nat.testBit_div_two_pow, uI_bt]
    simp [hi, Nat.add_comm]
  have h := uI_lt x
  have k0 := key 0 (by decide)
  have k1 := key 1 (by decide)
  have k2 := key 2 (by decide)
  have k3 := key 3 (by decide)
  have e : pcn x = fb_ct (fun i => bt x i) (8 + (8 + (8 + 8))) := rfl
  rw [e, fb_ct_split, fb_ct_split, fb_ct_split]
  rw [show uI x / 16777216 = uI x / 2 ^ (8 * 3) % 256 by omega, ← k3, show uI x / 65536 % 256 = uI x / 2 ^ (8 * 2) % 256 by rfl, ← k2, show uI x / 256 % 256 = uI x / 2 ^ (8 * 1) % 256 by rfl, ← k1, show uI x % 256 = uI x / 2 ^ (8 * 0) % 256 by simp, ← k0]
  have a1 : (fun i => bt x (8 * 0 + i)) = fun i => bt x i := by funext i; rw [show 8 * 0 + i = i by omega]
  have a2 : (fun k => bt x (8 + (8 + k))) = fun i => bt x (8 * 2 + i) := by funext i; rw [show 8 + (8 + i) = 8 * 2 + i by omega]
  have a3 : (fun k => bt x (8 + (8 + (8 + k)))) = fun i => bt x (8 * 3 + i) := by funext i; rw [show 8 + (8 + (8 + i)) = 8 * 3 + i by omega]
  have a4 : (fun k => bt x (8 + k)) = fun i => bt x (8 * 1 + i) := rfl
  rw [a1, a2, a3, a4]
  omega
theorem pcn_le (x : Int32) : pcn x ≤ 32 := fb_ct_le _ _
theorem sw_e4 {n0 n1 n2 n3 : Nat} (m0 : n0 ≤ 8) (m1 : n1 ≤ 8) (m2 : n2 ≤ 8) (m3 : n3 ≤ 8) : (n0 + 256 * n1 + 65536 * n2 + 16777216 * n3 + (n0 + 256 * n1 + 65536 * n2 + 16777216 * n3) / 256) % 4294967296 = (n0 + n1) + 256 * (n1 + n2) + 65536 * (n2 + n3) + 16777216 * n3 := by omega
theorem sw_e5 {n0 n1 n2 n3 : Nat} (m0 : n0 ≤ 8) (m1 : n1 ≤ 8) (m2 : n2 ≤ 8) (m3 : n3 ≤ 8) : ((n0 + n1) + 256 * (n1 + n2) + 65536 * (n2 + n3) + 16777216 * n3 + ((n0 + n1) + 256 * (n1 + n2) + 65536 * (n2 + n3) + 16777216 * n3) / 65536) % 4294967296 = (n0 + n1 + n2 + n3) + 256 * (n1 + n2 + n3) + 65536 * (n2 + n3) + 16777216 * n3 := by
  have h : ((n0 + n1) + 256 * (n1 + n2) + 65536 * (n2 + n3) + 16777216 * n3) / 65536 = (n2 + n3) + 256 * n3 := by
    rw [show (n0 + n1) + 256 * (n1 + n2) + 65536 * (n2 + n3) + 16777216 * n3 = 65536 * ((n2 + n3) + 256 * n3) + ((n0 + n1) + 256 * (n1 + n2)) by omega, Nat.mul_add_div (by decide), Nat.div_eq_of_lt (by omega)]
    rfl
  rw [h, Nat.mod_eq_of_lt (by omega)]
  omega
theorem sw_e6 {n0 n1 n2 n3 : Nat} (m0 : n0 ≤ 8) (m1 : n1 ≤ 8) (m2 : n2 ≤ 8) (m3 : n3 ≤ 8) : n0 + n1 + n2 + n3 < 4294967296 := by omega
theorem sw_e7 {n0 n1 n2 n3 : Nat} (m0 : n0 ≤ 8) (m1 : n1 ≤ 8) (m2 : n2 ≤ 8) (m3 : n3 ≤ 8) : ((n0 + n1 + n2 + n3) + 256 * (n1 + n2 + n3) + 65536 * (n2 + n3) + 16777216 * n3) % 2 ^ 6 = n0 + n1 + n2 + n3 := by
  rw [show (2 : Nat) ^ 6 = 64 from rfl]
  omega
theorem jlet_of {α β : Type} {e : α} {k : α → β} {r : β} (h : ∀ z, z = e → k z = r) : jlet e k = r := h e rfl
set_option maxHeartbeats 400000 in
theorem bitCount_eq (F : Nat) (x : Int32) : p_J6_bitCount_0f7a4 F x = some (nI (pcn x)) := by
  have hl := uI_lt x
  have m0 := sw_pop8 (uI x % 256) (by omega)
  have m1 := sw_pop8 (uI x / 256 % 256) (by omega)
  have m2 := sw_pop8 (uI x / 65536 % 256) (by omega)
  have m3 := sw_pop8 (uI x / 16777216) (by omega)
  have hX : uI x = (uI x % 256) + 256 * (uI x / 256 % 256) + 65536 * (uI x / 65536 % 256) + 16777216 * (uI x / 16777216) := by omega
  rw [pcn_bytes]
  unfold p_J6_bitCount_0f7a4
  refine jlet_of (fun z1 h1 => ?_)
  refine jlet_of (fun z2 h2 => ?_)
  refine jlet_of (fun z3 h3 => ?_)
  have e1 : uI z1 = (4294967296 - (uI x / 2 &&& 1431655765) + uI x) % 4294967296 := by
    rw [h1, uI_sub, uI_and, show uI (jushr x 1) = uI x / 2 from uI_jushr x (k := 1) (by decide)]; rfl
  have e2 : uI z2 = ((uI z1 &&& 858993459) + (uI z1 / 4 &&& 858993459)) % 4294967296 := by
    rw [h2, uI_add, uI_and, uI_and, show uI (jushr z1 2) = uI z1 / 4 from uI_jushr z1 (k := 2) (by decide)]; rfl
  have e3 : uI z3 = (uI z2 + uI z2 / 16) % 4294967296 &&& 252645135 := by
    rw [h3, uI_and, uI_add, show uI (jushr z2 4) = uI z2 / 16 from uI_jushr z2 (k := 4) (by decide)]; rfl
  have key := sw_main (a0 := uI x % 256) (a1 := uI x / 256 % 256) (a2 := uI x / 65536 % 256) (a3 := uI x / 16777216) (by omega) (by omega) (by omega) (by omega) hX e1 e2 e3
  generalize pop8 (uI x % 256) = n0 at *
  generalize pop8 (uI x / 256 % 256) = n1 at *
  generalize pop8 (uI x / 65536 % 256) = n2 at *
  generalize pop8 (uI x / 16777216) = n3 at *
  refine jlet_of (fun z4 h4 => ?_)
  have e4 : uI (z3 + jushr z3 8) = (n0 + n1) + 256 * (n1 + n2) + 65536 * (n2 + n3) + 16777216 * n3 := by
    rw [uI_add, show uI (jushr z3 8) = uI z3 / 256 from uI_jushr z3 (k := 8) (by decide), key]
    exact sw_e4 m0 m1 m2 m3
  have e5 : uI z4 = (n0 + n1 + n2 + n3) + 256 * (n1 + n2 + n3) + 65536 * (n2 + n3) + 16777216 * n3 := by
    rw [h4, uI_add, show uI (jushr (z3 + jushr z3 8) 16) = uI (z3 + jushr z3 8) / 65536 from uI_jushr _ (k := 16) (by decide), e4]
    exact sw_e5 m0 m1 m2 m3
  refine congrArg some (uI_inj ?_)
  rw [uI_nI (sw_e6 m0 m1 m2 m3), uI_and, show uI (63 : Int32) = 2 ^ 6 - 1 from rfl, Nat.and_two_pow_sub_one_eq_mod, e5]
  exact sw_e7 m0 m1 m2 m3
