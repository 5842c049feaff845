/-! ## the count of bits -/
/-- so many bytes of a mask -/
def mk (c : Nat) : Nat → Nat
  | 0 => 0
  | k + 1 => c + 256 * mk c k
theorem and_by {a b y w : Nat} (ha : a < 256) (hb : b < 256) : (a + 256 * y) &&& (b + 256 * w) = (a &&& b) + 256 * (y &&& w) := by
  have h1 : (a + 256 * y) &&& (b + 256 * w) = 256 * (((a + 256 * y) &&& (b + 256 * w)) / 2 ^ 8) + ((a + 256 * y) &&& (b + 256 * w)) % 2 ^ 8 := (Nat.div_add_mod _ (2 ^ 8)).symm
  rw [h1, Nat.and_div_two_pow, Nat.and_mod_two_pow]
  have e1 : (a + 256 * y) / 2 ^ 8 = y := by show (a + 256 * y) / 256 = y; omega
  have e2 : (b + 256 * w) / 2 ^ 8 = w := by show (b + 256 * w) / 256 = w; omega
  have e3 : (a + 256 * y) % 2 ^ 8 = a := by show (a + 256 * y) % 256 = a; omega
  have e4 : (b + 256 * w) % 2 ^ 8 = b := by show (b + 256 * w) % 256 = b; omega
  rw [e1, e2, e3, e4, Nat.add_comm]
def q1 (a : Nat) : Nat := a - (a / 2 &&& 85)
def q2 (a : Nat) : Nat := (a &&& 51) + (a / 4 &&& 51)
def q3 (a : Nat) : Nat := (a + a / 16) &&& 15
def q4 (a : Nat) : Nat := q3 (q2 (q1 a))
theorem q_all : ∀ a, a < 256 → (a / 2 &&& 85) ≤ a ∧ q2 (q1 a) < 256 ∧ q2 (q1 a) % 16 ≤ 4 ∧ q2 (q1 a) / 16 ≤ 4 ∧ q4 a = bts a 8 ∧ q1 a < 256 := by decide +kernel
theorem s_by {a y k : Nat} : a + 256 * y ≥ 0 := Nat.zero_le _
/-- the steps of the bytes, from the lowest -/
def m1 (M k : Nat) : Nat := M - (M / 2 &&& mk 85 k)
def m2 (M k : Nat) : Nat := (M &&& mk 51 k) + (M / 4 &&& mk 51 k)
def m3 (M k : Nat) : Nat := (M + M / 16) &&& mk 15 k
theorem and_lo {a b y c : Nat} (hc : c < 256) (d : Nat) (hd : (a + 256 * y) / d = a / d + 256 / d * (y % d) + 256 * (y / d)) (hlt : a / d + 256 / d * (y % d) < 256) (hm : ((a / d + 256 / d * (y % d)) &&& c) = (a / d &&& c)) : ((a + 256 * y) / d &&& (c + 256 * b)) = (a / d &&& c) + 256 * (y / d &&& b) := by
  rw [hd, and_by hlt hc, hm]
theorem hm2 : ∀ a, a < 128 → ∀ t, t < 2 → ((a + 128 * t) &&& 85) = (a &&& 85) := by decide +kernel
theorem hm4 : ∀ a, a < 64 → ∀ t, t < 4 → ((a + 64 * t) &&& 51) = (a &&& 51) := by decide +kernel
theorem hm16 : ∀ a, a < 16 → ∀ t, t < 16 → ((a + 16 * t) &&& 15) = (a &&& 15) := by decide +kernel
theorem m1_by {a y k : Nat} (ha : a < 256) : m1 (a + 256 * y) (k + 1) = q1 a + 256 * m1 y k := by
  have hq := q_all a ha
  have h1 := and_lo (a := a) (b := mk 85 k) (y := y) (c := 85) (by decide) 2 (by omega) (by omega) (hm2 _ (by omega) _ (by omega))
  have h2 : (y / 2 &&& mk 85 k) ≤ y := Nat.le_trans Nat.and_le_left (Nat.div_le_self _ _)
  show a + 256 * y - ((a + 256 * y) / 2 &&& (85 + 256 * mk 85 k)) = _
  rw [h1]
  show _ = a - (a / 2 &&& 85) + 256 * (y - (y / 2 &&& mk 85 k))
  omega
theorem m2_by {a y k : Nat} (ha : a < 256) : m2 (a + 256 * y) (k + 1) = q2 a + 256 * m2 y k := by
  have h1 := and_lo (a := a) (b := mk 51 k) (y := y) (c := 51) (by decide) 4 (by omega) (by omega) (hm4 _ (by omega) _ (by omega))
  show ((a + 256 * y) &&& (51 + 256 * mk 51 k)) + ((a + 256 * y) / 4 &&& (51 + 256 * mk 51 k)) = _
  rw [h1, and_by ha (by decide)]
  show _ = (a &&& 51) + (a / 4 &&& 51) + 256 * ((y &&& mk 51 k) + (y / 4 &&& mk 51 k))
  omega
theorem hm3 : ∀ a, a < 256 → a % 16 ≤ 4 → a / 16 ≤ 4 → ∀ t, t < 16 → a + a / 16 < 256 ∧ ((a + a / 16 + 16 * t) % 256 &&& 15) = ((a + a / 16) &&& 15) := by decide +kernel
theorem m3_by {a y k : Nat} (ha : a < 256) (h4 : a % 16 ≤ 4) (h5 : a / 16 ≤ 4) (hy : y % 16 ≤ 4) : m3 (a + 256 * y) (k + 1) = q3 a + 256 * m3 y k := by
  have h := hm3 a ha h4 h5 (y % 16) (by omega)
  show ((a + 256 * y + (a + 256 * y) / 16) &&& (15 + 256 * mk 15 k)) = _
  have e : a + 256 * y + (a + 256 * y) / 16 = (a + a / 16 + 16 * (y % 16)) + 256 * (y + y / 16) := by omega
  have e2 : (a + a / 16 + 16 * (y % 16)) < 256 := by omega
  rw [e, and_by e2 (by decide)]
  rw [Nat.mod_eq_of_lt e2] at h
  rw [h.2]
  rfl
theorem bt_by {a : Nat} (ha : a < 256) (y : Nat) : ∀ k, bts (a + 256 * y) (8 + k) = bts a 8 + bts y k
  | 0 => by
    simp only [bts, Nat.reducePow, Nat.add_zero]
    omega
  | k + 1 => by
    show bts (a + 256 * y) (8 + k) + (a + 256 * y) / 2 ^ (8 + k) % 2 = bts a 8 + (bts y k + y / 2 ^ k % 2)
    rw [bt_by ha y k, Nat.pow_add, ← Nat.div_div_eq_div_mul]
    have e1 : (a + 256 * y) / 2 ^ 8 = y := by show (a + 256 * y) / 256 = y; omega
    rw [e1]
    omega
/-- the three steps, and the bytes they leave -/
def mq (M k : Nat) : Nat := m3 (m2 (m1 M k) k) k
theorem m21_16 {M : Nat} : ∀ k, M < 256 ^ k → m2 (m1 M k) k % 16 ≤ 4
  | 0, h => by
    have : M = 0 := by simpa using h
    subst this
    decide
  | k + 1, h => by
    have e : M = M % 256 + 256 * (M / 256) := by omega
    have hq := q_all (M % 256) (by omega)
    rw [e, m1_by (by omega), m2_by hq.2.2.2.2.2]
    omega
theorem mq_by {a y k : Nat} (ha : a < 256) (hy : y < 256 ^ k) : mq (a + 256 * y) (k + 1) = bts a 8 + 256 * mq y k := by
  have hq := q_all a ha
  unfold mq
  rw [m1_by ha, m2_by hq.2.2.2.2.2, m3_by hq.2.1 hq.2.2.1 hq.2.2.2.1 (m21_16 k hy)]
  rw [← hq.2.2.2.2.1]
  rfl
theorem t6 {p0 p1 p2 p3 p4 p5 p6 p7 : Nat} : (p0 + p1 + p2 + p3) + 256 * ((p1 + p2 + p3 + p4) + 256 * ((p2 + p3 + p4 + p5) + 256 * ((p3 + p4 + p5 + p6) + 256 * ((p4 + p5 + p6 + p7) + 256 * ((p5 + p6 + p7) + 256 * ((p6 + p7) + 256 * p7)))))) + ((p4 + p5 + p6 + p7) + 256 * ((p5 + p6 + p7) + 256 * ((p6 + p7) + 256 * p7))) = (p0 + p1 + p2 + p3 + p4 + p5 + p6 + p7) + 256 * (((p1 + p2 + p3 + p4) + (p5 + p6 + p7)) + 256 * (((p2 + p3 + p4 + p5) + (p6 + p7)) + 256 * (((p3 + p4 + p5 + p6) + p7) + 256 * ((p4 + p5 + p6 + p7) + 256 * ((p5 + p6 + p7) + 256 * ((p6 + p7) + 256 * p7)))))) := by omega
theorem t7 (s X : Nat) (h : s ≤ 64) : (s + 256 * X) % 128 = s := by omega
theorem t8 (s X B : Nat) (h : s < 256) (hX : X < B) : s + 256 * X < 256 * B := by omega
theorem t9 {a X : Nat} (h : a < 256) : (a + 256 * X) / 256 = X := by omega
theorem t10 {a b X : Nat} (h : a < 256) (hb : b < 256) : (a + 256 * (b + 256 * X)) / 65536 = X := by omega
theorem t11 {a b c d X : Nat} (h : a < 256) (hb : b < 256) (hc : c < 256) (hd : d < 256) : (a + 256 * (b + 256 * (c + 256 * (d + 256 * X)))) / 4294967296 = X := by omega
/-- eight small bytes are added up -/
theorem sum8 {p0 p1 p2 p3 p4 p5 p6 p7 M : Nat} (h0 : p0 ≤ 8) (h1 : p1 ≤ 8) (h2 : p2 ≤ 8) (h3 : p3 ≤ 8) (h4 : p4 ≤ 8) (h5 : p5 ≤ 8) (h6 : p6 ≤ 8) (h7 : p7 ≤ 8) (hM : M = p0 + 256 * (p1 + 256 * (p2 + 256 * (p3 + 256 * (p4 + 256 * (p5 + 256 * (p6 + 256 * p7))))))) : ((M + M / 256 + (M + M / 256) / 65536 + (M + M / 256 + (M + M / 256) / 65536) / 4294967296) % 128 = p0 + p1 + p2 + p3 + p4 + p5 + p6 + p7) ∧ M + M / 256 + (M + M / 256) / 65536 + (M + M / 256 + (M + M / 256) / 65536) / 4294967296 < 2 ^ 63 := by
  have e1 : M / 256 = p1 + 256 * (p2 + 256 * (p3 + 256 * (p4 + 256 * (p5 + 256 * (p6 + 256 * p7))))) := by rw [hM]; exact t9 (by omega)
  have e2 : M + M / 256 = (p0 + p1) + 256 * ((p1 + p2) + 256 * ((p2 + p3) + 256 * ((p3 + p4) + 256 * ((p4 + p5) + 256 * ((p5 + p6) + 256 * ((p6 + p7) + 256 * p7)))))) := by rw [e1, hM]; clear e1 hM h0 h1 h2 h3 h4 h5 h6 h7; omega
  clear hM e1
  generalize M + M / 256 = T at *
  have e3 : T / 65536 = (p2 + p3) + 256 * ((p3 + p4) + 256 * ((p4 + p5) + 256 * ((p5 + p6) + 256 * ((p6 + p7) + 256 * p7)))) := by rw [e2]; exact t10 (by omega) (by omega)
  have e4 : T + T / 65536 = (p0 + p1 + p2 + p3) + 256 * ((p1 + p2 + p3 + p4) + 256 * ((p2 + p3 + p4 + p5) + 256 * ((p3 + p4 + p5 + p6) + 256 * ((p4 + p5 + p6 + p7) + 256 * ((p5 + p6 + p7) + 256 * ((p6 + p7) + 256 * p7)))))) := by rw [e3, e2]; clear e2 e3 h0 h1 h2 h3 h4 h5 h6 h7; omega
  clear e2 e3
  generalize T + T / 65536 = V at *
  have e5 : V / 4294967296 = (p4 + p5 + p6 + p7) + 256 * ((p5 + p6 + p7) + 256 * ((p6 + p7) + 256 * p7)) := by rw [e4]; exact t11 (by omega) (by omega) (by omega) (by omega)
  have e6 : V + V / 4294967296 = (p0 + p1 + p2 + p3 + p4 + p5 + p6 + p7) + 256 * (((p1 + p2 + p3 + p4) + (p5 + p6 + p7)) + 256 * (((p2 + p3 + p4 + p5) + (p6 + p7)) + 256 * (((p3 + p4 + p5 + p6) + p7) + 256 * ((p4 + p5 + p6 + p7) + 256 * ((p5 + p6 + p7) + 256 * ((p6 + p7) + 256 * p7)))))) := by rw [e5, e4]; exact t6
  rw [e6]
  clear e4 e5 e6
  refine ⟨t7 _ _ (by omega), Nat.lt_of_lt_of_le (t8 _ _ (256 * (256 * (256 * (256 * (256 * (256 * 9)))))) (by omega) (t8 _ _ _ (by omega) (t8 _ _ _ (by omega) (t8 _ _ _ (by omega) (t8 _ _ _ (by omega) (t8 _ _ _ (by omega) (t8 _ _ _ (by omega) ?_))))))) (by decide)⟩
  omega
theorem mq_bts {k : Nat} : ∀ {y : Nat}, y < 256 ^ (k + 1) → ∃ a w, a < 256 ∧ w < 256 ^ k ∧ y = a + 256 * w := by
  intro y h
  rw [Nat.pow_succ] at h
  exact ⟨y % 256, y / 256, by omega, by omega, by omega⟩
theorem bts_8 (a : Nat) : bts a 8 ≤ 8 := bts_le a 8
/-- the count, over numbers -/
theorem bits_sum {M : Nat} (h : M < 256 ^ 8) : (mq M 8 + mq M 8 / 256 + (mq M 8 + mq M 8 / 256) / 65536 + (mq M 8 + mq M 8 / 256 + (mq M 8 + mq M 8 / 256) / 65536) / 4294967296) % 128 = bts M 64 ∧ mq M 8 + mq M 8 / 256 + (mq M 8 + mq M 8 / 256) / 65536 + (mq M 8 + mq M 8 / 256 + (mq M 8 + mq M 8 / 256) / 65536) / 4294967296 < 2 ^ 63 := by
  obtain ⟨a0, w0, h0, v0, rfl⟩ := mq_bts h
  obtain ⟨a1, w1, h1, v1, rfl⟩ := mq_bts v0
  obtain ⟨a2, w2, h2, v2, rfl⟩ := mq_bts v1
  obtain ⟨a3, w3, h3, v3, rfl⟩ := mq_bts v2
  obtain ⟨a4, w4, h4, v4, rfl⟩ := mq_bts v3
  obtain ⟨a5, w5, h5, v5, rfl⟩ := mq_bts v4
  obtain ⟨a6, w6, h6, v6, rfl⟩ := mq_bts v5
  obtain ⟨a7, w7, h7, v7, rfl⟩ := mq_bts v6
  have hw : w7 = 0 := by simpa using v7
  subst hw
  have e0 : mq 0 0 = 0 := by decide
  have e : mq (a0 + 256 * (a1 + 256 * (a2 + 256 * (a3 + 256 * (a4 + 256 * (a5 + 256 * (a6 + 256 * (a7 + 256 * 0)))))))) 8 = bts a0 8 + 256 * (bts a1 8 + 256 * (bts a2 8 + 256 * (bts a3 8 + 256 * (bts a4 8 + 256 * (bts a5 8 + 256 * (bts a6 8 + 256 * bts a7 8)))))) := by
    rw [mq_by h0 v0, mq_by h1 v1, mq_by h2 v2, mq_by h3 v3, mq_by h4 v4, mq_by h5 v5, mq_by h6 v6, mq_by h7 v7, e0, Nat.mul_zero, Nat.add_zero]
  have hb : bts (a0 + 256 * (a1 + 256 * (a2 + 256 * (a3 + 256 * (a4 + 256 * (a5 + 256 * (a6 + 256 * (a7 + 256 * 0)))))))) 64 = bts a0 8 + bts a1 8 + bts a2 8 + bts a3 8 + bts a4 8 + bts a5 8 + bts a6 8 + bts a7 8 := by
    rw [bt_by h0 _ 56, bt_by h1 _ 48, bt_by h2 _ 40, bt_by h3 _ 32, bt_by h4 _ 24, bt_by h5 _ 16, bt_by h6 _ 8, bt_by h7 _ 0]
    show bts a0 8 + (bts a1 8 + (bts a2 8 + (bts a3 8 + (bts a4 8 + (bts a5 8 + (bts a6 8 + (bts a7 8 + 0))))))) = _
    omega
  have := sum8 (bts_8 a0) (bts_8 a1) (bts_8 a2) (bts_8 a3) (bts_8 a4) (bts_8 a5) (bts_8 a6) (bts_8 a7) e
  rw [hb]
  exact this
theorem ush_l {n k : Nat} (hn : n < 2 ^ 64) (hk : k < 64) : ush (lN n) k = lN (n / 2 ^ k) := wb_shr hn hk
theorem l_sub {a b : Nat} (h : b ≤ a) : lN a - lN b = lN (a - b) := by
  apply wb_inj
  rw [Int64.toBitVec_sub, wb_tb, wb_tb, wb_tb]
  apply BitVec.eq_of_toNat_eq
  rw [BitVec.toNat_sub, BitVec.toNat_ofNat, BitVec.toNat_ofNat, BitVec.toNat_ofNat]
  omega
theorem l_add (a b : Nat) : lN a + lN b = lN (a + b) := by
  apply wb_inj
  rw [Int64.toBitVec_add, wb_tb, wb_tb, wb_tb]
  apply BitVec.eq_of_toNat_eq
  rw [BitVec.toNat_add, BitVec.toNat_ofNat, BitVec.toNat_ofNat, BitVec.toNat_ofNat]
  omega
theorem q12_8 (M : Nat) : m1 M 8 = M - (M / 2 ^ 1 &&& 6148914691236517205) ∧ m2 M 8 = (M &&& 3689348814741910323) + (M / 2 ^ 2 &&& 3689348814741910323) ∧ m3 M 8 = (M + M / 2 ^ 4) &&& 1085102592571150095 := ⟨rfl, rfl, rfl⟩
theorem bc1_l {M : Nat} (h : M < 2 ^ 64) : bc1 (lN M) = lN (m1 M 8) := by
  have hle : (M / 2 ^ 1 &&& 6148914691236517205) ≤ M := Nat.le_trans Nat.and_le_left (Nat.div_le_self _ _)
  rw [(q12_8 M).1, bc1, ush_l h (by decide), show (6148914691236517205 : Int64) = lN 6148914691236517205 from rfl, wb_and (by omega) (by decide), l_sub hle]
theorem bc2_l {M : Nat} (h : M < 2 ^ 64) : bc2 (lN M) = lN (m2 M 8) := by
  rw [(q12_8 M).2.1, bc2, ush_l h (by decide), show (3689348814741910323 : Int64) = lN 3689348814741910323 from rfl, wb_and (by omega) (by decide), wb_and (by omega) (by decide), l_add]
theorem bc3_l {M : Nat} (h : M + M / 2 ^ 4 < 2 ^ 64) : bc3 (lN M) = lN (m3 M 8) := by
  rw [(q12_8 M).2.2, bc3, ush_l (by omega) (by decide), show (1085102592571150095 : Int64) = lN 1085102592571150095 from rfl, l_add, wb_and h (by decide)]
theorem bc4_l {M k : Nat} (h : M < 2 ^ 64) (hk : k < 64) : bc4 k (lN M) = lN (M + M / 2 ^ k) := by
  rw [bc4, ush_l h hk, l_add]
theorem m2_lt (M : Nat) : m2 M 8 ≤ 2 * 3689348814741910323 := by
  rw [(q12_8 M).2.1]
  have h1 : M &&& 3689348814741910323 ≤ 3689348814741910323 := Nat.and_le_right
  have h2 : M / 2 ^ 2 &&& 3689348814741910323 ≤ 3689348814741910323 := Nat.and_le_right
  omega
theorem m3_lt (M : Nat) : m3 M 8 ≤ 1085102592571150095 := by
  rw [(q12_8 M).2.2]
  exact Nat.and_le_right
theorem l2i_l (n : Nat) : (lN n).toInt32 = nI n := by
  apply Int32.toBitVec_inj.mp
  show (BitVec.ofNat 64 n).signExtend 32 = BitVec.ofNat 32 n
  rw [BitVec.signExtend_eq_setWidth_of_le _ (by decide)]
  apply BitVec.eq_of_toNat_eq
  rw [BitVec.toNat_setWidth, BitVec.toNat_ofNat, BitVec.toNat_ofNat]
  omega
theorem i_127 (n : Nat) : nI n &&& nI 127 = nI (n % 128) := by
  apply Int32.toBitVec_inj.mp
  rw [Int32.toBitVec_and]
  show BitVec.ofNat 32 n &&& BitVec.ofNat 32 127 = BitVec.ofNat 32 (n % 128)
  apply BitVec.eq_of_toNat_eq
  rw [BitVec.toNat_and, BitVec.toNat_ofNat, BitVec.toNat_ofNat, BitVec.toNat_ofNat]
  have e : 127 % 2 ^ 32 = 2 ^ 7 - 1 := by decide
  rw [e, Nat.and_two_pow_sub_one_eq_mod]
  omega
theorem bcF_l {M : Nat} (h : M < 2 ^ 64) : bcF (lN M) = nI (bts M 64) := by
  have hs := bits_sum (M := M) (by simpa using h)
  have h1 : m1 M 8 < 2 ^ 64 := Nat.lt_of_le_of_lt (Nat.sub_le _ _) h
  have h2 := m2_lt (m1 M 8)
  have h3 := m3_lt (m2 (m1 M 8) 8)
  rw [bcF, bc1_l h, bc2_l h1, bc3_l (by omega)]
  change (bc4 32 (bc4 16 (bc4 8 (lN (mq M 8))))).toInt32 &&& nI 127 = _
  have h3 : mq M 8 ≤ 1085102592571150095 := h3
  generalize mq M 8 = V at *
  rw [bc4_l (by omega) (by decide), bc4_l (by omega) (by decide), bc4_l (by omega) (by decide), l2i_l, i_127]
  exact congrArg nI hs.1
/-- what `countBelow` answers is what the reference counts -/
theorem cb_qt {u : WH} {lou D S : Fn} {n : Nat} {c g : Int32} (h : ag u (vM lou D S n c g)) (hn : n ≤ 63) (hw : whp n (wL u) (wS u)) (kb : Nat) : bcF (lN (mskF (wS u) (wL u) (lou kb) n)) = qtF lou D kb n := by
  have h1 := smF_lt (wL u) (lou kb) n
  have h2 : 2 ^ n ≤ 2 ^ 63 := Nat.pow_le_pow_right (by decide) hn
  rw [msk_sm hw n (Nat.le_refl _), bcF_l (by omega), qt_sm h kb n (Nat.le_refl _)]
  have := bts_big h1 (64 - n)
  rw [show n + (64 - n) = 64 by omega] at this
  rw [this]
