/-! ===== how many bits: the JDK's sums of halves ===== -/
def pw_mk (b : Nat) : Nat → Nat
  | 0 => 0
  | k + 1 => 256 * pw_mk b k + b
theorem pw_and {q r M b : Nat} (hr : r < 256) (hb : b < 256) : (256 * q + r) &&& (256 * M + b) = 256 * (q &&& M) + (r &&& b) := by
  have h1 : ((256 * q + r) &&& (256 * M + b)) / 2 ^ 8 = (q &&& M) := by
    rw [Nat.and_div_two_pow, show (256 * q + r) / 2 ^ 8 = q by omega, show (256 * M + b) / 2 ^ 8 = M by omega]
  have h2 : ((256 * q + r) &&& (256 * M + b)) % 2 ^ 8 = (r &&& b) := by
    rw [Nat.and_mod_two_pow, show (256 * q + r) % 2 ^ 8 = r by omega, show (256 * M + b) % 2 ^ 8 = b by omega]
  omega
def pw_1 (k n : Nat) : Nat := n - ((n / 2) &&& pw_mk 85 k)
def pw_2 (k n : Nat) : Nat := (n &&& pw_mk 51 k) + ((n / 4) &&& pw_mk 51 k)
def pw_3 (k n : Nat) : Nat := (n + n / 16) &&& pw_mk 15 k
theorem pw_d1 : ∀ r, r < 256 → ∀ b, b < 2 → (r / 2 + 128 * b) &&& 85 = (r / 2) &&& 85 := by decide +kernel
theorem pw_d2 : ∀ r, r < 256 → ∀ b, b < 4 → (r / 4 + 64 * b) &&& 51 = (r / 4) &&& 51 := by decide +kernel
theorem pw_d3 : ∀ r, r < 69 → ∀ b, b < 5 → (r + r / 16 + 16 * b) &&& 15 = (r + r / 16) &&& 15 := by decide +kernel
def pw_a (r : Nat) : Nat := r - ((r / 2) &&& 85)
def pw_b (r : Nat) : Nat := (r &&& 51) + ((r / 4) &&& 51)
def pw_c (r : Nat) : Nat := (r + r / 16) &&& 15
theorem pw_d4 : ∀ r, r < 256 → pw_a r < 256 ∧ pw_b (pw_a r) < 69 ∧ pw_b (pw_a r) % 16 < 5 ∧ pw_c (pw_b (pw_a r)) = fb_ct (fun i => r.testBit i) 8 := by decide +kernel
theorem pw_1s {k q r : Nat} (hr : r < 256) : pw_1 (k + 1) (256 * q + r) = 256 * pw_1 k q + pw_a r := by
  unfold pw_1 pw_a
  show (256 * q + r) - ((256 * q + r) / 2 &&& (256 * pw_mk 85 k + 85)) = _
  rw [show (256 * q + r) / 2 = 256 * (q / 2) + (r / 2 + 128 * (q % 2)) by omega, pw_and (by omega) (by omega), pw_d1 r hr (q % 2) (by omega)]
  have h1 : (q / 2 &&& pw_mk 85 k) ≤ q / 2 := Nat.and_le_left
  have h2 : (r / 2 &&& 85) ≤ r / 2 := Nat.and_le_left
  omega
theorem pw_2s {k q r : Nat} (hr : r < 256) : pw_2 (k + 1) (256 * q + r) = 256 * pw_2 k q + pw_b r := by
  unfold pw_2 pw_b
  show (256 * q + r &&& (256 * pw_mk 51 k + 51)) + ((256 * q + r) / 4 &&& (256 * pw_mk 51 k + 51)) = _
  rw [show (256 * q + r) / 4 = 256 * (q / 4) + (r / 4 + 64 * (q % 4)) by omega, pw_and (by omega) (by omega), pw_and (by omega) (by omega), pw_d2 r hr (q % 4) (by omega)]
  omega
theorem pw_3s {k q r : Nat} (hr : r < 69) (hq : q % 16 < 5) : pw_3 (k + 1) (256 * q + r) = 256 * pw_3 k q + pw_c r := by
  unfold pw_3 pw_c
  show (256 * q + r + (256 * q + r) / 16) &&& (256 * pw_mk 15 k + 15) = _
  rw [show 256 * q + r + (256 * q + r) / 16 = 256 * (q + q / 16) + (r + r / 16 + 16 * (q % 16)) by omega, pw_and (by omega) (by omega), pw_d3 r hr (q % 16) hq]
def pw_F (k n : Nat) : Nat := pw_3 k (pw_2 k (pw_1 k n))
theorem pw_nib (k n : Nat) : pw_2 k (pw_1 k n) % 16 < 5 := by
  cases k with
  | zero => show ((pw_1 0 n &&& 0) + (pw_1 0 n / 4 &&& 0)) % 16 < 5; simp
  | succ k =>
    have h := pw_d4 (n % 256) (Nat.mod_lt _ (by decide))
    rw [show n = 256 * (n / 256) + n % 256 by omega, pw_1s (Nat.mod_lt _ (by decide)), pw_2s h.1]
    omega
theorem pw_Fs {k q r : Nat} (hr : r < 256) : pw_F (k + 1) (256 * q + r) = 256 * pw_F k q + fb_ct (fun i => r.testBit i) 8 := by
  have h := pw_d4 r hr
  unfold pw_F
  rw [pw_1s hr, pw_2s h.1, pw_3s h.2.1 (pw_nib k q), h.2.2.2]
theorem pw_F0 (n : Nat) : pw_F 0 n = 0 := by
  show (_ &&& 0) = 0
  simp
def pw_p (n i : Nat) : Nat := fb_ct (fun j => (n / 256 ^ i % 256).testBit j) 8
theorem pw_Fd (k n : Nat) : pw_F (k + 1) n = 256 * pw_F k (n / 256) + pw_p n 0 := by
  have : n = 256 * (n / 256) + n % 256 := by omega
  conv => lhs; rw [this]
  rw [pw_Fs (Nat.mod_lt _ (by decide))]
  unfold pw_p
  rw [Nat.pow_zero, Nat.div_one]
theorem pw_ps (n i : Nat) : pw_p (n / 256) i = pw_p n (i + 1) := by
  unfold pw_p
  rw [Nat.div_div_eq_div_mul, Nat.pow_succ, Nat.mul_comm]
theorem pw_ct (k n : Nat) : fb_ct (fun i => n.testBit i) (8 + k) = pw_p n 0 + fb_ct (fun i => (n / 256).testBit i) k := by
  rw [fb_ct_split]
  have e1 : fb_ct (fun i => n.testBit i) 8 = pw_p n 0 := by
    unfold pw_p
    apply fb_ct_cong
    intro i hi
    rw [Nat.pow_zero, Nat.div_one, show (256 : Nat) = 2 ^ 8 from rfl, Nat.testBit_mod_two_pow, decide_eq_true hi, Bool.true_and]
  have e2 : fb_ct (fun i => n.testBit (8 + i)) k = fb_ct (fun i => (n / 256).testBit i) k := by
    apply fb_ct_cong
    intro i _
    rw [show (256 : Nat) = 2 ^ 8 from rfl, Nat.testBit_div_two_pow, Nat.add_comm]
  rw [e1, e2]
theorem pw_ple (n i : Nat) : pw_p n i ≤ 8 := fb_ct_le _ 8
theorem wb_add (a b : Nat) : lN a + lN b = lN (a + b) := wb_inj (by rw [Int64.toBitVec_add, wb_tb, wb_tb, wb_tb, BitVec.ofNat_add])
theorem wb_sub {a b : Nat} (h : b ≤ a) : lN a - lN b = lN (a - b) := by
  rw [Int64.sub_eq_iff_eq_add, wb_add, Nat.sub_add_cancel h]
theorem pw_8 (n : Nat) : pw_F 8 n = pw_p n 0 + 256 * pw_p n 1 + 65536 * pw_p n 2 + 16777216 * pw_p n 3 + 4294967296 * pw_p n 4 + 1099511627776 * pw_p n 5 + 281474976710656 * pw_p n 6 + 72057594037927936 * pw_p n 7 := by
  have h := fun k n => pw_Fd k n
  rw [h 7 n, h 6, h 5, h 4, h 3, h 2, h 1, h 0, pw_F0]
  simp only [pw_ps, Nat.reduceAdd]
  omega
theorem pw_64 (n : Nat) : fb_ct (fun i => n.testBit i) 64 = pw_p n 0 + pw_p n 1 + pw_p n 2 + pw_p n 3 + pw_p n 4 + pw_p n 5 + pw_p n 6 + pw_p n 7 := by
  have h := fun k n => pw_ct k n
  rw [h 56 n, h 48, h 40, h 32, h 24, h 16, h 8, h 0]
  simp only [pw_ps, Nat.reduceAdd]
  show _ + (_ + (_ + (_ + (_ + (_ + (_ + (_ + 0))))))) = _
  omega
theorem pw_4 (n : Nat) : pw_F 4 n = pw_p n 0 + 256 * pw_p n 1 + 65536 * pw_p n 2 + 16777216 * pw_p n 3 := by
  have h := fun k n => pw_Fd k n
  rw [h 3 n, h 2, h 1, h 0, pw_F0]
  simp only [pw_ps, Nat.reduceAdd]
  omega
theorem pw_32 (n : Nat) : fb_ct (fun i => n.testBit i) 32 = pw_p n 0 + pw_p n 1 + pw_p n 2 + pw_p n 3 := by
  have h := fun k n => pw_ct k n
  rw [h 24 n, h 16, h 8, h 0]
  simp only [pw_ps, Nat.reduceAdd]
  show _ + (_ + (_ + (_ + 0))) = _
  omega
theorem pw_pc {n : Nat} (h : n < 2 ^ 64) : zw_pc (lN n) = fb_ct (fun i => n.testBit i) 64 := fb_ct_cong (fun k _ => zw_lN h k)
theorem pw_1le (k n : Nat) : pw_1 k n ≤ n := Nat.sub_le _ _
theorem pw_mkl (b : Nat) (hb : b < 256) : ∀ k, pw_mk b k < 256 ^ k
  | 0 => Nat.one_pos
  | k + 1 => by
    have := pw_mkl b hb k
    show 256 * pw_mk b k + b < 256 ^ k * 256
    omega
theorem pw_2le (k n : Nat) : pw_2 k n ≤ 2 * pw_mk 51 k := by
  have h1 : (n &&& pw_mk 51 k) ≤ pw_mk 51 k := Nat.and_le_right
  have h2 : (n / 4 &&& pw_mk 51 k) ≤ pw_mk 51 k := Nat.and_le_right
  unfold pw_2
  omega
theorem pw_toI {n : Nat} (h : n < 2 ^ 31) : (lN n).toInt32 = iI (n : Int) := by
  rw [← iI_nI]
  apply Int32.toBitVec_inj.mp
  show BitVec.signExtend 32 (lN n).toBitVec = BitVec.ofNat 32 n
  rw [wb_tb, BitVec.signExtend_eq_setWidth_of_le _ (by decide)]
  apply BitVec.eq_of_toNat_eq
  rw [BitVec.toNat_setWidth, BitVec.toNat_ofNat, BitVec.toNat_ofNat]
  omega
theorem pw_toI' (n : Nat) : (lN n).toInt32 = nI n := by
  apply Int32.toBitVec_inj.mp
  show BitVec.signExtend 32 (lN n).toBitVec = BitVec.ofNat 32 n
  rw [wb_tb, BitVec.signExtend_eq_setWidth_of_le _ (by decide)]
  apply BitVec.eq_of_toNat_eq
  rw [BitVec.toNat_setWidth, BitVec.toNat_ofNat, BitVec.toNat_ofNat]
  exact Nat.mod_mod_of_dvd n ⟨2 ^ 32, by decide⟩
theorem pw_dv {w a b c : Nat} (hc : 0 < c) (ha : a < c) (h : w = a + c * b) : w / c = b := by rw [h, Nat.add_mul_div_left _ _ hc, Nat.div_eq_of_lt ha, Nat.zero_add]
theorem pw_sum64 {w p0 p1 p2 p3 p4 p5 p6 p7 : Nat} (h0 : p0 ≤ 8) (h1 : p1 ≤ 8) (h2 : p2 ≤ 8) (h3 : p3 ≤ 8) (h4 : p4 ≤ 8) (h5 : p5 ≤ 8) (h6 : p6 ≤ 8) (h7 : p7 ≤ 8) (hw : w = 1 * (p0) + 256 * (p1) + 65536 * (p2) + 16777216 * (p3) + 4294967296 * (p4) + 1099511627776 * (p5) + 281474976710656 * (p6) + 72057594037927936 * (p7)) : (w + w / 256 + (w + w / 256) / 65536 + (w + w / 256 + (w + w / 256) / 65536) / 4294967296) % 128 = p0 + p1 + p2 + p3 + p4 + p5 + p6 + p7 := by
  have d1 : w / 256 = 1 * (p1) + 256 * (p2) + 65536 * (p3) + 16777216 * (p4) + 4294967296 * (p5) + 1099511627776 * (p6) + 281474976710656 * (p7) := pw_dv (a := p0) (by decide) (by omega) (by rw [hw]; omega)
  generalize w / 256 = x at d1 ⊢
  have e1 : w + x = (p0 + p1) + 256 * (p1 + p2) + 65536 * (1 * (p2 + p3) + 256 * (p3 + p4) + 65536 * (p4 + p5) + 16777216 * (p5 + p6) + 4294967296 * (p6 + p7) + 1099511627776 * (p7)) := by rw [hw, d1]; omega
  have d2 : (w + x) / 65536 = 1 * (p2 + p3) + 256 * (p3 + p4) + 65536 * (p4 + p5) + 16777216 * (p5 + p6) + 4294967296 * (p6 + p7) + 1099511627776 * (p7) := pw_dv (a := (p0 + p1) + 256 * (p1 + p2)) (by decide) (by omega) e1
  generalize (w + x) / 65536 = y at d2 ⊢
  have e2 : w + x + y = (1 * (p0 + p1 + p2 + p3) + 256 * (p1 + p2 + p3 + p4) + 65536 * (p2 + p3 + p4 + p5) + 16777216 * (p3 + p4 + p5 + p6)) + 4294967296 * (1 * (p4 + p5 + p6 + p7) + 256 * (p5 + p6 + p7) + 65536 * (p6 + p7) + 16777216 * (p7)) := by rw [hw, d1, d2]; omega
  have d3 : (w + x + y) / 4294967296 = 1 * (p4 + p5 + p6 + p7) + 256 * (p5 + p6 + p7) + 65536 * (p6 + p7) + 16777216 * (p7) := pw_dv (a := 1 * (p0 + p1 + p2 + p3) + 256 * (p1 + p2 + p3 + p4) + 65536 * (p2 + p3 + p4 + p5) + 16777216 * (p3 + p4 + p5 + p6)) (by decide) (by omega) e2
  generalize (w + x + y) / 4294967296 = z at d3 ⊢
  have d5 : w + x + y + z = (p0 + p1 + p2 + p3 + p4 + p5 + p6 + p7) + 128 * (2 * (p1 + p2 + p3 + p4 + p5 + p6 + p7) + 512 * (p2 + p3 + p4 + p5 + p6 + p7) + 131072 * (p3 + p4 + p5 + p6 + p7) + 33554432 * (p4 + p5 + p6 + p7) + 8589934592 * (p5 + p6 + p7) + 2199023255552 * (p6 + p7) + 562949953421312 * (p7)) := by rw [hw, d1, d2, d3]; omega
  rw [d5, Nat.add_mul_mod_self_left]
  exact Nat.mod_eq_of_lt (by omega)
theorem pw_sum32 {w p0 p1 p2 p3 : Nat} (h0 : p0 ≤ 8) (h1 : p1 ≤ 8) (h2 : p2 ≤ 8) (h3 : p3 ≤ 8) (hw : w = 1 * (p0) + 256 * (p1) + 65536 * (p2) + 16777216 * (p3)) : (w + w / 256 + (w + w / 256) / 65536) % 64 = p0 + p1 + p2 + p3 := by
  have d1 : w / 256 = 1 * (p1) + 256 * (p2) + 65536 * (p3) := pw_dv (a := p0) (by decide) (by omega) (by rw [hw]; omega)
  generalize w / 256 = x at d1 ⊢
  have e1 : w + x = (p0 + p1) + 256 * (p1 + p2) + 65536 * (1 * (p2 + p3) + 256 * (p3)) := by rw [hw, d1]; omega
  have d2 : (w + x) / 65536 = 1 * (p2 + p3) + 256 * (p3) := pw_dv (a := (p0 + p1) + 256 * (p1 + p2)) (by decide) (by omega) e1
  generalize (w + x) / 65536 = y at d2 ⊢
  have d5 : w + x + y = (p0 + p1 + p2 + p3) + 64 * (4 * (p1 + p2 + p3) + 1024 * (p2 + p3) + 262144 * (p3)) := by rw [hw, d1, d2]; omega
  rw [d5, Nat.add_mul_mod_self_left]
  exact Nat.mod_eq_of_lt (by omega)
/-- Long.bitCount -/
theorem S_pop64 (m : am_M) (Q : Option Value → am_M → Prop) (x : Int64) (h : Q (some (.int (iI (zw_pc x : Int)))) m) : am_WP YL 228 0 0 0 [some (.long x), none] [] m Q := by
  obtain ⟨n, hn, rfl⟩ := wb_of x
  rw [pw_pc hn, pw_64] at h
  have hF := pw_8 n
  have p0 := pw_ple n 0
  have p1 := pw_ple n 1
  have p2 := pw_ple n 2
  have p3 := pw_ple n 3
  have p4 := pw_ple n 4
  have p5 := pw_ple n 5
  have p6 := pw_ple n 6
  have p7 := pw_ple n 7
  have c1 : (6148914691236517205 : Int64) = lN (pw_mk 85 8) := by decide +kernel
  have c2 : (3689348814741910323 : Int64) = lN (pw_mk 51 8) := by decide +kernel
  have c3 : (1085102592571150095 : Int64) = lN (pw_mk 15 8) := by decide +kernel
  have l1 : pw_mk 85 8 < 2 ^ 64 := by decide +kernel
  have l2 : pw_mk 51 8 < 2 ^ 62 := by decide +kernel
  have l3 : pw_mk 15 8 < 2 ^ 64 := by decide +kernel
  have g1 : pw_1 8 n < 2 ^ 64 := Nat.lt_of_le_of_lt (pw_1le _ _) hn
  have g2 : pw_2 8 (pw_1 8 n) < 2 ^ 63 := Nat.lt_of_le_of_lt (pw_2le _ _) (by omega)
  have s1 : ((lN n).toUInt64 >>> ((1 : Int32).toInt64.toUInt64 &&& Int64.toUInt64 63)).toInt64 = lN (n / 2) := wb_shr (k := 1) hn (by decide)
  have s2 : ((lN (pw_1 8 n)).toUInt64 >>> ((2 : Int32).toInt64.toUInt64 &&& Int64.toUInt64 63)).toInt64 = lN (pw_1 8 n / 4) := wb_shr (k := 2) g1 (by decide)
  have s3 : ((lN (pw_2 8 (pw_1 8 n))).toUInt64 >>> ((4 : Int32).toInt64.toUInt64 &&& Int64.toUInt64 63)).toInt64 = lN (pw_2 8 (pw_1 8 n) / 16) := wb_shr (k := 4) (by omega) (by decide)
  refine B_J13_bitCount_95d88_0 m Q _ ?_
  rw [s1, c1, wb_and (by omega) l1, wb_sub (Nat.le_trans Nat.and_le_left (Nat.div_le_self _ _))]
  refine B_J13_bitCount_95d88_10 m Q (lN (pw_1 8 n)) ?_
  rw [s2, c2, wb_and g1 (by omega), wb_and (by omega) (by omega), wb_add]
  refine B_J13_bitCount_95d88_24 m Q (lN (pw_2 8 (pw_1 8 n))) ?_
  rw [s3, c3, wb_add, wb_and (by omega) l3]
  refine B_J13_bitCount_95d88_34 m Q (lN (pw_F 8 n)) ?_
  have hb : pw_F 8 n < 2 ^ 60 := by omega
  generalize pw_F 8 n = w at hF hb ⊢
  have s4 : ((lN w).toUInt64 >>> ((8 : Int32).toInt64.toUInt64 &&& Int64.toUInt64 63)).toInt64 = lN (w / 256) := wb_shr (k := 8) (by omega) (by decide)
  rw [s4, wb_add]
  refine B_J13_bitCount_95d88_41 m Q _ ?_
  have s5 : ((lN (w + w / 256)).toUInt64 >>> ((16 : Int32).toInt64.toUInt64 &&& Int64.toUInt64 63)).toInt64 = lN ((w + w / 256) / 65536) := wb_shr (k := 16) (by omega) (by decide)
  rw [s5, wb_add]
  refine B_J13_bitCount_95d88_48 m Q _ ?_
  have s6 : ((lN (w + w / 256 + (w + w / 256) / 65536)).toUInt64 >>> ((32 : Int32).toInt64.toUInt64 &&& Int64.toUInt64 63)).toInt64 = lN ((w + w / 256 + (w + w / 256) / 65536) / 4294967296) := wb_shr (k := 32) (by omega) (by decide)
  rw [s6, wb_add]
  refine B_J13_bitCount_95d88_55 m Q _ ?_
  obtain ⟨v, hv⟩ : ∃ v, v = w + w / 256 + (w + w / 256) / 65536 + (w + w / 256 + (w + w / 256) / 65536) / 4294967296 := ⟨_, rfl⟩
  rw [← hv, pw_toI']
  have e9 : nI v &&& (127 : Int32) = nI (v % 128) := by
    apply Int32.toBitVec_inj.mp
    rw [Int32.toBitVec_and]
    apply BitVec.eq_of_toNat_eq
    show (BitVec.ofNat 32 v &&& BitVec.ofNat 32 127).toNat = (BitVec.ofNat 32 (v % 128)).toNat
    rw [BitVec.toNat_and, BitVec.toNat_ofNat, BitVec.toNat_ofNat, BitVec.toNat_ofNat, show 127 % 2 ^ 32 = 2 ^ 7 - 1 from rfl, Nat.and_two_pow_sub_one_eq_mod]
    omega
  rw [e9]
  have e10 : v % 128 = pw_p n 0 + pw_p n 1 + pw_p n 2 + pw_p n 3 + pw_p n 4 + pw_p n 5 + pw_p n 6 + pw_p n 7 := by
    rw [hv]
    exact pw_sum64 p0 p1 p2 p3 p4 p5 p6 p7 (by rw [hF]; omega)
  rw [e10, iI_nI]
  exact h
theorem pw_sh32 {n k : Nat} (hn : n < 2 ^ 32) (hk : k < 32) : ((nI n).toUInt32 >>> ((nI k).toUInt32 &&& Int32.toUInt32 31)).toInt32 = nI (n / 2 ^ k) := by
  have e0 : (nI k).toUInt32 &&& Int32.toUInt32 31 = UInt32.ofNat k := (by decide +kernel : ∀ k, k < 32 → (nI k).toUInt32 &&& Int32.toUInt32 31 = UInt32.ofNat k) k hk
  rw [e0]
  apply Int32.toBitVec_inj.mp
  apply BitVec.eq_of_toNat_eq
  show ((nI n).toUInt32 >>> UInt32.ofNat k).toNat = (BitVec.ofNat 32 _).toNat
  have h1 : (UInt32.ofNat k).toNat = k := by
    show (BitVec.ofNat 32 k).toNat = k
    rw [BitVec.toNat_ofNat, Nat.mod_eq_of_lt (by omega)]
  have h2 : (nI n).toUInt32.toNat = n := by
    show (BitVec.ofNat 32 n).toNat = n
    rw [BitVec.toNat_ofNat, Nat.mod_eq_of_lt hn]
  rw [UInt32.toNat_shiftRight, h1, h2, Nat.mod_eq_of_lt hk, Nat.shiftRight_eq_div_pow, BitVec.toNat_ofNat, Nat.mod_eq_of_lt (Nat.lt_of_le_of_lt (Nat.div_le_self _ _) hn)]
/-- Integer.bitCount -/
theorem S_pop32 (m : am_M) (Q : Option Value → am_M → Prop) (n : Nat) (hn : n < 2147483648) (h : Q (some (.int (iI (fb_ct (fun i => n.testBit i) 32 : Int)))) m) : am_WP YL 227 0 0 0 [some (.int (iI (n : Int)))] [] m Q := by
  rw [pw_32] at h
  have hF := pw_4 n
  have p0 := pw_ple n 0
  have p1 := pw_ple n 1
  have p2 := pw_ple n 2
  have p3 := pw_ple n 3
  have c1 : (1431655765 : Int32) = iI (pw_mk 85 4 : Int) := by decide +kernel
  have c2 : (858993459 : Int32) = iI (pw_mk 51 4 : Int) := by decide +kernel
  have c3 : (252645135 : Int32) = iI (pw_mk 15 4 : Int) := by decide +kernel
  have l1 : pw_mk 85 4 < 2147483648 := by decide +kernel
  have l2 : pw_mk 51 4 = 858993459 := by decide +kernel
  have l3 : pw_mk 15 4 < 2147483648 := by decide +kernel
  have g1 : pw_1 4 n < 2147483648 := Nat.lt_of_le_of_lt (pw_1le _ _) hn
  have g2 : pw_2 4 (pw_1 4 n) < 1717986919 := Nat.lt_of_le_of_lt (pw_2le _ _) (by omega)
  have sh : ∀ a k : Nat, a < 2147483648 → k < 32 → ((iI (a : Int)).toUInt32 >>> ((nI k).toUInt32 &&& Int32.toUInt32 31)).toInt32 = iI ((a / 2 ^ k : Nat) : Int) := by
    intro a k ha hk
    rw [← iI_nI, ← iI_nI, pw_sh32 (by omega) hk]
  have s1 : ((iI (n : Int)).toUInt32 >>> ((1 : Int32).toUInt32 &&& Int32.toUInt32 31)).toInt32 = iI ((n / 2 : Nat) : Int) := sh n 1 hn (by decide)
  have s2 : ((iI (pw_1 4 n : Int)).toUInt32 >>> ((2 : Int32).toUInt32 &&& Int32.toUInt32 31)).toInt32 = iI ((pw_1 4 n / 4 : Nat) : Int) := sh _ 2 g1 (by decide)
  have s3 : ((iI (pw_2 4 (pw_1 4 n) : Int)).toUInt32 >>> ((4 : Int32).toUInt32 &&& Int32.toUInt32 31)).toInt32 = iI ((pw_2 4 (pw_1 4 n) / 16 : Nat) : Int) := sh _ 4 (by omega) (by decide)
  have i1 : ∀ a b : Nat, b ≤ a → iI (a : Int) - iI (b : Int) = iI ((a - b : Nat) : Int) := by
    intro a b hab
    rw [iI_sub, Int.ofNat_sub hab]
  have i2 : ∀ a b : Nat, iI (a : Int) + iI (b : Int) = iI ((a + b : Nat) : Int) := by
    intro a b
    rw [iI_add, Int.natCast_add]
  refine B_J6_bitCount_0f7a4_0 m Q _ ?_
  rw [s1, c1, iI_and (by omega) l1, i1 _ _ (Nat.le_trans Nat.and_le_left (Nat.div_le_self _ _))]
  refine B_J6_bitCount_0f7a4_10 m Q (iI (pw_1 4 n : Int)) ?_
  rw [s2, c2, iI_and g1 (by omega), iI_and (by omega) (by omega), i2]
  refine B_J6_bitCount_0f7a4_24 m Q (iI (pw_2 4 (pw_1 4 n) : Int)) ?_
  rw [s3, c3, i2, iI_and (by omega) l3]
  refine B_J6_bitCount_0f7a4_34 m Q (iI (pw_F 4 n : Int)) ?_
  have hb : pw_F 4 n < 150000000 := by omega
  generalize pw_F 4 n = w at hF hb ⊢
  have s4 : ((iI (w : Int)).toUInt32 >>> ((8 : Int32).toUInt32 &&& Int32.toUInt32 31)).toInt32 = iI ((w / 256 : Nat) : Int) := sh _ 8 (by omega) (by decide)
  rw [s4, i2]
  refine B_J6_bitCount_0f7a4_41 m Q _ ?_
  have s5 : ((iI ((w + w / 256 : Nat) : Int)).toUInt32 >>> ((16 : Int32).toUInt32 &&& Int32.toUInt32 31)).toInt32 = iI (((w + w / 256) / 65536 : Nat) : Int) := sh _ 16 (by omega) (by decide)
  rw [s5, i2]
  refine B_J6_bitCount_0f7a4_48 m Q _ ?_
  have e9 : iI ((w + w / 256 + (w + w / 256) / 65536 : Nat) : Int) &&& (63 : Int32) = iI ((pw_p n 0 + pw_p n 1 + pw_p n 2 + pw_p n 3 : Nat) : Int) := by
    rw [iI_lit 63, iI_m63 (by omega) (by omega)]
    have e8 := pw_sum32 p0 p1 p2 p3 (w := w) (by rw [hF]; omega)
    rw [← e8]
    rfl
  rw [e9]
  exact h
