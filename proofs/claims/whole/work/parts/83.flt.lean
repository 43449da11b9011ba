/-! ===== floats ===== -/
theorem vc_norm : ∀ d c : Nat, c < 16777216 → ∃ t, t ≤ d ∧ c * 2 ^ t < 16777216 ∧ (t = d ∨ 8388608 ≤ c * 2 ^ t)
  | 0, c, h => ⟨0, Nat.le_refl _, by rw [Nat.pow_zero, Nat.mul_one]; exact h, Or.inl rfl⟩
  | d + 1, c, h => by
    by_cases z : 8388608 ≤ c
    · exact ⟨0, by omega, by rw [Nat.pow_zero, Nat.mul_one]; exact h, Or.inr (by rw [Nat.pow_zero, Nat.mul_one]; exact z)⟩
    · obtain ⟨t, h1, h2, h3⟩ := vc_norm d (2 * c) (by omega)
      have e : c * 2 ^ (t + 1) = 2 * c * 2 ^ t := by rw [Nat.pow_succ, Nat.mul_comm (2 ^ t) 2, ← Nat.mul_assoc, Nat.mul_comm c 2]
      refine ⟨t + 1, by omega, by rw [e]; exact h2, ?_⟩
      rw [e]
      rcases h3 with h3 | h3
      · exact Or.inl (by omega)
      · exact Or.inr h3
def vcd (c j : Nat) : FP.Core.Datum := FP.Core.round FP.Core.b32 (.fin false c (-(j : Int)))
def vc (c j : Nat) : UInt32 := FP.Core.of32 (vcd c j)
theorem b32_qmin : FP.Core.b32.qmin = -149 := by decide +kernel
theorem b32_qmax : FP.Core.b32.qmax = 104 := by decide +kernel
theorem b32_tails : FP.Core.b32.tails = 8388608 := by decide +kernel
theorem b32_exps : FP.Core.b32.exps = 256 := by decide +kernel
theorem b32_p : 2 ^ FP.Core.b32.p = 16777216 := by decide +kernel
theorem vcd_ex {c j : Nat} (hc : c < 16777216) (hj : j ≤ 149) : ∃ t, vcd c j = .fin false (c * 2 ^ t) (-((j + t : Nat) : Int)) := by
  obtain ⟨t, h1, h2, h3⟩ := vc_norm (149 - j) c hc
  refine ⟨t, FP.Core.roundRatio_exact FP.Core.good_b32 (by decide) ⟨by rw [b32_p]; exact h2, by rw [b32_qmin]; omega, by rw [b32_qmax]; omega, ?_⟩ ?_⟩
  · rw [b32_qmin, b32_tails]
    rcases h3 with h3 | h3
    · exact Or.inl (by omega)
    · exact Or.inr h3
  · rw [show (-(j : Int) - -((j + t : Nat) : Int)).toNat = t by omega, show (-((j + t : Nat) : Int) - -(j : Int)).toNat = 0 by omega, Nat.pow_zero, Nat.mul_one, Nat.mul_one]
theorem vc_val (c j : Nat) : FP.Core.val32 (vc c j) = vcd c j := FP.Core.val32_of32 (FP.Core.round_fits FP.Core.good_b32 _)
theorem vc_half {c j : Nat} (hc : c < 16777216) (hj : j ≤ 149) : FP.fmul (vc c j) 1056964608 = vc c (j + 1) := by
  obtain ⟨t, ht⟩ := vcd_ex hc hj
  show FP.Core.of32 (FP.Core.round FP.Core.b32 (FP.Core.exactProduct (FP.Core.val32 (vc c j)) (FP.Core.val32 1056964608))) = FP.Core.of32 (vcd c (j + 1))
  rw [vc_val, ht, show FP.Core.val32 1056964608 = .fin false 8388608 (-24) by decide +kernel]
  congr 1
  show FP.Core.roundRatio FP.Core.b32 false (c * 2 ^ t * 8388608) 1 (-((j + t : Nat) : Int) + -24) = FP.Core.roundRatio FP.Core.b32 false c 1 (-((j + 1 : Nat) : Int))
  refine FP.Core.roundRatio_congr (by decide) (by decide) ?_
  rw [show (-((j + t : Nat) : Int) + -24 - -((j + 1 : Nat) : Int)).toNat = 0 by omega, show (-((j + 1 : Nat) : Int) - (-((j + t : Nat) : Int) + -24)).toNat = t + 23 by omega, Nat.pow_zero, Nat.mul_one, Nat.mul_one, Nat.mul_one, Nat.pow_add, Nat.mul_assoc]
theorem vf_ok {r : UInt32} (h : FP.Core.val32 r ≠ .nan) : vf_n32 r := by
  have := (FP.Core.ne_nan32 r).mp h
  unfold vf_n32
  rw [UInt32.le_iff_toNat_le, FP.Core.mask_toNat32]
  exact this
theorem vc_n32 {c j : Nat} : vf_n32 (vc c j) := vf_ok (by rw [vc_val]; exact FP.Core.roundRatio_ne_nan _ _ _ _ _)
theorem vc_i2f {c : Nat} (hc : c < 16777216) : FP.i2f (iI (c : Int)) = vc c 0 := by
  show FP.Core.of32 (FP.Core.round FP.Core.b32 (FP.Core.ofInt (iI (c : Int)).toInt)) = _
  rw [iI_to (by omega) (by omega)]
  unfold vc vcd FP.Core.ofInt
  rw [decide_eq_false (by omega : ¬ ((c : Int) < 0)), Int.natAbs_natCast]
  rfl
theorem u32_nat {b : Nat} (hb : b < 4294967296) : (UInt32.ofNat b).toNat = b := UInt32.toNat_ofNat_of_lt' (by simpa using hb)
theorem val_b {b : Nat} (hb : b ≤ 1065353216) : FP.Core.val32 (UInt32.ofNat b) = if b / 8388608 = 0 then .fin false (b % 8388608) (-149) else .fin false (8388608 + b % 8388608) (-149 + (((b / 8388608 : Nat) : Int) - 1)) := by
  unfold FP.Core.val32 FP.Core.decode FP.Core.fieldE FP.Core.fieldT FP.Core.fieldS
  rw [u32_nat (by omega), b32_tails, b32_exps, b32_qmin, Nat.mod_eq_of_lt (show b / 8388608 < 256 by omega), if_neg (by omega), show b / 8388608 / 256 = 0 by omega]
  rfl
theorem vc_end {b : Nat} (hb : b ≤ 1065353216) : (b / 8388608 = 0 → vc (b % 8388608) 149 = UInt32.ofNat b) ∧ (b / 8388608 ≠ 0 → vc (8388608 + b % 8388608) (150 - b / 8388608) = UInt32.ofNat b) := by
  have nn : FP.Core.val32 (UInt32.ofNat b) ≠ .nan := by
    rw [val_b hb]
    split <;> exact fun z => FP.Core.Datum.noConfusion z
  have key : ∀ c j, FP.Core.val32 (UInt32.ofNat b) = .fin false c (-(j : Nat)) → vc c j = UInt32.ofNat b := fun c j h => by
    unfold vc vcd
    rw [← h, FP.Core.round_of_fits FP.Core.good_b32 (FP.Core.val32_fits _), FP.Core.of32_val32 nn]
  refine ⟨fun z => key _ _ ?_, fun z => key _ _ ?_⟩
  · rw [val_b hb, if_pos z]
    rfl
  · rw [val_b hb, if_neg z, show (-149 + (((b / 8388608 : Nat) : Int) - 1)) = -((150 - b / 8388608 : Nat) : Int) by omega]
theorem S_halve (m : am_M) (Q : Option Value → am_M → Prop) (c : Nat) (hc : c < 16777216) : ∀ d j l : Nat, l + d = 150 → j + d ≤ 149 → Q (some (.float (vc c (j + d)))) m → am_WP YL 153 0 0 36 [none, none, none, some (.float (vc c j)), some (.int (iI (l : Int)))] [] m Q
  | 0, j, l, hl, _, h => B_X10_floatOf_36 m Q _ _ ⟨fun _ => h, fun z => absurd ((iI_le (a := 150) (by omega) (by omega) (by omega) (by omega)).mpr (by omega)) z⟩
  | d + 1, j, l, hl, hj, h => by
    refine B_X10_floatOf_36 m Q _ _ ⟨fun z => absurd ((iI_le (a := 150) (by omega) (by omega) (by omega) (by omega)).mp z) (by omega), fun _ => ?_⟩
    rw [vc_half hc (by omega), iI_i1]
    refine ⟨vc_n32, ?_⟩
    have := S_halve m Q c hc d (j + 1) (l + 1) (by omega) (by omega) (by rw [show j + 1 + d = j + (d + 1) by omega]; exact h)
    exact this
theorem S_floatOf (m : am_M) (Q : Option Value → am_M → Prop) (b : Nat) (hb : b ≤ 1065353216) (h : Q (some (.float (UInt32.ofNat b))) m) : am_WP YL 153 0 0 0 [some (.int (iI (b : Int))), none, none, none, none] [] m Q := by
  refine B_X10_floatOf_0 m Q _ ?_
  have e1 : (iI (b : Int) >>> ((23 : Int32) &&& 31)) &&& (255 : Int32) = iI ((b / 8388608 : Nat) : Int) := by
    rw [show ((23 : Int32) &&& 31) = iI ((23 : Nat) : Int) by decide, iI_shr (by omega) (by omega) (by omega), show ((2 ^ 23 : Nat) : Int) = 8388608 by decide, show (255 : Int32) = iI 255 from rfl, iI_m255 (by omega) (by omega)]
    congr 1
    omega
  have e2 : iI (b : Int) &&& (8388607 : Int32) = iI ((b % 8388608 : Nat) : Int) := by
    have := iI_mask (a := (b : Int)) 23 (by omega) (by omega) (by omega)
    exact this
  have t := Nat.mod_lt b (show 0 < 8388608 by decide)
  have e3 : iI ((b % 8388608 : Nat) : Int) ||| (8388608 : Int32) = iI ((8388608 + b % 8388608 : Nat) : Int) := by
    have e : (8388608 : Int32) = iI ((2 ^ 23 : Nat) : Int) := by decide
    have o := Nat.two_pow_add_eq_or_of_lt (i := 23) (b := b % 8388608) t 1
    rw [Nat.mul_one] at o
    rw [e, iI_or (by omega) (by decide), Nat.or_comm, ← o]
  rw [e1, e2, e3]
  have ve := vc_end hb
  refine ⟨fun z => ?_, fun z => ?_⟩
  · have z : b / 8388608 = 0 := by have := (iI_le (b := 0) (by omega) (by omega) (by omega) (by omega)).mp z; omega
    rw [vc_i2f (by omega)]
    refine S_halve m Q _ (by omega) 149 0 1 (by omega) (by omega) ?_
    rw [Nat.zero_add, ve.1 z]
    exact h
  · have z : b / 8388608 ≠ 0 := fun y => z (by rw [y]; decide)
    rw [vc_i2f (by omega)]
    refine S_halve m Q _ (by omega) (150 - b / 8388608) 0 (b / 8388608) (by omega) (by omega) ?_
    rw [Nat.zero_add, ve.2 z]
    exact h
def hzk (b : Int) : Bool := decide ((0 ≤ b ∧ b ≤ 1065353216) ∨ b = -2147483648)
def hzv (b : Int) : Int32 := if b < 0 then 0 else FP.f2i (FP.fmul (UInt32.ofNat b.toNat) 1120403456)
theorem S_isHaze (m : am_M) (Q : Option Value → am_M → Prop) (b : Int) (hbb : -2147483648 ≤ b ∧ b ≤ 2147483647) (h : Q (some (.int (bI (hzk b)))) m) : am_WP YL 151 0 0 0 [some (.int (iI b))] [] m Q := by
  have e0 : iI b = (-2147483648 : Int32) ↔ b = -2147483648 := iI_eq (b := -2147483648) (by omega) (by omega) (by omega) (by omega)
  have e1 : iI b < 0 ↔ b < 0 := iI_lt (b := 0) (by omega) (by omega) (by omega) (by omega)
  have e2 : iI b ≤ (1065353216 : Int32) ↔ b ≤ 1065353216 := iI_le (b := 1065353216) (by omega) (by omega) (by omega) (by omega)
  have f : hzk b = false → Q (some (.int 0)) m := fun z => by rw [z] at h; exact h
  have t : hzk b = true → Q (some (.int 1)) m := fun z => by rw [z] at h; exact h
  refine B_X10_isHaze_0 m Q _ ?_
  rw [e0, e1, e2]
  refine ⟨fun z => ⟨fun y => f (decide_eq_false (by omega)), fun y => t (decide_eq_true (by omega))⟩, fun z => ⟨fun y => t (decide_eq_true (by omega)), fun y => ⟨fun x => f (decide_eq_false (by omega)), fun x => t (decide_eq_true (by omega))⟩⟩⟩
theorem val_fin {b : Nat} (hb : b ≤ 1065353216) : ∃ c q, FP.Core.val32 (UInt32.ofNat b) = .fin false c q ∧ FP.Core.inUnits c q (-149) ≤ 2 ^ 149 ∧ -149 ≤ q := by
  rw [val_b hb]
  have t := Nat.mod_lt b (show 0 < 8388608 by decide)
  by_cases z : b / 8388608 = 0
  · refine ⟨_, _, if_pos z, ?_, Int.le_refl _⟩
    show b % 8388608 * 2 ^ (0 : Int).toNat ≤ 2 ^ 149
    rw [show (0 : Int).toNat = 0 from rfl, Nat.pow_zero, Nat.mul_one]
    exact Nat.le_trans (Nat.le_of_lt t) (by decide)
  · refine ⟨_, _, if_neg z, ?_, by omega⟩
    show (8388608 + b % 8388608) * 2 ^ (-149 + (((b / 8388608 : Nat) : Int) - 1) - -149).toNat ≤ 2 ^ 149
    by_cases y : b / 8388608 = 127
    · rw [y, show b % 8388608 = 0 by omega]
      decide
    · calc (8388608 + b % 8388608) * 2 ^ (-149 + (((b / 8388608 : Nat) : Int) - 1) - -149).toNat ≤ 2 ^ 24 * 2 ^ 125 := Nat.mul_le_mul (by omega) (Nat.pow_le_pow_right (by decide) (by omega))
        _ = 2 ^ 149 := by rw [← Nat.pow_add]
theorem haze_ok {b : Nat} (hb : b ≤ 1065353216) : vf_n32 (FP.fmul (UInt32.ofNat b) 1120403456) ∧ 0 ≤ (FP.f2i (FP.fmul (UInt32.ofNat b) 1120403456)).toInt ∧ (FP.f2i (FP.fmul (UInt32.ofNat b) 1120403456)).toInt ≤ 100 := by
  obtain ⟨c, q, h1, h2, h3⟩ := val_fin hb
  have e100 : FP.Core.val32 1120403456 = .fin false 13107200 (-17) := by decide +kernel
  have ev : FP.Core.val32 (FP.fmul (UInt32.ofNat b) 1120403456) = FP.Core.roundRatio FP.Core.b32 false (c * 13107200) 1 (q + -17) := by
    have := FP.Core.val32_fmul (UInt32.ofNat b) 1120403456
    rw [h1, e100] at this
    exact this
  have nn : FP.Core.val32 (FP.fmul (UInt32.ofNat b) 1120403456) ≠ .nan := by rw [ev]; exact FP.Core.roundRatio_ne_nan _ _ _ _ _
  refine ⟨vf_ok nn, ?_⟩
  have fv := FP.Core.f2i_val nn
  rw [ev, FP.Core.sgn_roundRatio] at fv
  have zl : FP.Core.zmag FP.Core.b32 (FP.Core.roundRatio FP.Core.b32 false (c * 13107200) 1 (q + -17)) ≤ FP.Core.zmag FP.Core.b32 (.fin false 13107200 (-17)) := by
    refine FP.Core.zmag_roundRatio_le FP.Core.good_b32 (e0 := -166) (by decide) ?_ (fun z => FP.Core.Datum.noConfusion z) (by rw [b32_qmin]; omega) (by omega) ?_
    · rw [← e100]
      exact FP.Core.val32_fits _
    · rw [b32_qmin]
      show c * 13107200 * 2 ^ (q + -17 - -166).toNat ≤ 13107200 * 2 ^ (-17 - FP.Core.b32.qmin).toNat * 2 ^ (-149 - -166 : Int).toNat * 1
      rw [b32_qmin, show (q + -17 - -166).toNat = (q - -149).toNat by omega, show (-17 - -149 : Int).toNat = 132 by decide, show (-149 - -166 : Int).toNat = 17 by decide, Nat.mul_one, Nat.mul_assoc 13107200, ← Nat.pow_add, Nat.mul_comm c, Nat.mul_assoc]
      exact Nat.mul_le_mul_left _ h2
  have z100 : FP.Core.zmag FP.Core.b32 (.fin false 13107200 (-17)) = 100 * FP.Core.one32 := by decide +kernel
  rw [z100] at zl
  have dv : FP.Core.zmag FP.Core.b32 (FP.Core.roundRatio FP.Core.b32 false (c * 13107200) 1 (q + -17)) / FP.Core.one32 ≤ 100 := Nat.div_le_of_le_mul (by rw [Nat.mul_comm FP.Core.one32]; exact zl)
  have sg : ∀ x : Nat, FP.Core.signed false x = (x : Int) := fun _ => rfl
  rw [sg] at fv
  rw [show FP.f2i (FP.fmul (UInt32.ofNat b) 1120403456) = FP.Core.f2i (FP.fmul (UInt32.ofNat b) 1120403456) from rfl, fv]
  generalize FP.Core.zmag FP.Core.b32 (FP.Core.roundRatio FP.Core.b32 false (c * 13107200) 1 (q + -17)) / FP.Core.one32 = x at dv ⊢
  omega
theorem iI_u {b : Int} (h : 0 ≤ b) (h2 : b ≤ 2147483647) : (iI b).toUInt32 = UInt32.ofNat b.toNat := by
  obtain ⟨n, hn⟩ : ∃ n : Nat, b = (n : Int) := ⟨b.toNat, by omega⟩
  rw [hn, Int.toNat_natCast, ← iI_nI]
  rfl
theorem iI_un {b : Int} (h : b < 0) (h2 : -2147483648 ≤ b) : (iI b).toUInt32 = UInt32.ofNat (b + 4294967296).toNat := by
  have e : (iI b).toUInt32.toBitVec = BitVec.ofInt 32 b := rfl
  refine UInt32.toBitVec_inj.mp ?_
  rw [e]
  refine BitVec.eq_of_toNat_eq ?_
  rw [BitVec.toNat_ofInt]
  have e2 : (UInt32.ofNat (b + 4294967296).toNat).toBitVec.toNat = (b + 4294967296).toNat := u32_nat (by omega)
  rw [e2]
  congr 1
  omega
/-- which floats the reference may hold -/
def zqs (b : Int32) (z : UInt32) : Prop := (vn_sni2f b = false ∧ z = b.toUInt32) ∨ (vn_sni2f b = true ∧ (z = b.toUInt32 ∨ z = b.toUInt32 ||| 0x00400000))
theorem fk (n : Nat) (h : n < 4294967296) : FP.Core.fkey (UInt32.ofNat n) = if 2147483648 ≤ n then 2147483648 - (n : Int) else (n : Int) := by
  unfold FP.Core.fkey
  rw [u32_nat h]
  rfl
theorem cmpv {z : UInt32} (hn : FP.Core.val32 z ≠ .nan) : (Op.cmpValue (FP.fcmp z FP.fconst0) .l < 0 ↔ FP.Core.fkey z < 0) ∧ (Op.cmpValue (FP.fcmp z FP.fconst1) .g ≤ 0 ↔ FP.Core.fkey z ≤ 1065353216) := by
  have n0 : FP.Core.val32 FP.fconst0 ≠ .nan := by decide +kernel
  have n1 : FP.Core.val32 FP.fconst1 ≠ .nan := by decide +kernel
  have k0 : FP.Core.fkey FP.fconst0 = 0 := by decide +kernel
  have k1 : FP.Core.fkey FP.fconst1 = 1065353216 := by decide +kernel
  have f0 : FP.fcmp z FP.fconst0 = some (compare (FP.Core.fkey z) 0) := by rw [← k0]; exact FP.Core.fcmp_key hn n0
  have f1 : FP.fcmp z FP.fconst1 = some (compare (FP.Core.fkey z) 1065353216) := by rw [← k1]; exact FP.Core.fcmp_key hn n1
  rw [f0, f1]
  generalize FP.Core.fkey z = x
  constructor
  · rcases Int.lt_trichotomy x 0 with c | c | c
    · rw [(FP.Core.compare_lt_iff _ _).mpr c]
      exact ⟨fun _ => c, fun _ => by decide⟩
    · rw [(FP.Core.compare_eq_iff _ _).mpr c]
      exact ⟨fun w => absurd w (by decide), fun w => absurd w (by omega)⟩
    · rw [(FP.Core.compare_gt_iff _ _).mpr c]
      exact ⟨fun w => absurd w (by decide), fun w => absurd w (by omega)⟩
  · rcases Int.lt_trichotomy x 1065353216 with c | c | c
    · rw [(FP.Core.compare_lt_iff _ _).mpr c]
      exact ⟨fun _ => by omega, fun _ => by decide⟩
    · rw [(FP.Core.compare_eq_iff _ _).mpr c]
      exact ⟨fun _ => by omega, fun _ => by decide⟩
    · rw [(FP.Core.compare_gt_iff _ _).mpr c]
      exact ⟨fun w => absurd w (by decide), fun w => absurd w (by omega)⟩
theorem cmpn {z : UInt32} (hn : FP.Core.val32 z = .nan) : Op.cmpValue (FP.fcmp z FP.fconst0) .l < 0 := by
  have : FP.fcmp z FP.fconst0 = none := (FP.Core.fcmp_none _ _).mpr (Or.inl hn)
  rw [this]
  decide
theorem u32_mod (n : Nat) (h : n < 4294967296) : FP.Core.val32 (UInt32.ofNat n) ≠ .nan ↔ n % 2147483648 ≤ 2139095040 := by
  rw [FP.Core.ne_nan32, u32_nat h]
theorem nan_bit {x : UInt32} (h : FP.Core.val32 x = .nan) : FP.Core.val32 (x ||| 0x00400000) = .nan := by
  have a : ¬ FP.Core.val32 x ≠ .nan := fun z => z h
  rw [FP.Core.ne_nan32] at a
  refine Classical.byContradiction (fun z => ?_)
  have z := (FP.Core.ne_nan32 _).mp z
  rw [UInt32.toNat_or, Nat.or_mod_two_pow] at z
  have : x.toNat % 2 ^ 31 ≤ x.toNat % 2 ^ 31 ||| (0x00400000 : UInt32).toNat % 2 ^ 31 := Nat.left_le_or
  omega
theorem sn_nan {b : Int32} (h : vn_sni2f b = true) : FP.Core.val32 b.toUInt32 = .nan := by
  unfold vn_sni2f at h
  have h := (Bool.and_eq_true_iff.mp h).1
  have h := of_decide_eq_true h
  refine Classical.byContradiction (fun z => ?_)
  have z := (FP.Core.ne_nan32 _).mp z
  have h : (0x7f800000 : UInt32) < b.toUInt32 &&& 0x7fffffff := h
  rw [UInt32.lt_iff_toNat_lt, FP.Core.mask_toNat32] at h
  have : (0x7f800000 : UInt32).toNat = 2139095040 := rfl
  omega
theorem hz_no {b : Int} (h1 : -2147483648 ≤ b) (h2 : b ≤ 2147483647) (h : hzk b = false) {z : UInt32} (hz : zqs (iI b) z) : Op.cmpValue (FP.fcmp z FP.fconst0) .l < 0 ∨ ¬ Op.cmpValue (FP.fcmp z FP.fconst1) .g ≤ 0 := by
  have h := of_decide_eq_false h
  by_cases hn : FP.Core.val32 z = .nan
  · exact Or.inl (cmpn hn)
  · have ez : z = (iI b).toUInt32 := by
      rcases hz with hz | ⟨a, hz⟩
      · exact hz.2
      · have := sn_nan a
        rcases hz with hz | hz
        · exact hz
        · rw [hz, nan_bit this] at hn
          exact absurd rfl hn
    have c := cmpv hn
    rw [c.1, c.2, ez]
    by_cases s : b < 0
    · rw [iI_un s h1, fk _ (by omega), if_pos (by omega)]
      exact Or.inl (by omega)
    · rw [iI_u (by omega) h2, fk _ (by omega), if_neg (by omega)]
      exact Or.inr (by omega)
theorem hz_yes {b : Int} (h1 : -2147483648 ≤ b) (h2 : b ≤ 2147483647) (h : hzk b = true) {z : UInt32} (hz : zqs (iI b) z) : ¬ Op.cmpValue (FP.fcmp z FP.fconst0) .l < 0 ∧ Op.cmpValue (FP.fcmp z FP.fconst1) .g ≤ 0 ∧ vf_n32 (FP.fmul z 1120403456) ∧ FP.f2i (FP.fmul z 1120403456) = hzv b := by
  have h := of_decide_eq_true h
  have hu : (iI b).toUInt32 = UInt32.ofNat (if b < 0 then 2147483648 else b.toNat) := by
    by_cases s : b < 0
    · rw [iI_un s h1, if_pos s, show (b + 4294967296).toNat = 2147483648 by omega]
    · rw [iI_u (by omega) h2, if_neg s]
  have hn : FP.Core.val32 (iI b).toUInt32 ≠ .nan := by
    rw [hu, u32_mod _ (by split <;> omega)]
    split <;> omega
  have ez : z = (iI b).toUInt32 := by
    rcases hz with hz | ⟨a, _⟩
    · exact hz.2
    · exact absurd (sn_nan a) hn
  have c := cmpv (z := z) (by rw [ez]; exact hn)
  rw [c.1, c.2, ez, hu]
  unfold hzv
  by_cases s : b < 0
  · rw [if_pos s, if_pos s]
    unfold vf_n32
    decide +kernel
  · rw [if_neg s, if_neg s, fk _ (by omega), if_neg (by omega)]
    exact ⟨by omega, by omega, (haze_ok (by omega)).1, rfl⟩
theorem hzv_b {b : Int} (h : hzk b = true) : 0 ≤ (hzv b).toInt ∧ (hzv b).toInt ≤ 100 := by
  have h := of_decide_eq_true h
  unfold hzv
  by_cases s : b < 0
  · rw [if_pos s]
    decide
  · rw [if_neg s]
    exact (haze_ok (by omega)).2
