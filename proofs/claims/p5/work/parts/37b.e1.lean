/-! ARITHMETIC: what the class counts and what the model counts is one -/
theorem i64_lt (a b : Int64) : a < b ↔ a.toInt < b.toInt := Int64.lt_iff_toInt_lt
theorem neg_iff (a : Int64) : a < 0 ↔ a.toInt < 0 := by rw [i64_lt, l0]
theorem msb_neg (a : Int64) : a < 0 ↔ a.toBitVec.msb = true := by
  rw [neg_iff]
  show a.toBitVec.toInt < 0 ↔ _
  rw [BitVec.msb_eq_toInt]
  simp
theorem xor_neg (a b : Int64) : a ^^^ b < 0 ↔ ¬ (a < 0 ↔ b < 0) := by
  rw [msb_neg, msb_neg a, msb_neg b, Int64.toBitVec_xor, BitVec.msb_xor]
  cases a.toBitVec.msb <;> cases b.toBitVec.msb <;> simp
theorem and_neg (a b : Int64) : a &&& b < 0 ↔ a < 0 ∧ b < 0 := by
  rw [msb_neg, msb_neg a, msb_neg b, Int64.toBitVec_and, BitVec.msb_and]
  cases a.toBitVec.msb <;> cases b.toBitVec.msb <;> simp
theorem tmod_rng (a b : Int) : (0 ≤ a → 0 ≤ a.tmod b ∧ a.tmod b ≤ a) ∧ (a ≤ 0 → a ≤ a.tmod b ∧ a.tmod b ≤ 0) := by
  have h : (a.tmod b).natAbs ≤ a.natAbs := by
    rw [Int.natAbs_tmod]
    exact Nat.mod_le _ _
  refine ⟨fun h0 => ?_, fun h0 => ?_⟩
  · have h1 := Int.tmod_nonneg b h0
    omega
  · have h1 := Int.tmod_nonneg b (a := -a) (by omega)
    rw [Int.neg_tmod] at h1
    omega
theorem wRem_i (a b : Int64) : (wRem a b).toInt = a.toInt.tmod b.toInt := by
  have u1 := a.toInt_lt
  have u2 := a.le_toInt
  have hr := tmod_rng a.toInt b.toInt
  unfold wRem
  rw [Int64.toInt_sub, Int64.toInt_mul, Int64.toInt_div]
  simp only [Int.bmod_mul_bmod, Int.sub_bmod_bmod]
  have e2 : a.toInt - a.toInt.tdiv b.toInt * b.toInt = a.toInt.tmod b.toInt := by
    have := Int.tdiv_mul_add_tmod a.toInt b.toInt
    omega
  rw [e2]
  rcases Int.le_total 0 a.toInt with h | h
  · have := hr.1 h
    exact Int.bmod_eq_of_le (by omega) (by omega)
  · have := hr.2 h
    exact Int.bmod_eq_of_le (by omega) (by omega)
theorem wRem_0 (a b : Int64) : wRem a b = 0 ↔ a / b * b = a := by
  unfold wRem
  rw [Int64.sub_eq_iff_eq_add, Int64.zero_add]
  exact eq_comm
theorem mRest_eq {a b : Int64} (hb : ¬ b = 0) : mRest a b = wRest a b := by
  unfold mRest wRest
  rw [if_neg hb]
theorem mFloor_eq {a b : Int64} (hb : ¬ b = 0) : mFloor a b = wFloor a b := by
  unfold mFloor wFloor wFDiv
  rw [if_neg hb]
  have h2 := xor_neg a b
  by_cases q : wRem a b = 0
  · have q1 := (wRem_0 a b).mp q
    rw [if_pos q]
    by_cases q2 : a ^^^ b < 0
    · rw [if_pos q2, if_pos q1]
    · rw [if_neg q2]
  · have q1 : ¬ a / b * b = a := fun e => q ((wRem_0 a b).mpr e)
    rw [if_neg q]
    by_cases qa : a < 0
    · rw [if_pos qa]
      by_cases qb : b < 0
      · rw [if_pos qb, if_neg (fun e => (h2.mp e) ⟨fun _ => qb, fun _ => qa⟩)]
      · rw [if_neg qb, if_pos (h2.mpr (fun e => qb (e.mp qa))), if_neg q1]
    · rw [if_neg qa]
      by_cases qb : b < 0
      · rw [if_pos qb, if_pos (h2.mpr (fun e => qa (e.mpr qb))), if_neg q1]
      · rw [if_neg qb, if_neg (fun e => (h2.mp e) ⟨fun h => absurd h qa, fun h => absurd h qb⟩)]
theorem ex_sum {l : Int32} (a b : Int64) (hl : ¬ l = 0) : wExact l a b 0 = mWithin l a b 0 := by
  unfold wExact mWithin wTrue wWithin wJoin sg
  simp only [if_neg hl, if_true]
  by_cases A : a < 0 <;> by_cases B : b < 0 <;> by_cases C : a + b < 0 <;> simp [and_neg, xor_neg, A, B, C]
theorem ex_dif {l : Int32} (a b : Int64) (hl : ¬ l = 0) : wExact l a b 1 = mWithin l a b 1 := by
  have e : ¬ (1 : Int32) = 0 := by decide
  unfold wExact mWithin wTrue wWithin wJoin sg
  simp only [if_neg hl, if_neg e, if_true]
  by_cases A : a < 0 <;> by_cases B : b < 0 <;> by_cases C : a - b < 0 <;> simp [and_neg, xor_neg, A, B, C]
theorem shr32 (a : Int64) : (a >>> sh32).toInt = a.toInt / 4294967296 := by
  show (a >>> sh32).toBitVec.toInt = _
  rw [Int64.toBitVec_shiftRight, BitVec.toInt_sshiftRight', show (sh32.toBitVec.smod 64).toNat = 32 from by decide, Int.shiftRight_eq_div_pow]
  rfl
theorem tn_cond (a : Int64) : a.toInt = (a.toBitVec.toNat : Int) ∨ a.toInt = (a.toBitVec.toNat : Int) - 18446744073709551616 := by
  have e : a.toInt = a.toBitVec.toInt := rfl
  rw [e, BitVec.toInt_eq_toNat_cond]
  split
  · exact Or.inl rfl
  · exact Or.inr rfl
theorem low32 (a : Int64) : (a &&& 4294967295).toInt = a.toInt % 4294967296 := by
  have h : (a &&& 4294967295).toBitVec.toNat = a.toBitVec.toNat % 4294967296 := by
    rw [Int64.toBitVec_and, BitVec.toNat_and, show (4294967295 : Int64).toBitVec.toNat = 2 ^ 32 - 1 from rfl, Nat.and_two_pow_sub_one_eq_mod]
  rw [tni _ h (by omega)]
  rcases tn_cond a with e | e <;> rw [e] <;> omega
theorem ushr32 (a : Int64) : ((a.toUInt64 >>> ((32 : Int32).toInt64.toUInt64 &&& Int64.toUInt64 63)).toInt64).toInt = ((a.toBitVec.toNat / 4294967296 : Nat) : Int) := by
  have h : ((a.toUInt64 >>> ((32 : Int32).toInt64.toUInt64 &&& Int64.toUInt64 63)).toInt64).toBitVec.toNat = a.toBitVec.toNat / 4294967296 := by
    show (a.toUInt64 >>> ((32 : Int32).toInt64.toUInt64 &&& Int64.toUInt64 63)).toNat = _
    rw [UInt64.toNat_shiftRight]
    have : ((32 : Int32).toInt64.toUInt64 &&& Int64.toUInt64 63).toNat % 64 = 32 := by decide
    rw [this, Nat.shiftRight_eq_div_pow]
    rfl
  have hu := a.toBitVec.isLt
  exact tni _ h (by omega)
theorem mul_rng {x y X Y : Int} (h1 : -X ≤ x) (h2 : x ≤ X) (h3 : 0 ≤ y) (h4 : y ≤ Y) (hX : 0 ≤ X) : -(X * Y) ≤ x * y ∧ x * y ≤ X * Y := by
  have e1 : x * y ≤ X * y := Int.mul_le_mul_of_nonneg_right h2 h3
  have e2 : X * y ≤ X * Y := Int.mul_le_mul_of_nonneg_left h4 hX
  have e3 : (-X) * y ≤ x * y := Int.mul_le_mul_of_nonneg_right h1 h3
  rw [Int.neg_mul] at e3
  omega
theorem mul4 (x y u v K : Int) : (x * K + u) * (y * K + v) = x * y * (K * K) + x * v * K + u * y * K + u * v := by
  have e : x * K * (y * K) = x * y * (K * K) := by
    rw [Int.mul_assoc x K, ← Int.mul_assoc K y K, Int.mul_comm K y, Int.mul_assoc y K K, ← Int.mul_assoc x y]
  rw [Int.add_mul, Int.mul_add, Int.mul_add, e, Int.mul_right_comm x K v, ← Int.mul_assoc u y K]
  omega
/-- the upper half of the true product -/
theorem above_i (a b : Int64) : ∃ low : Int, 0 ≤ low ∧ low < 18446744073709551616 ∧ a.toInt * b.toInt = (mAbove a b).toInt * 18446744073709551616 + low := by
  have a1 := a.toInt_lt
  have a2 := a.le_toInt
  have b1 := b.toInt_lt
  have b2 := b.le_toInt
  have hah := shr32 a
  have hbh := shr32 b
  have hal := low32 a
  have hbl := low32 b
  generalize hx : a.toInt / 4294967296 = x at hah
  generalize hy : b.toInt / 4294967296 = y at hbh
  generalize hu : a.toInt % 4294967296 = u at hal
  generalize hv : b.toInt % 4294967296 = v at hbl
  have ru : 0 ≤ u ∧ u ≤ 4294967295 := by omega
  have rv : 0 ≤ v ∧ v ≤ 4294967295 := by omega
  have rx : -2147483648 ≤ x ∧ x ≤ 2147483648 := by omega
  have ry : -2147483648 ≤ y ∧ y ≤ 2147483648 := by omega
  have rxv := mul_rng rx.1 rx.2 rv.1 rv.2 (by decide)
  have ryu := mul_rng ry.1 ry.2 ru.1 ru.2 (by decide)
  have rx2 : x ≤ 2147483647 := by omega
  have ry2 : y ≤ 2147483647 := by omega
  have rxv2 : x * v ≤ 2147483647 * 4294967295 := by
    have e1 : x * v ≤ 2147483647 * v := Int.mul_le_mul_of_nonneg_right rx2 rv.1
    omega
  have ryu2 : y * u ≤ 2147483647 * 4294967295 := by
    have e1 : y * u ≤ 2147483647 * u := Int.mul_le_mul_of_nonneg_right ry2 ru.1
    omega
  have ruv : 0 ≤ u * v ∧ u * v ≤ 4294967295 * 4294967295 := by
    have e1 : u * v ≤ 4294967295 * v := Int.mul_le_mul_of_nonneg_right ru.2 rv.1
    have e2 : 0 ≤ u * v := Int.mul_nonneg ru.1 rv.1
    omega
  have huy : u * y = y * u := Int.mul_comm u y
  have rxy : -4611686018427387904 ≤ x * y ∧ x * y ≤ 4611686018427387904 := by
    rcases Int.le_total 0 y with h | h
    · have := mul_rng rx.1 rx.2 h ry.2 (by decide)
      omega
    · have := mul_rng rx.1 rx.2 (y := -y) (Y := 2147483648) (by omega) (by omega) (by decide)
      rw [Int.mul_neg] at this
      omega
  have eA : a.toInt * b.toInt = x * y * (4294967296 * 4294967296) + x * v * 4294967296 + u * y * 4294967296 + u * v := by
    have e1 : a.toInt = x * 4294967296 + u := by omega
    have e2 : b.toInt = y * 4294967296 + v := by omega
    rw [e1, e2]
    exact mul4 x y u v 4294967296
  have hp0 : ((a &&& 4294967295) * (b &&& 4294967295)).toBitVec.toNat = (u * v).toNat := by
    have hun := tnn _ (hal.trans (Int.toNat_of_nonneg ru.1).symm)
    have hvn := tnn _ (hbl.trans (Int.toNat_of_nonneg rv.1).symm)
    have hc : ((u.toNat * v.toNat : Nat) : Int) = u * v := by rw [Int.natCast_mul, Int.toNat_of_nonneg ru.1, Int.toNat_of_nonneg rv.1]
    rw [Int64.toBitVec_mul, BitVec.toNat_mul, hun, hvn, Nat.mod_eq_of_lt (by omega)]
    omega
  have hsh := ushr32 ((a &&& 4294967295) * (b &&& 4294967295))
  rw [hp0] at hsh
  generalize hM : (a >>> sh32) * (b &&& 4294967295) + (((a &&& 4294967295) * (b &&& 4294967295)).toUInt64 >>> ((32 : Int32).toInt64.toUInt64 &&& Int64.toUInt64 63)).toInt64 = mid
  have hm : mid.toInt = x * v + (u * v) / 4294967296 := by
    rw [← hM, Int64.toInt_add, Int64.toInt_mul, hah, hbl, hsh, Int.bmod_eq_of_le (n := x * v) (by omega) (by omega), Int.bmod_eq_of_le (by omega) (by omega)]
    omega
  have hml := low32 mid
  have hmh := shr32 mid
  generalize hO : (a &&& 4294967295) * (b >>> sh32) + (mid &&& 4294967295) = oth
  have ho : oth.toInt = y * u + mid.toInt % 4294967296 := by
    rw [← hO, Int64.toInt_add, Int64.toInt_mul, hal, hbh, hml, huy, Int.bmod_eq_of_le (n := y * u) (by omega) (by omega), Int.bmod_eq_of_le (by omega) (by omega)]
  have hoh := shr32 oth
  have hR : (mAbove a b).toInt = x * y + mid.toInt / 4294967296 + oth.toInt / 4294967296 := by
    unfold mAbove
    rw [hM, hO, Int64.toInt_add, Int64.toInt_add, Int64.toInt_mul, hah, hbh, hmh, hoh, Int.bmod_eq_of_le (n := x * y) (by omega) (by omega), Int.bmod_eq_of_le (n := x * y + mid.toInt / 4294967296) (by omega) (by omega), Int.bmod_eq_of_le (by omega) (by omega)]
  refine ⟨oth.toInt % 4294967296 * 4294967296 + (u * v) % 4294967296, by omega, by omega, ?_⟩
  rw [eA, hR, huy]
  omega
