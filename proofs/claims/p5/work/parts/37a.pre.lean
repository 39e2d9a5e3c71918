/-! put: the class and the model agree -/
theorem ok4_n4 {k : Int32} (h : ok4 k) : n4 k := by
  refine ⟨h.1, fun e => ?_⟩
  have h2 := h.2
  have i3 : (3 : Int32).toInt = 3 := by decide
  have i4 : (4 : Int32).toInt = 4 := by decide
  rw [Int32.lt_iff_toInt_lt] at e h2
  omega
theorem jn (hi lo : Int32) : hi.toInt64 <<< sh32 ||| (lo.toInt64 &&& 4294967295) = hi.toInt64 * 4294967296 + (if lo < 0 then lo.toInt64 + 4294967296 else lo.toInt64) := by
  have hl : lo.toInt64.toInt = lo.toInt := Int32.toInt_toInt64 lo
  have l1 := lo.le_toInt
  have l2 := lo.toInt_lt
  have hh := hi.toInt64.toBitVec.isLt
  have hlt := lo.toInt64.toBitVec.isLt
  have e0 : (0 : Int32).toInt = 0 := by decide
  have hc : lo.toInt64.toInt = lo.toInt64.toBitVec.toInt := rfl
  rw [hc, BitVec.toInt_eq_toNat_cond] at hl
  have e1 : (hi.toInt64 <<< sh32).toBitVec = hi.toInt64.toBitVec <<< 32 := by
    rw [Int64.toBitVec_shiftLeft]
    have : sh32.toBitVec.smod 64 = 32#64 := by decide
    rw [this]
    rfl
  have n1 : (hi.toInt64 <<< sh32).toBitVec.toNat = (hi.toInt64.toBitVec.toNat % 4294967296) <<< 32 := by
    rw [e1, BitVec.toNat_shiftLeft, Nat.shiftLeft_eq, Nat.shiftLeft_eq]
    omega
  have n2 : (lo.toInt64 &&& 4294967295).toBitVec.toNat = lo.toInt64.toBitVec.toNat % 4294967296 := by
    rw [Int64.toBitVec_and, BitVec.toNat_and, show (4294967295 : Int64).toBitVec.toNat = 2 ^ 32 - 1 from rfl, Nat.and_two_pow_sub_one_eq_mod]
  refine Int64.toBitVec_inj.mp (BitVec.eq_of_toNat_eq ?_)
  rw [Int64.toBitVec_or, BitVec.toNat_or, n1, n2, ← Nat.shiftLeft_add_eq_or_of_lt (by omega), Nat.shiftLeft_eq]
  have em : (4294967296 : Int64).toBitVec.toNat = 4294967296 := rfl
  by_cases q : lo < 0
  · rw [if_pos q]
    rw [Int32.lt_iff_toInt_lt, e0] at q
    rw [Int64.toBitVec_add, Int64.toBitVec_add, Int64.toBitVec_mul, BitVec.toNat_add, BitVec.toNat_add, BitVec.toNat_mul, em]
    split at hl <;> omega
  · rw [if_neg q]
    rw [Int32.lt_iff_toInt_lt, e0] at q
    rw [Int64.toBitVec_add, Int64.toBitVec_mul, BitVec.toNat_add, BitVec.toNat_mul, em]
    split at hl <;> omega
theorem ord_sg (v : Int64) : wOrder v 0 = mSign v := rfl
theorem now_set (l k : Int32) (v : Int64) (s : MS) : mNow l k (sSet l k v s) = if l = 0 then v.toInt32.toInt64 else v := by
  unfold mNow sSet
  by_cases q : l = 0
  · rw [if_pos q, if_pos q, if_pos q]
    show vp_updL (mI s) k.toNatClampNeg v.toInt32.toInt64 k.toNatClampNeg = _
    simp [vp_updL]
  · rw [if_neg q, if_neg q, if_neg q]
    show vp_updL (mL s) k.toNatClampNeg v k.toNatClampNeg = _
    simp [vp_updL]
theorem th_set (l k : Int32) (v : Int64) (s : MS) : mTh (sSet l k v s) = mTh s := by
  unfold sSet
  by_cases q : l = 0
  · rw [if_pos q]
  · rw [if_neg q]
theorem i6432 (a : Int32) : a.toInt64.toInt32 = a := by simp
