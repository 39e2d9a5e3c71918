/-! ARITHMETIC: which results are exact; averages -/
theorem bm_c (x : Int) : (x.bmod (2 ^ 64) = x % 18446744073709551616 ∧ x % 18446744073709551616 < 9223372036854775808) ∨ (x.bmod (2 ^ 64) = x % 18446744073709551616 - 18446744073709551616 ∧ 9223372036854775808 ≤ x % 18446744073709551616) := by
  rw [Int.bmod_def]
  split
  · exact Or.inl ⟨by omega, by omega⟩
  · exact Or.inr ⟨by omega, by omega⟩
theorem lm1 : (-1 : Int64).toInt = -1 := by decide
theorem lmin : (-9223372036854775808 : Int64).toInt = -9223372036854775808 := by decide
theorem prod_m (a b : Int64) : mAbove a b = (if a * b < 0 then -1 else 0 : Int32).toInt64 ↔ (a * b).toInt = a.toInt * b.toInt := by
  obtain ⟨low, h1, h2, h3⟩ := above_i a b
  have hr := bm_c (a.toInt * b.toInt)
  rw [← Int64.toInt_mul] at hr
  generalize a.toInt * b.toInt = P at h3 hr
  have e : mAbove a b = (if a * b < 0 then -1 else 0 : Int32).toInt64 ↔ (mAbove a b).toInt = if (a * b).toInt < 0 then -1 else 0 := by
    rw [← Int64.toInt_inj]
    by_cases q : a * b < 0
    · rw [if_pos q, if_pos ((neg_iff _).mp q)]
      rfl
    · rw [if_neg q, if_neg (fun e => q ((neg_iff _).mpr e))]
      rfl
  rw [e]
  split <;> omega
theorem tdiv_rng {r b : Int} (h1 : -9223372036854775808 ≤ r) (h2 : r ≤ 9223372036854775807) (hb : b ≠ 0) (hb1 : b ≠ -1) : -9223372036854775808 ≤ r.tdiv b ∧ r.tdiv b ≤ 9223372036854775807 := by
  by_cases q : b = 1
  · subst q
    rw [Int.tdiv_one]
    exact ⟨h1, h2⟩
  · have e := Int.natAbs_tdiv r b
    have h3 : r.natAbs.div b.natAbs ≤ r.natAbs / 2 := Nat.div_le_div_left (by omega) (by decide)
    rw [← e] at h3
    generalize r.tdiv b = Z at *
    omega
theorem n20 : ¬ (2 : Int32) = 0 := by decide
theorem n21 : ¬ (2 : Int32) = 1 := by decide
theorem n10 : ¬ (1 : Int32) = 0 := by decide
theorem n01 : ¬ (0 : Int32) = 1 := by decide
theorem prod_x (a b : Int64) : wTrue a b 2 (a * b) = 1 ↔ (a * b).toInt = a.toInt * b.toInt := by
  have a1 := a.toInt_lt
  have a2 := a.le_toInt
  have r1 := (a * b).toInt_lt
  have r2 := (a * b).le_toInt
  have hr := bm_c (a.toInt * b.toInt)
  rw [← Int64.toInt_mul] at hr
  unfold wTrue
  rw [if_neg (by decide), if_neg (by decide)]
  by_cases q0 : b = 0
  · subst q0
    rw [if_pos rfl, l0, Int.mul_zero] at *
    refine ⟨fun _ => ?_, fun _ => rfl⟩
    omega
  · rw [if_neg q0]
    have q0i : b.toInt ≠ 0 := fun e => q0 (Int64.toInt_inj.mp (e.trans l0.symm))
    by_cases q1 : b = -1
    · subst q1
      rw [if_pos rfl]
      rw [lm1] at hr ⊢
      by_cases q2 : a = -9223372036854775808
      · rw [if_pos q2]
        have := congrArg Int64.toInt q2
        rw [lmin] at this
        refine ⟨fun e => absurd e (by decide), fun e => ?_⟩
        omega
      · rw [if_neg q2]
        have : a.toInt ≠ -9223372036854775808 := fun e => q2 (Int64.toInt_inj.mp (e.trans lmin.symm))
        refine ⟨fun _ => ?_, fun _ => rfl⟩
        omega
    · rw [if_neg q1]
      have q1i : b.toInt ≠ -1 := fun e => q1 (Int64.toInt_inj.mp (e.trans lm1.symm))
      have hd : (a * b / b).toInt = (a * b).toInt.tdiv b.toInt := by
        have := tdiv_rng (r := (a * b).toInt) (b := b.toInt) (by omega) (by omega) q0i q1i
        rw [Int64.toInt_div]
        exact Int.bmod_eq_of_le (by omega) (by omega)
      have hm : ((a * b).toInt.tmod b.toInt).natAbs < b.toInt.natAbs := by
        rw [Int.natAbs_tmod]
        exact Nat.mod_lt _ (by omega)
      have hs := Int.tdiv_mul_add_tmod (a * b).toInt b.toInt
      have b1 := b.toInt_lt
      have b2 := b.le_toInt
      by_cases q2 : a * b / b = a
      · rw [if_pos q2]
        have e2 := congrArg Int64.toInt q2
        rw [hd] at e2
        rw [e2] at hs
        refine ⟨fun _ => ?_, fun _ => rfl⟩
        generalize a.toInt * b.toInt = Q at *
        omega
      · rw [if_neg q2]
        refine ⟨fun e => absurd e (by decide), fun e => ?_⟩
        refine absurd (Int64.toInt_inj.mp ?_) q2
        rw [hd, e]
        exact Int.mul_tdiv_cancel _ q0i
theorem wTrue_01 (a b : Int64) (w : Int32) (r : Int64) : wTrue a b w r = 0 ∨ wTrue a b w r = 1 := by
  unfold wTrue
  repeat' split
  all_goals first | exact Or.inl rfl | exact Or.inr rfl
theorem ex_pro {l : Int32} (a b : Int64) (hl : ¬ l = 0) : wExact l a b 2 = mWithin l a b 2 := by
  have e1 := prod_x a b
  have e2 := prod_m a b
  unfold wExact mWithin wWithin wJoin
  simp only [if_neg n20, if_neg n21, if_neg hl]
  rcases wTrue_01 a b 2 (a * b) with h | h
  · simp only [h, if_true]
    rw [if_neg (fun e => absurd (e1.mpr (e2.mp e)) (by rw [h]; decide))]
  · simp only [h, if_neg n10]
    rw [if_pos (e2.mpr (e1.mp h))]
def inI (a : Int64) : Prop := -2147483648 ≤ a.toInt ∧ a.toInt < 2147483648
theorem true_int {a b : Int64} (ha : inI a) (hb : inI b) (w : Int32) : wTrue a b w (wJoin a b w) = 1 := by
  obtain ⟨a1, a2⟩ := ha
  obtain ⟨b1, b2⟩ := hb
  by_cases q0 : w = 0
  · subst q0
    have hr : (a + b).toInt = a.toInt + b.toInt := by
      rw [Int64.toInt_add]
      exact Int.bmod_eq_of_le (by omega) (by omega)
    unfold wTrue wJoin
    simp only [if_true]
    rw [if_neg]
    rw [and_neg, xor_neg, xor_neg, neg_iff, neg_iff, neg_iff, hr]
    omega
  · by_cases q1 : w = 1
    · subst q1
      have hr : (a - b).toInt = a.toInt - b.toInt := by
        rw [Int64.toInt_sub]
        exact Int.bmod_eq_of_le (by omega) (by omega)
      unfold wTrue wJoin
      simp only [if_neg n10, if_true]
      rw [if_neg]
      rw [and_neg, xor_neg, xor_neg, neg_iff, neg_iff, neg_iff, hr]
      omega
    · have hp : wTrue a b w (wJoin a b w) = wTrue a b 2 (a * b) := by
        unfold wTrue wJoin
        simp only [if_neg q0, if_neg q1, if_neg n20, if_neg n21]
      rw [hp, prod_x, Int64.toInt_mul]
      have := mul_rng (x := a.toInt) (y := b.toInt.natAbs) (X := 2147483648) (Y := 2147483648) (by omega) (by omega) (by omega) (by omega) (by decide)
      have e : a.toInt * b.toInt = a.toInt * (b.toInt.natAbs : Int) ∨ a.toInt * b.toInt = -(a.toInt * (b.toInt.natAbs : Int)) := by
        rcases Int.le_total 0 b.toInt with h | h
        · exact Or.inl (by rw [Int.natAbs_of_nonneg h])
        · refine Or.inr ?_
          rw [← Int.mul_neg]
          congr 1
          omega
      exact Int.bmod_eq_of_le (by omega) (by omega)
theorem ex_all {l : Int32} {a b : Int64} (h : l = 0 → inI a ∧ inI b) (w : Int32) : wExact l a b w = mWithin l a b w := by
  by_cases hl : l = 0
  · have ht := true_int (h hl).1 (h hl).2 w
    unfold wExact mWithin wWithin
    rw [ht]
    simp only [if_neg n10, if_pos hl]
    by_cases q : wJoin a b w = (wJoin a b w).toInt32.toInt64
    · simp only [if_pos q, if_neg n10]
    · simp only [if_neg q, if_true]
  · by_cases q0 : w = 0
    · subst q0
      exact ex_sum a b hl
    · by_cases q1 : w = 1
      · subst q1
        exact ex_dif a b hl
      · have := ex_pro a b hl
        unfold wExact mWithin wTrue wJoin at this ⊢
        simp only [if_neg n20, if_neg n21, if_neg hl] at this
        simp only [if_neg q0, if_neg q1, if_neg hl]
        exact this
