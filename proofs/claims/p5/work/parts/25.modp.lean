/-! THE MODEL: powers, moduli, meetings, its house -/
theorem once_nz {a b c : Int32} (h : okV a b c) (hq : ¬ 9223372036854775807 / c.toInt64 < a.toInt64 * b.toInt64) : ¬ a.toInt64 * b.toInt64 * c.toInt64 = 0 := by
  obtain ⟨h1, h2, h3⟩ := h
  rw [Int32.lt_iff_toInt_lt] at h1 h2 h3
  have e1 : (1 : Int32).toInt = 1 := by decide
  rw [e1] at h1 h2 h3
  have ua := a.toInt_lt
  have ub := b.toInt_lt
  have uc := c.toInt_lt
  have hab : (a.toInt64 * b.toInt64).toInt = a.toInt * b.toInt := by
    rw [Int64.toInt_mul, Int32.toInt_toInt64, Int32.toInt_toInt64]
    have k1 : a.toInt * b.toInt ≤ 2147483648 * 2147483648 := Int.mul_le_mul (by omega) (by omega) (by omega) (by omega)
    have k2 : 0 ≤ a.toInt * b.toInt := Int.mul_nonneg (by omega) (by omega)
    exact Int.bmod_eq_of_le (by omega) (by omega)
  have hdv : ((9223372036854775807 : Int64) / c.toInt64).toInt = 9223372036854775807 / c.toInt := by
    rw [Int64.toInt_div, Int32.toInt_toInt64]
    have e9 : (9223372036854775807 : Int64).toInt = 9223372036854775807 := by decide
    rw [e9, Int.tdiv_eq_ediv_of_nonneg (by decide)]
    have k1 : (9223372036854775807 : Int) / c.toInt ≤ 9223372036854775807 := Int.ediv_le_self _ (by decide)
    have k2 : 0 ≤ (9223372036854775807 : Int) / c.toInt := Int.ediv_nonneg (by decide) (by omega)
    exact Int.bmod_eq_of_le (by omega) (by omega)
  rw [Int64.lt_iff_toInt_lt, hab, hdv] at hq
  have hle : a.toInt * b.toInt ≤ 9223372036854775807 / c.toInt := by omega
  have hm : a.toInt * b.toInt * c.toInt ≤ 9223372036854775807 := (Int.le_ediv_iff_mul_le (by omega)).mp hle
  have hp : 0 < a.toInt * b.toInt := Int.mul_pos (by omega) (by omega)
  have hpp : 0 < a.toInt * b.toInt * c.toInt := Int.mul_pos hp (by omega)
  intro e
  have e2 := congrArg Int64.toInt e
  rw [Int64.toInt_mul, hab, Int32.toInt_toInt64, Int.bmod_eq_of_le (by omega) (by omega)] at e2
  have e0 : (0 : Int64).toInt = 0 := by decide
  omega
theorem half {e : Int32} (h : 0 < e) : (e / 2).toInt = e.toInt / 2 := by
  rw [Int32.lt_iff_toInt_lt] at h
  have e0 : (0 : Int32).toInt = 0 := by decide
  have e2 : (2 : Int32).toInt = 2 := by decide
  have u := e.toInt_lt
  rw [Int32.toInt_div, e2, Int.tdiv_eq_ediv_of_nonneg (by omega)]
  exact Int.bmod_eq_of_le (by omega) (by omega)
theorem gcdL_le : ∀ (n : Nat) (g l : Int64), 0 < g.toInt → l.toInt ≤ g.toInt → 0 < (mGcdL n g l).toInt ∧ (mGcdL n g l).toInt ≤ g.toInt
  | 0, g, l, h1, h2 => by
    rw [mGcdL]
    exact ⟨h1, Int.le_refl _⟩
  | n + 1, g, l, h1, h2 => by
    rw [mGcdL]
    by_cases q : 0 < l
    · rw [if_pos q]
      have hl : 0 < l.toInt := by
        rw [Int64.lt_iff_toInt_lt] at q
        have e0 : (0 : Int64).toInt = 0 := by decide
        omega
      have := gcdL_le n l (wRem g l) hl (Int.le_of_lt (wRem_lt q))
      exact ⟨this.1, by omega⟩
    · rw [if_neg q]
      exact ⟨h1, Int.le_refl _⟩
theorem abs_m {m : Int32} (h : ¬ m = 0) : 0 < (lAbs m.toInt64).toInt ∧ (lAbs m.toInt64).toInt ≤ 2147483648 := by
  have h0 : ¬ m.toInt = 0 := fun e => h (Int32.toInt_inj.mp (e.trans (by decide)))
  have u := m.toInt_lt
  have v := m.le_toInt
  have e0 : (0 : Int64).toInt = 0 := by decide
  unfold lAbs
  by_cases q : m.toInt64 < 0
  · rw [if_pos q]
    rw [Int64.lt_iff_toInt_lt, Int32.toInt_toInt64, e0] at q
    rw [Int64.toInt_neg, Int32.toInt_toInt64, Int.bmod_eq_of_le (by omega) (by omega)]
    omega
  · rw [if_neg q]
    rw [Int64.lt_iff_toInt_lt, Int32.toInt_toInt64, e0] at q
    rw [Int32.toInt_toInt64]
    omega
theorem abs_id {v : Int64} (h : 0 < v.toInt) : lAbs v = v := by
  unfold lAbs
  rw [if_neg]
  rw [Int64.lt_iff_toInt_lt]
  have e0 : (0 : Int64).toInt = 0 := by decide
  omega
theorem gcd_m {a b : Int64} (ha : 0 < a.toInt) (hb : 0 < b.toInt) : 0 < (mGcd a b).toInt ∧ (mGcd a b).toInt ≤ b.toInt := by
  unfold mGcd
  rw [abs_id ha, abs_id hb]
  obtain ⟨n, hn⟩ : ∃ n, b.toInt.toNat = n + 1 := ⟨b.toInt.toNat - 1, by omega⟩
  have e0 : (0 : Int64).toInt = 0 := by decide
  have q : 0 < b := by
    rw [Int64.lt_iff_toInt_lt]
    omega
  rw [hn, mGcdL, if_pos q]
  exact gcdL_le n b (wRem a b) hb (Int.le_of_lt (wRem_lt q))
theorem nz_pos {v : Int64} (h : 0 < v.toInt) : ¬ v = 0 := fun e => by
  rw [e] at h
  exact absurd h (by decide)
theorem div_pos {a b : Int64} (hb : 0 < b.toInt) (h : b.toInt ≤ a.toInt) : 0 < (a / b).toInt := by
  have ua := a.toInt_lt
  rw [Int64.toInt_div, Int.tdiv_eq_ediv_of_nonneg (by omega)]
  have k1 : a.toInt / b.toInt ≤ a.toInt := Int.ediv_le_self _ (by omega)
  have k2 : 1 ≤ a.toInt / b.toInt := (Int.le_ediv_iff_mul_le hb).mpr (by omega)
  rw [Int.bmod_eq_of_le (by omega) (by omega)]
  omega
def mPowL (m : Int64) : Nat → Int64 → Int64 → Int32 → Int64
  | 0, v, _, _ => v
  | n + 1, v, b, e => if 0 < e then mPowL m n (if e - e / 2 * 2 = 1 then mRest (v * b) m else v) (mRest (b * b) m) (e / 2) else v
termination_by n => n
def mgL (r : Int32) : Nat → Int32 → MS → MS
  | 0, _, s => s
  | n + 1, i, s => mgL r n (i + 1) (mCome r i (mRes r i s).toInt64 s).2
termination_by n => n
def sSetM (r m : Int32) (s : MS) : MS := (s.1, s.2.1, s.2.2.1, upd (mM s) r.toNatClampNeg m, s.2.2.2.2)
section MODP
variable {P : GP} {K : Kt} {x : XS} {t : mH}
theorem l_mpow {s : MS} {r k e0 : Int32} (hr : ok3 r) (hz : ¬ (mMod r s).toInt64 = 0) (hk : ok4 k) : ∀ (n : Nat) (v b : Int64) (e : Int32), e.toInt < 2 ^ n → anM K x t (mCome r k (mPowL (mMod r s).toInt64 n v b e) s) →
    G P n_M_power K 10 73 [some (.ref 5), some (.int r), some (.int k), some (.int e0), some (.long v), none, some (.long b), none, some (.int e)] [] (hm s x t) 0 0
  | 0, v, b, e, hb, hK => by
    refine go ok_M_power 80 ?_
    rw [mPowL] at hK
    have e1 : (0 : Int32).toInt = 0 := by decide
    refine ⟨fun q => ?_, fun q => ?_⟩
    · rw [Int32.lt_iff_toInt_lt] at q
      omega
    · exact ⟨_, _, _, L_come _ _ _ hr hk hz hK, by decide, by decide, by decide⟩
  | n + 1, v, b, e, hb, hK => by
    refine go ok_M_power 80 ?_
    rw [mPowL] at hK
    refine ⟨fun q => ?_, fun q => ?_⟩
    · rw [if_pos q] at hK
      have hh := half q
      have hn : (e / 2).toInt < 2 ^ n := by
        rw [hh]
        rw [Int.pow_succ] at hb
        omega
      refine ⟨by decide, ?_⟩
      refine ⟨fun q2 => ?_, fun q2 => ?_⟩
      · rw [if_pos q2] at hK
        refine ⟨vp3 hr, ?_⟩
        refine ⟨_, _, _, L_mrest _ _ hz ?_, by decide, by decide, by decide⟩
        refine ⟨vp3 hr, ?_⟩
        refine ⟨_, _, _, L_mrest _ _ hz ?_, by decide, by decide, by decide⟩
        refine ⟨by decide, ?_⟩
        exact l_mpow hr hz hk n _ _ _ hn hK
      · rw [if_neg q2] at hK
        refine ⟨vp3 hr, ?_⟩
        refine ⟨_, _, _, L_mrest _ _ hz ?_, by decide, by decide, by decide⟩
        refine ⟨by decide, ?_⟩
        exact l_mpow hr hz hk n _ _ _ hn hK
    · rw [if_neg q] at hK
      exact ⟨_, _, _, L_come _ _ _ hr hk hz hK, by decide, by decide, by decide⟩
theorem l_mmod {r m o : Int32} (hr : ok3 r) : ∀ (n : Nat) (i : Int32) (s : MS), ¬ (mMod r s).toInt64 = 0 → 0 ≤ i.toInt → i.toInt + n = 4 → anM K x t (o, mgL r n i s) →
    G P n_M_modulus K 10 48 [some (.ref 5), some (.int r), some (.int m), some (.int o), some (.int i)] [] (hm s x t) 0 0
  | 0, i, s, hz, h0, hb, hK => by
    refine go ok_M_modulus 80 ?_
    have hn := i32_nlt (m := 4) (by omega) 4 (by decide) (b := i)
    refine ⟨fun q => absurd q hn, fun q => ?_⟩
    rw [mgL] at hK
    exact hK
  | n + 1, i, s, hz, h0, hb, hK => by
    refine go ok_M_modulus 80 ?_
    have hn := i32_lt (b := i) (n := n) (m := 4) (by omega) 4 (by decide)
    have hs := i32_s (b := i) (n := n) (m := 4) h0 (by omega) (by decide)
    have hz0 : (0 : Int32).toInt = 0 := by decide
    have hi : ok4 i := ⟨fun e => by rw [Int32.lt_iff_toInt_lt] at e; omega, hn⟩
    refine ⟨fun q => ?_, fun q => absurd hn q⟩
    rw [mgL] at hK
    rcases c3 hr with rfl | rfl | rfl
    · refine ⟨vp3 hr, fun q9 e9 => ?_, fun e9 => absurd e9 (Option.some_ne_none _)⟩
      obtain rfl := Option.some.inj e9
      refine ⟨vp4 hi, ?_⟩
      refine ⟨_, _, _, L_come _ _ _ hr hi hz ?_, by decide, by decide, by decide⟩
      exact l_mmod hr n (i + 1) (mCome 0 i (mRes 0 i s).toInt64 s).2 hz (by omega) (by omega) hK
    · refine ⟨vp3 hr, fun q9 e9 => ?_, fun e9 => absurd e9 (Option.some_ne_none _)⟩
      obtain rfl := Option.some.inj e9
      refine ⟨vp4 hi, ?_⟩
      refine ⟨_, _, _, L_come _ _ _ hr hi hz ?_, by decide, by decide, by decide⟩
      exact l_mmod hr n (i + 1) (mCome 1 i (mRes 1 i s).toInt64 s).2 hz (by omega) (by omega) hK
    · refine ⟨vp3 hr, fun q9 e9 => ?_, fun e9 => absurd e9 (Option.some_ne_none _)⟩
      obtain rfl := Option.some.inj e9
      refine ⟨vp4 hi, ?_⟩
      refine ⟨_, _, _, L_come _ _ _ hr hi hz ?_, by decide, by decide, by decide⟩
      exact l_mmod hr n (i + 1) (mCome 2 i (mRes 2 i s).toInt64 s).2 hz (by omega) (by omega) hK
end MODP
