/-! powers, common divisors, inverses: the class and the model agree -/
theorem bit_sh : ∀ j : Nat, j < 31 → ((Int32.ofNat j &&& 31).toBitVec.smod 32).toNat = j := by decide
theorem shr_i (e : Int32) {j : Nat} (h : j < 31) : (e >>> (Int32.ofNat j &&& 31)).toInt = e.toInt / ((2 ^ j : Nat) : Int) := by
  show (e >>> (Int32.ofNat j &&& 31)).toBitVec.toInt = _
  rw [Int32.toBitVec_shiftRight, BitVec.toInt_sshiftRight', bit_sh j h, Int.shiftRight_eq_div_pow]
  rfl
theorem and1_32 (a : Int32) : a &&& 1 = 1 ↔ a.toInt % 2 = 1 := by
  have h : (a &&& 1).toBitVec.toNat = a.toBitVec.toNat % 2 := by
    rw [Int32.toBitVec_and, BitVec.toNat_and, show (1 : Int32).toBitVec.toNat = 2 ^ 1 - 1 from rfl, Nat.and_two_pow_sub_one_eq_mod]
  have e : a.toInt = a.toBitVec.toInt := rfl
  rw [e, BitVec.toInt_eq_toNat_cond]
  constructor
  · intro q
    rw [q] at h
    have : (1 : Int32).toBitVec.toNat = 1 := rfl
    split <;> omega
  · intro q
    refine Int32.toBitVec_inj.mp (BitVec.eq_of_toNat_eq ?_)
    rw [h]
    show _ = 1
    split at q <;> omega
theorem i32_two : (2 : Int32).toInt = 2 := by decide
theorem half_i {e : Int32} (h : 0 ≤ e.toInt) : (e / 2).toInt = e.toInt / 2 := by
  have := e.toInt_lt
  rw [Int32.toInt_div, i32_two, Int.tdiv_eq_ediv_of_nonneg h]
  exact Int.bmod_eq_of_le (by omega) (by omega)
theorem odd_i {e : Int32} (h : 0 ≤ e.toInt) : e - e / 2 * 2 = 1 ↔ e.toInt % 2 = 1 := by
  have := e.toInt_lt
  have e1 : (e - e / 2 * 2).toInt = e.toInt % 2 := by
    rw [Int32.toInt_sub, Int32.toInt_mul, half_i h, i32_two, Int.bmod_eq_of_le (n := e.toInt / 2 * 2) (by omega) (by omega), Int.bmod_eq_of_le (by omega) (by omega)]
    omega
  rw [← Int32.toInt_inj, e1, i1]
theorem on_s (j : Nat) : Int32.ofNat j + 1 = Int32.ofNat (j + 1) := (Int32.ofNat_add j 1).symm
theorem raise_0 {e m : Int32} (h : 0 ≤ e.toInt) : ∀ (n j : Nat) (r s : Int32), j + n = 31 → e.toInt / ((2 ^ j : Nat) : Int) = 0 → rRaiseL e m n (Int32.ofNat j) r s = r
  | 0, j, r, s, _, _ => by rw [rRaiseL]
  | n + 1, j, r, s, hj, h0 => by
    have hb : ¬ (e >>> (Int32.ofNat j &&& 31)) &&& 1 = 1 := fun q => by
      rw [and1_32, shr_i e (by omega), h0] at q
      exact absurd q (by decide)
    have h1 : e.toInt / ((2 ^ (j + 1) : Nat) : Int) = 0 := by
      rw [Nat.pow_succ, Int.natCast_mul, ← Int.ediv_ediv_of_nonneg (Int.natCast_nonneg _), h0]
      rfl
    rw [rRaiseL, if_neg hb, on_s]
    exact raise_0 h n (j + 1) r _ (by omega) h1
theorem raise_pow {e m : Int32} (h : 0 ≤ e.toInt) (hm : ¬ m = 0) : ∀ (n j : Nat) (r s e' : Int32), j + n = 31 → e'.toInt = e.toInt / ((2 ^ j : Nat) : Int) → mPowL m.toInt64 n r.toInt64 s.toInt64 e' = (rRaiseL e m n (Int32.ofNat j) r s).toInt64
  | 0, j, r, s, e', _, _ => by rw [rRaiseL, mPowL]
  | n + 1, j, r, s, e', hj, he => by
    have hp : 0 ≤ e'.toInt := by
      rw [he]
      exact Int.ediv_nonneg h (Int.natCast_nonneg _)
    by_cases q : 0 < e'
    · have hb : ((e >>> (Int32.ofNat j &&& 31)) &&& 1 = 1) ↔ e' - e' / 2 * 2 = 1 := by rw [and1_32, shr_i e (by omega), odd_i hp, he]
      have h1 : (e' / 2).toInt = e.toInt / ((2 ^ (j + 1) : Nat) : Int) := by
        rw [half_i hp, he, Nat.pow_succ, Int.natCast_mul, ← Int.ediv_ediv_of_nonneg (Int.natCast_nonneg _)]
        rfl
      rw [mPowL, if_pos q, rRaiseL, on_s]
      rw [← rRes_64 (s.toInt64 * s.toInt64) hm]
      by_cases q2 : e' - e' / 2 * 2 = 1
      · rw [if_pos q2, if_pos (hb.mpr q2), ← rRes_64 (r.toInt64 * s.toInt64) hm]
        exact raise_pow h hm n (j + 1) _ _ _ (by omega) h1
      · rw [if_neg q2, if_neg (fun e => q2 (hb.mp e))]
        exact raise_pow h hm n (j + 1) _ _ _ (by omega) h1
    · rw [mPowL, if_neg q]
      have e0 : e'.toInt = 0 := by
        rw [Int32.lt_iff_toInt_lt, i0] at q
        omega
      rw [raise_0 h (n + 1) j r s hj (he.symm.trans e0)]
/-- the steps of the common divisor's search, as numbers -/
def fin : Nat → Nat → Nat → Prop
  | 0, _, l => l = 0
  | n + 1, g, l => l = 0 ∨ fin n l (g % l)
theorem fin_0 (n g : Nat) : fin n g 0 := by
  cases n with
  | zero => rfl
  | succ n => exact Or.inl rfl
theorem fin_le : ∀ (n g l : Nat), l ≤ n → fin n g l
  | 0, g, l, h => by
    show l = 0
    omega
  | n + 1, g, l, h => by
    by_cases q : l = 0
    · exact Or.inl q
    · exact Or.inr (fin_le n l (g % l) (by
        have := Nat.mod_lt g (show 0 < l by omega)
        omega))
theorem fin_log : ∀ (k g l : Nat), l < 2 ^ k → fin (2 * k + 1) g l
  | 0, g, l, h => by
    refine Or.inl ?_
    simp at h
    exact h
  | k + 1, g, l, h => by
    by_cases q : l = 0
    · exact Or.inl q
    · refine Or.inr ?_
      show fin (2 * k + 2) l (g % l)
      by_cases q2 : g % l = 0
      · exact Or.inl q2
      · refine Or.inr ?_
        show fin (2 * k + 1) (g % l) (l % (g % l))
        refine fin_log k _ _ ?_
        have h1 := Nat.mod_lt g (show 0 < l by omega)
        have h2 := Nat.mod_lt l (show 0 < g % l by omega)
        have h3 := Nat.div_add_mod l (g % l)
        have h4 : g % l ≤ g % l * (l / (g % l)) := Nat.le_mul_of_pos_right _ (Nat.div_pos (by omega) (by omega))
        rw [Nat.pow_succ] at h
        omega
theorem fin_mono : ∀ (n m g l : Nat), n ≤ m → fin n g l → fin m g l
  | 0, m, g, l, _, h => by
    have h : l = 0 := h
    rw [h]
    exact fin_0 m g
  | n + 1, 0, g, l, hm, _ => absurd hm (by omega)
  | n + 1, m + 1, g, l, hm, h => by
    rcases h with h | h
    · exact Or.inl h
    · exact Or.inr (fin_mono n m _ _ (by omega) h)
/-- not negative, and the number -/
def nn (a : Int64) (n : Nat) : Prop := a.toInt = n
theorem nn_lt {a : Int64} {n : Nat} (h : nn a n) : n < 2 ^ 63 := by
  have := a.toInt_lt
  unfold nn at h
  omega
theorem nn_rem {a b : Int64} {n m : Nat} (h1 : nn a n) (h2 : nn b m) : nn (wRem a b) (n % m) := by
  unfold nn at *
  rw [wRem_i, h1, h2]
  exact (Int.ofNat_tmod n m).symm
theorem nn_0 {a : Int64} {n : Nat} (h : nn a n) : a = 0 ↔ n = 0 := by
  unfold nn at h
  rw [← Int64.toInt_inj, l0]
  omega
theorem nn_p {a : Int64} {n : Nat} (h : nn a n) : 0 < a ↔ ¬ n = 0 := by
  unfold nn at h
  rw [i64_lt, l0]
  omega
theorem inv_st : ∀ (n m : Nat) {g l : Int64} {a b : Nat} (f nf : Int64), nn g a → nn l b → fin n a b → fin m a b → rInvL n g l f nf = rInvL m g l f nf ∧ mAgL m g l f nf = (rInvL m g l f nf).2 ∧ nn (rInvL m g l f nf).1 (Nat.gcd a b) ∧ nn (rGcdL m g l) (Nat.gcd a b) ∧ mGcdL m g l = rGcdL m g l
  | n, 0, g, l, a, b, f, nf, h1, h2, h3, h4 => by
    have h4 : b = 0 := h4
    subst h4
    have e := (nn_0 h2).mpr rfl
    rw [rInvL, mAgL, rGcdL, mGcdL, Nat.gcd_zero_right]
    refine ⟨?_, rfl, h1, h1, rfl⟩
    cases n with
    | zero => rw [rInvL]
    | succ n => rw [rInvL, if_pos e]
  | 0, m + 1, g, l, a, b, f, nf, h1, h2, h3, h4 => by
    have h3 : b = 0 := h3
    subst h3
    have e := (nn_0 h2).mpr rfl
    have p : ¬ 0 < l := fun q => (nn_p h2).mp q rfl
    rw [rInvL, rInvL, mAgL, rGcdL, mGcdL, if_pos e, if_pos e, if_neg p, if_neg p, Nat.gcd_zero_right]
    exact ⟨rfl, rfl, h1, h1, rfl⟩
  | n + 1, m + 1, g, l, a, b, f, nf, h1, h2, h3, h4 => by
    by_cases q : b = 0
    · subst q
      have e := (nn_0 h2).mpr rfl
      have p : ¬ 0 < l := fun q => (nn_p h2).mp q rfl
      rw [rInvL, rInvL, mAgL, rGcdL, mGcdL, if_pos e, if_pos e, if_pos e, if_neg p, if_neg p, Nat.gcd_zero_right]
      exact ⟨rfl, rfl, h1, h1, rfl⟩
    · have e : ¬ l = 0 := fun z => q ((nn_0 h2).mp z)
      have p : 0 < l := (nn_p h2).mpr q
      have h3 := h3.resolve_left q
      have h4 := h4.resolve_left q
      have ih := inv_st n m nf (f - g / l * nf) h2 (nn_rem h1 h2) h3 h4
      rw [rInvL, rInvL, mAgL, rGcdL, mGcdL, if_neg e, if_neg e, if_neg e, if_pos p, if_pos p, Nat.gcd_comm a b, Nat.gcd_rec b a, Nat.gcd_comm (a % b) b]
      exact ih
