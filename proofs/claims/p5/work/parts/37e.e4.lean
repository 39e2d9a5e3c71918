/-! averages, divisions, chains: the class and the model agree -/
theorem nat_pair : ∀ (n x y : Nat), x < 2 ^ n → y < 2 ^ n → x + y = 2 * (x &&& y) + (x ^^^ y) ∧ (x ||| y) = (x &&& y) + (x ^^^ y)
  | 0, x, y, hx, hy => by
    have h1 : x = 0 := by omega
    have h2 : y = 0 := by omega
    subst h1
    subst h2
    decide
  | n + 1, x, y, hx, hy => by
    rw [Nat.pow_succ] at hx hy
    obtain ⟨h1, h2⟩ := nat_pair n (x / 2) (y / 2) (by omega) (by omega)
    rw [← Nat.and_div_two, ← Nat.xor_div_two] at h1
    rw [← Nat.and_div_two, ← Nat.xor_div_two, ← Nat.or_div_two] at h2
    have a1 := Nat.and_mod_two_pow (a := x) (b := y) (n := 1)
    have a2 := Nat.xor_mod_two_pow (a := x) (b := y) (n := 1)
    have a3 := Nat.or_mod_two_pow (a := x) (b := y) (n := 1)
    have c1 : x % 2 = 0 ∨ x % 2 = 1 := by omega
    have c2 : y % 2 = 0 ∨ y % 2 = 1 := by omega
    rw [Nat.pow_one] at a1 a2 a3
    rcases c1 with c1 | c1 <;> rcases c2 with c2 | c2 <;> rw [c1, c2] at a1 a2 a3 <;> simp only [Nat.reduceAnd, Nat.reduceXor, Nat.reduceOr] at a1 a2 a3 <;> omega
theorem nat_and2 (x y : Nat) : (x &&& y) % 2 = 1 ↔ x % 2 = 1 ∧ y % 2 = 1 := by
  have a1 := Nat.and_mod_two_pow (a := x) (b := y) (n := 1)
  rw [Nat.pow_one] at a1
  have c1 : x % 2 = 0 ∨ x % 2 = 1 := by omega
  have c2 : y % 2 = 0 ∨ y % 2 = 1 := by omega
  rcases c1 with c1 | c1 <;> rcases c2 with c2 | c2 <;> rw [c1, c2] at a1 <;> simp only [Nat.reduceAnd] at a1 <;> omega
theorem msb_n (a : Int64) : (a.toBitVec.msb = true ∧ a.toInt = (a.toBitVec.toNat : Int) - 18446744073709551616) ∨ (a.toBitVec.msb = false ∧ a.toInt = (a.toBitVec.toNat : Int)) := by
  have e : a.toInt = a.toBitVec.toInt := rfl
  rw [e, BitVec.toInt_eq_msb_cond]
  cases a.toBitVec.msb
  · exact Or.inr ⟨rfl, rfl⟩
  · exact Or.inl ⟨rfl, rfl⟩
/-- a sum, a pair's common bits, its differing bits -/
theorem pair_i (a b : Int64) : a.toInt + b.toInt = 2 * (a &&& b).toInt + (a ^^^ b).toInt ∧ (a ||| b).toInt = (a &&& b).toInt + (a ^^^ b).toInt ∧ ((a &&& b).toInt % 2 = 1 ↔ a.toInt % 2 = 1 ∧ b.toInt % 2 = 1) := by
  have h := nat_pair 64 _ _ a.toBitVec.isLt b.toBitVec.isLt
  have h2 := nat_and2 a.toBitVec.toNat b.toBitVec.toNat
  rw [← BitVec.toNat_and, ← Int64.toBitVec_and] at h h2
  rw [← BitVec.toNat_xor, ← BitVec.toNat_or, ← Int64.toBitVec_xor, ← Int64.toBitVec_or] at h
  have m1 := msb_n a
  have m2 := msb_n b
  have m3 := msb_n (a &&& b)
  have m4 := msb_n (a ^^^ b)
  have m5 := msb_n (a ||| b)
  rw [show (a &&& b).toBitVec.msb = (a.toBitVec.msb && b.toBitVec.msb) by rw [Int64.toBitVec_and, BitVec.msb_and]] at m3
  rw [show (a ^^^ b).toBitVec.msb = (a.toBitVec.msb ^^ b.toBitVec.msb) by rw [Int64.toBitVec_xor, BitVec.msb_xor]] at m4
  rw [show (a ||| b).toBitVec.msb = (a.toBitVec.msb || b.toBitVec.msb) by rw [Int64.toBitVec_or, BitVec.msb_or]] at m5
  generalize (a &&& b).toBitVec.toNat = A at *
  generalize (a ^^^ b).toBitVec.toNat = X at *
  generalize (a ||| b).toBitVec.toNat = O at *
  rcases m1 with ⟨p1, m1⟩ | ⟨p1, m1⟩ <;> rcases m2 with ⟨p2, m2⟩ | ⟨p2, m2⟩ <;> rw [p1, p2] at m3 m4 m5 <;> simp at m3 m4 m5 <;> rw [m1, m2, m3, m4, m5] <;> omega
theorem shr1 (a : Int64) : (a >>> ((1 : Int32).toInt64 &&& 63)).toInt = a.toInt / 2 := by
  show (a >>> ((1 : Int32).toInt64 &&& 63)).toBitVec.toInt = _
  rw [Int64.toBitVec_shiftRight, BitVec.toInt_sshiftRight', show (((1 : Int32).toInt64 &&& 63).toBitVec.smod 64).toNat = 1 from by decide, Int.shiftRight_eq_div_pow]
  rfl
theorem and1 (a : Int64) : (a &&& 1).toInt = a.toInt % 2 := by
  have h : (a &&& 1).toBitVec.toNat = a.toBitVec.toNat % 2 := by
    rw [Int64.toBitVec_and, BitVec.toNat_and, show (1 : Int64).toBitVec.toNat = 2 ^ 1 - 1 from rfl, Nat.and_two_pow_sub_one_eq_mod]
  rw [tni _ h (by omega)]
  rcases tn_cond a with e | e <;> rw [e] <;> omega
theorem avg0 (a b : Int64) : (wAvg a b 0).toInt = (a.toInt + b.toInt) / 2 := by
  obtain ⟨h1, h2, h3⟩ := pair_i a b
  have a1 := a.toInt_lt
  have a2 := a.le_toInt
  have b1 := b.toInt_lt
  have b2 := b.le_toInt
  unfold wAvg
  rw [if_pos rfl, Int64.toInt_add, shr1, Int.bmod_eq_of_le (by omega) (by omega)]
  omega
theorem avg1 (a b : Int64) {u : Int32} (hu : ¬ u = 0) : (wAvg a b u).toInt = (a.toInt + b.toInt + 1) / 2 := by
  obtain ⟨h1, h2, h3⟩ := pair_i a b
  have a1 := a.toInt_lt
  have a2 := a.le_toInt
  have b1 := b.toInt_lt
  have b2 := b.le_toInt
  unfold wAvg
  rw [if_neg hu, Int64.toInt_sub, shr1, h2, Int.bmod_eq_of_le (by omega) (by omega)]
  omega
def mAvg (a b : Int64) (u : Int32) : Int64 := if u = 0 then (a >>> ((1 : Int32).toInt64 &&& 63) + b >>> ((1 : Int32).toInt64 &&& 63) + (a &&& b &&& 1)) else (a >>> ((1 : Int32).toInt64 &&& 63) + b >>> ((1 : Int32).toInt64 &&& 63) + (a &&& b &&& 1)) + ((a ^^^ b) &&& 1)
theorem mav0 (a b : Int64) : (a >>> ((1 : Int32).toInt64 &&& 63) + b >>> ((1 : Int32).toInt64 &&& 63) + (a &&& b &&& 1)).toInt = (a.toInt + b.toInt) / 2 := by
  obtain ⟨h1, h2, h3⟩ := pair_i a b
  have a1 := a.toInt_lt
  have a2 := a.le_toInt
  have b1 := b.toInt_lt
  have b2 := b.le_toInt
  rw [Int64.toInt_add, Int64.toInt_add, shr1, shr1, and1, Int.bmod_eq_of_le (n := a.toInt / 2 + b.toInt / 2) (by omega) (by omega), Int.bmod_eq_of_le (by omega) (by omega)]
  omega
theorem avg_eq (a b : Int64) (u : Int32) : wAvg a b u = mAvg a b u := by
  rw [← Int64.toInt_inj]
  have e := mav0 a b
  obtain ⟨h1, h2, h3⟩ := pair_i a b
  have a1 := a.toInt_lt
  have a2 := a.le_toInt
  have b1 := b.toInt_lt
  have b2 := b.le_toInt
  unfold mAvg
  by_cases q : u = 0
  · rw [if_pos q, e, q, avg0]
  · rw [if_neg q, avg1 a b q, Int64.toInt_add, e, and1, Int.bmod_eq_of_le (by omega) (by omega)]
    omega
theorem avg_rt {a b : Int64} (u : Int32) (ha : inI a) (hb : inI b) : rt (wAvg a b u) := by
  rw [rt_iff]
  obtain ⟨a1, a2⟩ := ha
  obtain ⟨b1, b2⟩ := hb
  unfold inI
  by_cases q : u = 0
  · rw [q, avg0]
    omega
  · rw [avg1 a b q]
    omega
theorem okV_i {a b c : Int32} (h : okV a b c) : 1 ≤ a.toInt ∧ 1 ≤ b.toInt ∧ 1 ≤ c.toInt := by
  obtain ⟨h1, h2, h3⟩ := h
  have e1 : (1 : Int32).toInt = 1 := by decide
  rw [Int32.lt_iff_toInt_lt] at h1 h2 h3
  omega
theorem i64_nz {a : Int32} (h : 1 ≤ a.toInt) : ¬ a.toInt64 = 0 := fun e => by
  have := congrArg Int64.toInt e
  rw [Int32.toInt_toInt64, l0] at this
  omega
theorem lmax : (9223372036854775807 : Int64).toInt = 9223372036854775807 := by decide
theorem nonneg_mul {x y X Y : Int} (h1 : 0 ≤ x) (h2 : x ≤ X) (h3 : 0 ≤ y) (h4 : y ≤ Y) : 0 ≤ x * y ∧ x * y ≤ X * Y := by
  have e1 : x * y ≤ X * y := Int.mul_le_mul_of_nonneg_right h2 h3
  have e2 : X * y ≤ X * Y := Int.mul_le_mul_of_nonneg_left h4 (by omega)
  have e3 : 0 ≤ x * y := Int.mul_nonneg h1 h3
  omega
/-- two divisors and a third: past the end or not -/
theorem once_i {a b c : Int32} (h : okV a b c) : (wExact 1 (a.toInt64 * b.toInt64) c.toInt64 2 = 0 ↔ 9223372036854775807 / c.toInt64 < a.toInt64 * b.toInt64) ∧ (¬ wExact 1 (a.toInt64 * b.toInt64) c.toInt64 2 = 0 → ¬ a.toInt64 * b.toInt64 * c.toInt64 = 0) := by
  obtain ⟨h1, h2, h3⟩ := okV_i h
  have a1 := a.toInt_lt
  have b1 := b.toInt_lt
  have c1 := c.toInt_lt
  have rab := nonneg_mul (x := a.toInt) (X := 2147483647) (y := b.toInt) (Y := 2147483647) (by omega) (by omega) (by omega) (by omega)
  have pab : 1 ≤ a.toInt * b.toInt := by
    have := Int.mul_pos (a := a.toInt) (b := b.toInt) (by omega) (by omega)
    omega
  have eab : (a.toInt64 * b.toInt64).toInt = a.toInt * b.toInt := by
    rw [Int64.toInt_mul, Int32.toInt_toInt64, Int32.toInt_toInt64]
    exact Int.bmod_eq_of_le (by omega) (by omega)
  have ec : c.toInt64.toInt = c.toInt := Int32.toInt_toInt64 c
  generalize a.toInt64 * b.toInt64 = p at *
  rw [← eab] at rab pab
  have ed : (9223372036854775807 / c.toInt64).toInt = 9223372036854775807 / c.toInt := by
    have hn : 9223372036854775807 / c.toInt ≤ 9223372036854775807 := Int.ediv_le_self _ (by decide)
    have hp : 0 ≤ 9223372036854775807 / c.toInt := Int.ediv_nonneg (by decide) (by omega)
    rw [Int64.toInt_div, ec, lmax, Int.tdiv_eq_ediv_of_nonneg (by decide)]
    exact Int.bmod_eq_of_le (by omega) (by omega)
  have hx := prod_x p c.toInt64
  rw [Int64.toInt_mul, ec] at hx
  have hE : wExact 1 p c.toInt64 2 = 0 ↔ ¬ wTrue p c.toInt64 2 (p * c.toInt64) = 1 := by
    unfold wExact wWithin wJoin
    simp only [if_neg n20, if_neg n21, if_neg n10]
    rcases wTrue_01 p c.toInt64 2 (p * c.toInt64) with h | h
    · rw [h, if_pos rfl]
      exact ⟨fun _ => by decide, fun _ => rfl⟩
    · rw [h, if_neg n10]
      exact ⟨fun e => absurd e n10, fun e => absurd rfl e⟩
  have hlt : 9223372036854775807 / c.toInt < p.toInt ↔ 9223372036854775807 < p.toInt * c.toInt := by
    have := Int.le_ediv_iff_mul_le (a := p.toInt) (b := 9223372036854775807) (c := c.toInt) (by omega)
    omega
  have hpc : 1 ≤ p.toInt * c.toInt := by
    have := Int.mul_pos (a := p.toInt) (b := c.toInt) (by omega) (by omega)
    omega
  have hr := bm_c (p.toInt * c.toInt)
  have hu : p.toInt * c.toInt ≤ 4611686014132420609 * 2147483647 := (nonneg_mul (by omega) (by omega) (by omega) (by omega)).2
  rw [hE, hx, i64_lt, ed, hlt]
  refine ⟨?_, fun e0 => ?_⟩
  · constructor
    · intro hne
      refine Int.lt_of_not_ge (fun hle => hne ?_)
      exact Int.bmod_eq_of_le (by omega) (by omega)
    · intro hgt e
      have := (p * c.toInt64).toInt_lt
      rw [Int64.toInt_mul, ec, e] at this
      omega
  · have e1 : (p.toInt * c.toInt).bmod (2 ^ 64) = p.toInt * c.toInt := Decidable.of_not_not e0
    intro e
    have e2 := congrArg Int64.toInt e
    rw [Int64.toInt_mul, ec, e1, l0] at e2
    omega
section REL2
variable {x : XS} {s : MS}
theorem ra_average (h : Rel x s) (l k f u : Int32) : AR (xAverage l k f u x) (m_average l k f u s) := by
  unfold xAverage m_average xKeep
  rw [nd_nd, num_now h, num_now h]
  refine AR_gd (n44' k f) h (fun hk => ?_)
  rw [nd_yes hk.1]
  show AR _ (mBecome l k (mAvg (mNow l k s) (mNow l f s) u) (sT 0 s))
  rw [← avg_eq]
  exact AR_become (rel_T h 0) rfl l k (fun q => avg_rt u (in_now h k f q).1 (in_now h k f q).2)
theorem AR_keepF (h : Rel x s) (h0 : mTh s = 0) (l : Int32) {k : Int32} (hk : ok4 k) (d : Int64) (r : Int32) : AR (xKeepF l k d r x) (if d = 0 then mNo s else mBecome l k (if r = 0 then mFloor (mNow l k s) d else mRest (mNow l k s) d) s) := by
  unfold xKeepF
  rw [nd_yes hk, num_now h]
  refine AR_ite Iff.rfl (fun _ => AR_no h h0) (fun q => ?_)
  rw [mFloor_eq q, mRest_eq q]
  exact AR_keepR h h0 l hk _
theorem AR_F (h : Rel x s) (l k : Int32) (d : Int64) (r : Int32) {c c' : Prop} [Decidable c] [Decidable c'] (hc : (c ∧ ok4 k) ↔ c') (s' : MS) (hs : s' = sT 0 s) : AR (nd c 0 x (xKeepF l k d r x)) (gd c' s (if d = 0 then mNo s' else mBecome l k (if r = 0 then mFloor (mNow l k s') d else mRest (mNow l k s') d) s')) := by
  subst hs
  by_cases q : c
  · rw [nd_yes q]
    by_cases q2 : ok4 k
    · unfold gd
      rw [if_pos (hc.mp ⟨q, q2⟩)]
      exact AR_keepF (rel_T h 0) rfl l q2 d r
    · unfold gd xKeepF nd
      rw [if_neg q2, if_neg (fun e => q2 (hc.mpr e).2)]
      exact ⟨rel_T h 1, rfl⟩
  · unfold nd gd
    rw [if_neg q, if_neg (fun e => q (hc.mpr e).1)]
    exact ⟨rel_T h 1, rfl⟩
theorem ra_floor (h : Rel x s) (l k f r : Int32) : AR (xFloor l k f r x) (m_floor l k f r s) := by
  unfold xFloor m_floor
  rw [num_now h]
  exact AR_F h l k (mNow l f s) r (n44 k f) _ rfl
theorem ra_floorInt (h : Rel x s) (k f r : Int32) : AR (xFloorInt k f r x) (m_floorInt k f r s) := by
  unfold xFloorInt m_floorInt
  rw [num_now h]
  exact AR_F h 1 k (mNow 0 f s) r (n44 k f) _ rfl
theorem ra_towards (h : Rel x s) (l k f r : Int32) : AR (xTowards l k f r x) (m_towards l k f r s) := by
  unfold xTowards m_towards
  rw [nd_nd, num_now h, num_now h]
  refine AR_gd (n44' k f) h (fun hk => ?_)
  refine AR_ite Iff.rfl (fun _ => AR_no (rel_T h 0) rfl) (fun q => ?_)
  have e : (if r = 0 then wQuot (mNow l k s) (mNow l f s) else wRestT (mNow l k s) (mNow l f s)) = if r = 0 then mNow l k s / mNow l f s else wRem (mNow l k s) (mNow l f s) := by
    unfold wQuot wRestT
    rw [if_neg q, if_neg q]
  rw [e]
  exact AR_keepR (rel_T h 0) rfl l hk.1 _
theorem ra_chain (h : Rel x s) (k a b c : Int32) : AR (xChain k a b c x) (m_chain k a b c s) := by
  unfold xChain m_chain
  rw [num_now h]
  refine AR_gd (n4_iff k) h (fun hk => AR_rf (rel_T h 0) (fun hv => ?_))
  obtain ⟨h1, h2, h3⟩ := okV_i hv
  rw [mFloor_eq (i64_nz h1), mFloor_eq (i64_nz h2), mFloor_eq (i64_nz h3)]
  exact AR_keep (rel_T h 0) rfl 1 hk (fun q => absurd q n10)
theorem ra_atOnce (h : Rel x s) (k a b c : Int32) : AR (xAtOnce k a b c x) (m_atOnce k a b c s) := by
  unfold xAtOnce m_atOnce
  rw [num_now h]
  refine AR_gd (n4_iff k) h (fun hk => AR_rf (rel_T h 0) (fun hv => ?_))
  obtain ⟨h1, h2⟩ := once_i hv
  refine AR_ite h1 (fun _ => AR_no (rel_T h 0) rfl) (fun q => ?_)
  rw [mFloor_eq (h2 q)]
  exact AR_keep (rel_T h 0) rfl 1 hk (fun q => absurd q n10)
theorem lt_i (x y : Int64) (a : Int32) (b : Int32) : (if x < y then a else b) = (if x.toInt < y.toInt then a else b) := by
  by_cases q : x < y
  · rw [if_pos q, if_pos ((i64_lt x y).mp q)]
  · rw [if_neg q, if_neg (fun e => q ((i64_lt x y).mpr e))]
theorem min_i (a b : Int64) : (b < a → lMin a b = b) ∧ (¬ b < a → lMin a b = a) := by
  unfold lMin
  exact ⟨fun q => if_pos q, fun q => if_neg q⟩
theorem set_now (h : Rel x s) (l k : Int32) : sSet l k (mNow l k s) s = s := by
  unfold sSet mNow
  by_cases q2 : l = 0
  · have e2 : (mI s k.toNatClampNeg).toInt32.toInt64 = mI s k.toNatClampNeg := h.2.2.1 _
    rw [if_pos q2, if_pos q2, e2, updL_same]
  · rw [if_neg q2, if_neg q2, updL_same]
theorem ra_extreme (h : Rel x s) (l k f g : Int32) : AR (xExtreme l k f g x) (m_extreme l k f g s) := by
  unfold xExtreme m_extreme
  rw [nd_nd, num_now h, num_now h]
  refine AR_gd (n44' k f) h (fun hk => ?_)
  have hs : sSet l k (mNow l k (sT 0 s)) (sT 0 s) = sT 0 s := set_now (rel_T h 0) l k
  have e1 : mNow l k (sT 0 s) = mNow l k s := rfl
  have e2 : mNow l f (sT 0 s) = mNow l f s := rfl
  have r1 : l = 0 → rt (mNow l k s) := fun q => now_rt h k q
  have r2 : l = 0 → rt (mNow l f s) := fun q => now_rt h f q
  rw [e1] at hs
  rw [e1, e2]
  generalize mNow l k s = a at *
  generalize mNow l f s = b at *
  have key : ∀ {v : Int64} {p q : Int32}, (l = 0 → rt v) → p = q → AR (.inl p, xSet l k v x) (q, sSet l k v (sT 0 s)) := fun {v p q} hv e => by
    subst e
    exact AR_set (rel_T h 0) rfl l k hv
  refine AR_ite Iff.rfl (fun _ => ?_) (fun _ => ?_)
  · unfold lMin
    by_cases q : b < a
    · rw [if_pos q, if_pos q]
      refine key r2 (if_neg (fun e => ?_))
      rw [e, i64_lt] at q
      omega
    · rw [if_neg q, if_neg q]
      have := key (p := if a = a then 0 else 1) (q := 0) r1 (if_pos rfl)
      rw [hs] at this
      exact this
  · unfold lMax
    by_cases q : a < b
    · rw [if_pos q, if_pos q]
      refine key r2 (if_neg (fun e => ?_))
      rw [e, i64_lt] at q
      omega
    · rw [if_neg q, if_neg q]
      have := key (p := if a = a then 0 else 1) (q := 0) r1 (if_pos rfl)
      rw [hs] at this
      exact this
end REL2
