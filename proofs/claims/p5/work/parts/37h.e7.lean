/-! inverses, units, the house: the class and the model agree -/
theorem neg_64 (a : Int64) (h : -9223372036854775808 < a.toInt) : (-a).toInt = -a.toInt := by
  have := a.toInt_lt
  rw [Int64.toInt_neg]
  exact Int.bmod_eq_of_le (by omega) (by omega)
theorem abs_nn (a : Int64) (h : -9223372036854775808 < a.toInt) : nn (lAbs a) a.toInt.natAbs := by
  have e := neg_iff a
  unfold nn lAbs
  by_cases q : a < 0
  · rw [if_pos q, neg_64 a h]
    have := e.mp q
    omega
  · rw [if_neg q]
    have : ¬ a.toInt < 0 := fun z => q (e.mpr z)
    omega
theorem abs32 (m : Int32) : nn (lAbs m.toInt64) m.toInt.natAbs := by
  have e := Int32.toInt_toInt64 m
  have h := abs_nn m.toInt64 (by
    have := m.le_toInt
    omega)
  rw [e] at h
  exact h
theorem size_nn (m : Int32) : nn (rSize m) m.toInt.natAbs := abs32 m
theorem size_pos {m : Int32} (h : ¬ m = 0) : m.toInt.natAbs ≠ 0 := fun e => h (Int32.toInt_inj.mp (by
  rw [i0]
  omega))
theorem size_lt (m : Int32) : m.toInt.natAbs ≤ 2147483648 := by
  have := m.le_toInt
  have := m.toInt_lt
  omega
theorem nn_nz {b : Int64} {n : Nat} (hb : nn b n) (h0 : n ≠ 0) : ¬ b = 0 := fun e => h0 ((nn_0 hb).mp e)
theorem rest_nn (v : Int64) {b : Int64} {n : Nat} (hb : nn b n) (h0 : n ≠ 0) : nn (mRest v b) (v.toInt % (n : Int)).toNat := by
  have e : b.toInt = n := hb
  have h1 := Int.emod_nonneg v.toInt (b := (n : Int)) (by omega)
  have h2 := Int.emod_lt_of_pos v.toInt (b := (n : Int)) (by omega)
  have h3 := Int.mul_ediv_add_emod v.toInt n
  unfold nn
  rw [rest_uniq (nn_nz hb h0) (r := v.toInt % (n : Int)) ⟨v.toInt / n, by rw [e]; omega⟩ (fun _ => by rw [e]; omega) (fun _ => by omega)]
  omega
theorem gcd_rest (a : Int) (n : Nat) (h : n ≠ 0) : Nat.gcd n (a % (n : Int)).toNat = Nat.gcd a.natAbs n := by
  have e : Int.gcd (n : Int) (a % (n : Int)) = Int.gcd (n : Int) a := by
    rw [Int.emod_def]
    exact Int.gcd_sub_mul_left_right _ _ _
  have h1 := Int.emod_nonneg a (b := (n : Int)) (by omega)
  rw [Int.gcd_eq_natAbs_gcd_natAbs, Int.gcd_eq_natAbs_gcd_natAbs, Int.natAbs_natCast] at e
  rw [Nat.gcd_comm a.natAbs n, ← e]
  congr 1
  omega
theorem fin_k {a b : Nat} (h : b < 2 ^ 63) : fin 1000 a b := fin_mono (2 * 63 + 1) 1000 a b (by decide) (fin_log 63 a b h)
theorem gcd_nn {a b : Int64} {n m : Nat} (h1 : nn a n) (h2 : nn b m) : nn (rGcd a b) (Nat.gcd n m) := (inv_st 1000 1000 0 0 h1 h2 (fin_k (nn_lt h2)) (fin_k (nn_lt h2))).2.2.2.1
theorem mgcd_nn {a b : Int64} (ha : -9223372036854775808 < a.toInt) (hb : -9223372036854775808 < b.toInt) : nn (mGcd a b) (Nat.gcd a.toInt.natAbs b.toInt.natAbs) := by
  have h1 := abs_nn a ha
  have h2 := abs_nn b hb
  have e : (lAbs b).toInt.toNat = b.toInt.natAbs := by
    have h2 : (lAbs b).toInt = b.toInt.natAbs := h2
    rw [h2]
    rfl
  have hf := fin_le b.toInt.natAbs a.toInt.natAbs b.toInt.natAbs (Nat.le_refl _)
  have := inv_st _ _ 0 0 h1 h2 hf hf
  unfold mGcd
  rw [e, this.2.2.2.2]
  exact this.2.2.2.1
/-- against: both searches end alike -/
theorem against {v b : Int64} {n : Nat} (hb : nn b n) (h0 : n ≠ 0) : rInv v b = (if Nat.gcd v.toInt.natAbs n = 1 then mAgainst v b else -1) := by
  have hr := rest_nn v hb h0
  have e : (mRest v b).toInt.toNat = (v.toInt % (n : Int)).toNat := by
    have hr : (mRest v b).toInt = ((v.toInt % (n : Int)).toNat : Nat) := hr
    rw [hr]
    rfl
  have hf := fin_le (v.toInt % (n : Int)).toNat n (v.toInt % (n : Int)).toNat (Nat.le_refl _)
  have st := inv_st 1000 _ 0 1 hb hr (fin_k (nn_lt hr)) hf
  rw [gcd_rest v.toInt n h0] at st
  unfold rInv mAgainst
  rw [← mRest_eq (nn_nz hb h0), ← mRest_eq (nn_nz hb h0), st.1, e, st.2.1]
  have z : (rInvL (v.toInt % (n : Int)).toNat b (mRest v b) 0 1).1 = 1 ↔ Nat.gcd v.toInt.natAbs n = 1 := by
    have h3 := st.2.2.1
    unfold nn at h3
    rw [← Int64.toInt_inj, h3, show (1 : Int64).toInt = 1 by decide]
    omega
  by_cases q : Nat.gcd v.toInt.natAbs n = 1
  · rw [if_pos q, if_pos (z.mpr q)]
  · rw [if_neg q, if_neg (fun e => q (z.mp e))]
theorem against_nn (v : Int64) {b : Int64} {n : Nat} (hb : nn b n) (h0 : n ≠ 0) : ∃ k : Nat, nn (mAgainst v b) k ∧ k < n := by
  unfold mAgainst
  refine ⟨_, rest_nn _ hb h0, ?_⟩
  have h2 := Int.emod_lt_of_pos (mAgL (mRest v b).toInt.toNat b (mRest v b) 0 1).toInt (b := (n : Int)) (by omega)
  omega
theorem nn_m1 {a : Int64} {n : Nat} (h : nn a n) : ¬ a = -1 := fun e => by
  unfold nn at h
  rw [e, lm1] at h
  omega
theorem n64 (a : Int32) : -9223372036854775808 < a.toInt64.toInt := by
  rw [Int32.toInt_toInt64]
  have := a.le_toInt
  omega
section REL4
variable {x : XS} {s : MS}
theorem has_unit (a : Int32) {m : Int32} (hm : ¬ m = 0) : rHas a m = if mGcd a.toInt64 m.toInt64 = 1 then 1 else 0 := by
  have g := mgcd_nn (n64 a) (n64 m)
  obtain ⟨k, hk, -⟩ := against_nn a.toInt64 (size_nn m) (size_pos hm)
  unfold rHas
  rw [against (size_nn m) (size_pos hm)]
  have z : mGcd a.toInt64 m.toInt64 = 1 ↔ Nat.gcd a.toInt64.toInt.natAbs m.toInt.natAbs = 1 := by
    rw [Int32.toInt_toInt64 m] at g
    unfold nn at g
    rw [← Int64.toInt_inj, g, show (1 : Int64).toInt = 1 by decide]
    omega
  by_cases q : Nat.gcd a.toInt64.toInt.natAbs m.toInt.natAbs = 1
  · rw [if_pos q, if_pos (z.mpr q), if_neg (nn_m1 hk)]
  · rw [if_neg q, if_neg (fun e => q (z.mp e)), if_pos rfl]
theorem has_eq (h : Rel x s) {r k : Int32} (hr : ok3 r) (hk : ok4 k) : rHas (xRes r k x) (xMod r x) = mUnit r k s := by
  rw [res_eq h hr hk, mod_eq h, has_unit _ (mod_nz h r)]
  rfl
theorem ra_isUnit (h : Rel x s) (r k : Int32) : AR (xUnit r k x) (m_isUnit r k s) := by
  unfold xUnit m_isUnit
  refine AR_gd (n34 r k) h (fun hk => ?_)
  refine AR_val (rel_T h 0) rfl ?_
  rw [has_eq h hk.1 hk.2]
  show mUnit r k s = if mUnit r k s = 0 then 0 else 1
  unfold mUnit
  split
  · rw [if_neg n10]
  · rw [if_pos rfl]
theorem ra_inverse (h : Rel x s) (r k : Int32) : AR (xInverse r k x) (m_inverse r k s) := by
  unfold xInverse m_inverse
  refine AR_gd (n34 r k) h (fun hk => ?_)
  have he := has_eq h hk.1 hk.2
  have hm := mod_nz h r
  refine AR_ite (by rw [he]; exact Iff.rfl) (fun _ => AR_no (rel_T h 0) rfl) (fun q => ?_)
  have hi : rRes (rInverse (xRes r k x) (xMod r x)).toInt64 (xMod r x) = (mRest (mAgainst (mRes r k s).toInt64 (lAbs (mMod r s).toInt64)) (mMod r s).toInt64).toInt32 := by
    rw [res_eq h hk.1 hk.2, mod_eq h] at q ⊢
    unfold rInverse
    rw [rRes_2 _ hm, rRes_m _ hm, against (size_nn _) (size_pos hm)]
    unfold rHas at q
    rw [against (size_nn _) (size_pos hm)] at q
    by_cases q2 : Nat.gcd (mRes r k s).toInt64.toInt.natAbs (mMod r s).toInt.natAbs = 1
    · rw [if_pos q2]
      rfl
    · rw [if_neg q2, if_pos rfl] at q
      exact absurd rfl q
  rw [hi]
  exact ⟨rel_setR (rel_T h 0) hk.1 hk.2 _, rfl, rfl⟩
theorem ra_power (h : Rel x s) (r k e : Int32) : AR (xPower r k e x) (m_power r k e s) := by
  unfold xPower m_power
  refine AR_gd (n34 r k) h (fun hk => AR_rf (rel_T h 0) (fun he => ?_))
  have e0 : 0 ≤ e.toInt := by
    rw [Int32.lt_iff_toInt_lt, i0] at he
    omega
  have hm := mod_nz h r
  have hp : (rRaise (xRes r k x) e (xMod r x)).toInt64 = mPowL (mMod r (sT 0 s)).toInt64 31 (mRest 1 (mMod r (sT 0 s)).toInt64) (mRes r k (sT 0 s)).toInt64 e := by
    rw [res_eq h hk.1 hk.2, mod_eq h]
    unfold rRaise
    have := raise_pow e0 hm 31 0 (rRes 1 (mMod r s)) (mRes r k s) e rfl (by
      show _ = e.toInt / ((1 : Nat) : Int)
      omega)
    rw [rRes_64 _ hm] at this
    exact this.symm
  rw [hp]
  exact AR_keepM (rel_T h 0) rfl hk.1 hk.2 _
theorem AR_rfH {c c' : Prop} [Decidable c] [Decidable c'] {r : Out} {r' : MO} (hc : c ↔ c') (h : Rel x s) (hr : c → Rel r.2 r'.2 ∧ agI cdH r r') : Rel (nd c 1 x r).2 (gd c' s r').2 ∧ agI cdH (nd c 1 x r) (gd c' s r') := by
  unfold nd gd
  by_cases q : c
  · rw [if_pos q, if_pos (hc.mp q)]
    exact hr q
  · rw [if_neg q, if_neg (fun e => q (hc.mpr e))]
    exact ⟨rel_T h 1, rfl⟩
theorem zb (c : Int32) (v : Int64) : (if v = 0 then c + 1 else c) = c + b01 v := by
  unfold b01
  by_cases q : v = 0
  · rw [if_pos q, if_pos q]
  · rw [if_neg q, if_neg q]
    exact (Int32.add_zero c).symm
theorem z_eq (h : Rel x s) : zL (xI x) 4 0 0 + zL (xL x) 4 0 0 = mzL s 4 0 0 := by
  simp only [zL, mzL, zb]
  rw [h.1, h.2.1]
  ac_rfl
theorem u_c (h : Rel x s) {r i : Int32} (hr : ok3 r) (hi : ok4 i) (c : Int32) : (if rHas (xRes r i x) (xMod r x) = 0 then c else c + 1) = c + (if mUnit r i s = 0 then 0 else 1) := by
  rw [has_eq h hr hi]
  split
  · exact (Int32.add_zero c).symm
  · rfl
theorem u_in (h : Rel x s) {r : Int32} (hr : ok3 r) (c : Int32) : uI x r 4 0 c = muI s r 4 0 c := by
  have k1 : ok4 (0 + 1) := ⟨by decide, by decide⟩
  have k2 : ok4 (0 + 1 + 1) := ⟨by decide, by decide⟩
  have k3 : ok4 (0 + 1 + 1 + 1) := ⟨by decide, by decide⟩
  simp only [uI, muI]
  rw [u_c h hr k1, u_c h hr k2, u_c h hr k3, u_c h hr ⟨by decide, by decide⟩]
theorem u_eq (h : Rel x s) : uO x 3 0 0 = muO s 3 0 0 := by
  simp only [uO, muO]
  rw [u_in h (r := 0) ⟨by decide, by decide⟩, u_in h (r := 0 + 1) ⟨by decide, by decide⟩, u_in h (r := 0 + 1 + 1) ⟨by decide, by decide⟩]
theorem hs_eq (h : Rel x s) (w : Int32) : xHs w x = mHs w s := by
  unfold xHs mHs
  rw [z_eq h, u_eq h, h.2.2.2.2.2.2.1, h.2.2.2.2.2.2.2]
theorem ra_house (h : Rel x s) (w : Int32) : Rel (xHouse w x).2 (m_house w s).2 ∧ agI cdH (xHouse w x) (m_house w s) := by
  unfold xHouse m_house
  refine AR_rfH Iff.rfl h (fun hw => ⟨rel_T h 0, rfl, ?_⟩)
  exact hs_eq (rel_T h 0) w
end REL4
