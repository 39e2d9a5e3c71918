/-! residues: the class and the model agree -/
theorem rest_spec (a b : Int64) (hb : ¬ b = 0) : ∃ q : Int, a.toInt = b.toInt * q + (mRest a b).toInt ∧ (0 < b.toInt → 0 ≤ (mRest a b).toInt ∧ (mRest a b).toInt < b.toInt) ∧ (b.toInt < 0 → b.toInt < (mRest a b).toInt ∧ (mRest a b).toInt ≤ 0) := by
  have b0 : ¬ b.toInt = 0 := fun e => hb (Int64.toInt_inj.mp (e.trans l0.symm))
  have b1 := b.toInt_lt
  have b2 := b.le_toInt
  have e := wRem_i a b
  have hs := Int.tdiv_mul_add_tmod a.toInt b.toInt
  have hm : (a.toInt.tmod b.toInt).natAbs < b.toInt.natAbs := by
    rw [Int.natAbs_tmod]
    exact Nat.mod_lt _ (by omega)
  rw [← e, Int.mul_comm] at hs
  rw [← e] at hm
  have hadd : ∀ h : (wRem a b).toInt < 0 ∧ 0 < b.toInt ∨ 0 < (wRem a b).toInt ∧ b.toInt < 0, (wRem a b + b).toInt = (wRem a b).toInt + b.toInt := fun h => by
    rw [Int64.toInt_add]
    exact Int.bmod_eq_of_le (by omega) (by omega)
  have hq : b.toInt * (a.toInt.tdiv b.toInt - 1) = b.toInt * a.toInt.tdiv b.toInt - b.toInt := by rw [Int.mul_sub, Int.mul_one]
  have key : ∀ c : Int64, c = mRest a b → (c = wRem a b ∧ (0 < b.toInt → 0 ≤ c.toInt) ∧ (b.toInt < 0 → c.toInt ≤ 0)) ∨ (c.toInt = (wRem a b).toInt + b.toInt ∧ (0 < b.toInt → (wRem a b).toInt < 0) ∧ (b.toInt < 0 → 0 < (wRem a b).toInt)) := fun c hc => by
    subst hc
    have z : wRem a b = 0 ↔ (wRem a b).toInt = 0 := by rw [← Int64.toInt_inj, l0]
    have zn := neg_iff (wRem a b)
    have bn := neg_iff b
    unfold mRest
    by_cases q1 : wRem a b = 0
    · rw [if_pos q1]
      have z1 := z.mp q1
      exact Or.inl ⟨rfl, by omega, by omega⟩
    · rw [if_neg q1]
      have z1 : ¬ (wRem a b).toInt = 0 := fun e => q1 (z.mpr e)
      by_cases q2 : wRem a b < 0
      · rw [if_pos q2]
        have z2 := zn.mp q2
        by_cases q3 : b < 0
        · rw [if_pos q3]
          have z3 := bn.mp q3
          exact Or.inl ⟨rfl, by omega, by omega⟩
        · rw [if_neg q3]
          have z3 : ¬ b.toInt < 0 := fun e => q3 (bn.mpr e)
          exact Or.inr ⟨hadd (Or.inl (by omega)), by omega, by omega⟩
      · rw [if_neg q2]
        have z2 : ¬ (wRem a b).toInt < 0 := fun e => q2 (zn.mpr e)
        by_cases q3 : b < 0
        · rw [if_pos q3]
          have z3 := bn.mp q3
          exact Or.inr ⟨hadd (Or.inr (by omega)), by omega, by omega⟩
        · rw [if_neg q3]
          have z3 : ¬ b.toInt < 0 := fun e => q3 (bn.mpr e)
          exact Or.inl ⟨rfl, by omega, by omega⟩
  rcases key _ rfl with ⟨k1, k2, k3⟩ | ⟨k1, k2, k3⟩
  · refine ⟨a.toInt.tdiv b.toInt, by rw [k1]; omega, fun h => ⟨k2 h, ?_⟩, fun h => ⟨?_, k3 h⟩⟩
    · rw [k1]
      omega
    · rw [k1]
      omega
  · refine ⟨a.toInt.tdiv b.toInt - 1, by rw [k1, hq]; omega, fun h => ?_, fun h => ?_⟩
    · have := k2 h
      omega
    · have := k3 h
      omega
/-- a rest is one of its class in its range, and there is one such -/
theorem rest_uniq {a b : Int64} (hb : ¬ b = 0) {r : Int} (hr : ∃ q : Int, a.toInt = b.toInt * q + r) (h1 : 0 < b.toInt → 0 ≤ r ∧ r < b.toInt) (h2 : b.toInt < 0 → b.toInt < r ∧ r ≤ 0) : (mRest a b).toInt = r := by
  have b0 : ¬ b.toInt = 0 := fun e => hb (Int64.toInt_inj.mp (e.trans l0.symm))
  obtain ⟨q, hq⟩ := hr
  obtain ⟨p, hp, k1, k2⟩ := rest_spec a b hb
  have e : b.toInt * (q - p) = (mRest a b).toInt - r := by
    rw [Int.mul_sub]
    omega
  have hz : q - p = 0 := by
    refine Decidable.by_contra (fun hn => ?_)
    have hA : b.toInt.natAbs ≤ (b.toInt * (q - p)).natAbs := by
      rw [Int.natAbs_mul]
      exact Nat.le_mul_of_pos_right _ (by omega)
    rw [e] at hA
    rcases Int.lt_or_gt_of_ne b0 with h | h
    · have := k2 h
      have := h2 h
      omega
    · have := k1 h
      have := h1 h
      omega
  rw [hz, Int.mul_zero] at e
  omega
theorem m_nz {m : Int32} (h : ¬ m = 0) : ¬ m.toInt64 = 0 := fun e => by
  have := congrArg Int64.toInt e
  rw [Int32.toInt_toInt64, l0] at this
  exact h (Int32.toInt_inj.mp (this.trans i0.symm))
theorem rest_rt (v : Int64) {m : Int32} (h : ¬ m = 0) : rt (mRest v m.toInt64) := by
  rw [rt_iff]
  obtain ⟨q, -, h1, h2⟩ := rest_spec v m.toInt64 (m_nz h)
  have e := Int32.toInt_toInt64 m
  have m1 := m.toInt_lt
  have m2 := m.le_toInt
  have m0 : ¬ m.toInt = 0 := fun e => h (Int32.toInt_inj.mp (e.trans i0.symm))
  unfold inI
  rw [e] at h1 h2
  rcases Int.lt_or_gt_of_ne m0 with q | q
  · have := h2 q
    omega
  · have := h1 q
    omega
theorem rest_rest (v b : Int64) (h : ¬ b = 0) : mRest (mRest v b) b = mRest v b := by
  obtain ⟨q, -, h1, h2⟩ := rest_spec v b h
  exact Int64.toInt_inj.mp (rest_uniq h ⟨0, by rw [Int.mul_zero, Int.zero_add]⟩ h1 h2)
theorem rRes_m (v : Int64) {m : Int32} (h : ¬ m = 0) : rRes v m = (mRest v m.toInt64).toInt32 := by
  unfold rRes
  rw [← mRest_eq (m_nz h)]
theorem rRes_64 (v : Int64) {m : Int32} (h : ¬ m = 0) : (rRes v m).toInt64 = mRest v m.toInt64 := by
  rw [rRes_m v h]
  exact rest_rt v h
theorem rRes_2 (v : Int64) {m : Int32} (h : ¬ m = 0) : rRes (rRes v m).toInt64 m = rRes v m := by
  rw [rRes_64 v h, rRes_m _ h, rRes_m _ h, rest_rest _ _ (m_nz h)]
theorem cl3 {r : Int32} (h : ok3 r) : r.toNatClampNeg < 3 := by rcases c3 h with rfl | rfl | rfl <;> decide
theorem cl4 {k : Int32} (h : ok4 k) : k.toNatClampNeg < 4 := by rcases c4 h with rfl | rfl | rfl | rfl <;> decide
theorem cl12 {r k : Int32} (hr : ok3 r) (hk : ok4 k) : (r * 4 + k).toNatClampNeg = 4 * r.toNatClampNeg + k.toNatClampNeg := by
  rcases c3 hr with rfl | rfl | rfl <;> rcases c4 hk with rfl | rfl | rfl | rfl <;> decide
section REL3
variable {x : XS} {s : MS}
theorem res_eq (h : Rel x s) {r k : Int32} (hr : ok3 r) (hk : ok4 k) : xRes r k x = mRes r k s := by
  unfold xRes mRes
  rw [cl12 hr hk]
  exact h.2.2.2.2.2.1 _ _ (cl3 hr) (cl4 hk)
theorem mod_eq (h : Rel x s) (r : Int32) : xMod r x = mMod r s := by
  unfold xMod mMod
  rw [h.2.2.2.1]
theorem mod_nz (h : Rel x s) (r : Int32) : ¬ mMod r s = 0 := h.2.2.2.2.1 _
theorem rel_setR (h : Rel x s) {r k : Int32} (hr : ok3 r) (hk : ok4 k) (v : Int32) : Rel (xSetR r k v x) (sSetR r k v s) := by
  obtain ⟨h1, h2, h3, h4, h5, h6, h7⟩ := h
  refine ⟨h1, h2, h3, h4, h5, fun i j hi hj => ?_, h7⟩
  show upd (xR x) (r * 4 + k).toNatClampNeg v (4 * i + j) = (if i = r.toNatClampNeg then upd (mR s i) k.toNatClampNeg v else mR s i) j
  rw [cl12 hr hk]
  have := cl4 hk
  have h6 := h6 i j hi hj
  by_cases q : i = r.toNatClampNeg
  · rw [if_pos q]
    unfold upd
    by_cases q2 : j = k.toNatClampNeg
    · rw [if_pos q2, if_pos (by omega)]
    · rw [if_neg q2, if_neg (by omega)]
      exact h6
  · rw [if_neg q]
    unfold upd
    rw [if_neg (by omega)]
    exact h6
theorem res_set (r k : Int32) (v : Int32) (s : MS) : mRes r k (sSetR r k v s) = v := by
  show (if r.toNatClampNeg = r.toNatClampNeg then upd (mR s r.toNatClampNeg) k.toNatClampNeg v else mR s r.toNatClampNeg) k.toNatClampNeg = v
  rw [if_pos rfl]
  unfold upd
  rw [if_pos rfl]
theorem AR_come (h : Rel x s) (h0 : mTh s = 0) {r k : Int32} (hr : ok3 r) (hk : ok4 k) (v : Int64) : AR (.inl (rRes v (xMod r x)), xSetR r k (rRes v (xMod r x)) x) (mCome r k v s) := by
  rw [mod_eq h, rRes_m v (mod_nz h r)]
  refine ⟨rel_setR h hr hk _, h0, ?_⟩
  show _ = mRes r k (sSetR r k _ s)
  rw [res_set]
theorem AR_keepM (h : Rel x s) (h0 : mTh s = 0) {r k : Int32} (hr : ok3 r) (hk : ok4 k) (v : Int64) : AR (xKeepM r k v x) (mCome r k v s) := by
  unfold xKeepM
  rw [nd_yes hr, nd_yes hk]
  exact AR_come h h0 hr hk v
theorem ra_rest (h : Rel x s) (l k m : Int32) : AR (xRest l k m x) (m_rest l k m s) := by
  unfold xRest m_rest
  rw [num_now h]
  refine AR_gd (n4_iff k) h (fun hk => AR_rf (rel_T h 0) (fun hm => ?_))
  exact AR_val (rel_T h 0) rfl (rRes_m _ hm)
theorem n344 (r k f : Int32) : ((ok3 r ∧ ok4 k) ∧ (ok3 r ∧ ok4 f)) ↔ (n3 r ∧ n4 k ∧ n4 f) := by
  rw [n4_iff, n4_iff, n3_iff]
  exact ⟨fun ⟨⟨a, b⟩, _, c⟩ => ⟨a, b, c⟩, fun ⟨a, b, c⟩ => ⟨⟨a, b⟩, a, c⟩⟩
theorem n34 (r k : Int32) : (ok3 r ∧ ok4 k) ↔ (n3 r ∧ n4 k) := by rw [n4_iff, n3_iff]
theorem ra_bring (h : Rel x s) (r k l f : Int32) : AR (xBring r k l f x) (m_bring r k l f s) := by
  unfold xBring m_bring xKeepM
  rw [nd_nd, nd_nd, num_now h]
  refine AR_gd ?_ h (fun hk => AR_come (rel_T h 0) rfl hk.1.2 hk.2 _)
  rw [n4_iff, n4_iff, n3_iff]
  exact ⟨fun ⟨⟨a, b⟩, c⟩ => ⟨b, c, a⟩, fun ⟨a, b, c⟩ => ⟨⟨c, a⟩, b⟩⟩
theorem ra_lift (h : Rel x s) (r i l k : Int32) : AR (xLift r i l k x) (m_lift r i l k s) := by
  unfold xLift m_lift xKeep
  rw [nd_nd]
  refine AR_gd ?_ h (fun hk => ?_)
  · rw [n4_iff, n4_iff, n3_iff]
    exact and_assoc
  · rw [res_eq h hk.1.1 hk.1.2]
    exact AR_become (rel_T h 0) rfl l k (fun _ => rt_I _)
theorem ra_plus (h : Rel x s) (r k f m : Int32) : AR (xPlus r k f m x) (m_plus r k f m s) := by
  unfold xPlus m_plus
  rw [nd_nd]
  refine AR_gd (n344 r k f) h (fun hk => ?_)
  rw [res_eq h hk.1.1 hk.1.2, res_eq h hk.2.1 hk.2.2]
  rw [Int64.sub_eq_add_neg]
  exact AR_keepM (rel_T h 0) rfl hk.1.1 hk.1.2 _
theorem ra_times (h : Rel x s) (r k f : Int32) : AR (xTimes r k f x) (m_times r k f s) := by
  unfold xTimes m_times
  rw [nd_nd]
  refine AR_gd (n344 r k f) h (fun hk => ?_)
  rw [res_eq h hk.1.1 hk.1.2, res_eq h hk.2.1 hk.2.2]
  exact AR_keepM (rel_T h 0) rfl hk.1.1 hk.1.2 _
theorem ra_residue (h : Rel x s) (r k : Int32) : AR (xResidue r k x) (m_residue r k s) := by
  unfold xResidue m_residue
  refine AR_gd (n34 r k) h (fun hk => ?_)
  exact AR_val (rel_T h 0) rfl (res_eq h hk.1 hk.2)
theorem ra_areAlike (h : Rel x s) (r l f g : Int32) : AR (xAlike r l f g x) (m_areAlike r l f g s) := by
  unfold xAlike m_areAlike
  rw [nd_nd, nd_nd, num_now h, num_now h]
  refine AR_gd ?_ h (fun hk => ?_)
  · rw [n4_iff, n4_iff, n3_iff]
    exact and_assoc
  · refine AR_val (rel_T h 0) rfl ?_
    have e := mod_eq h r
    have hn := mod_nz h r
    rw [e]
    show (if wRest (mNow l f s) (mMod r s).toInt64 = wRest (mNow l g s) (mMod r s).toInt64 then 1 else 0 : Int32) = if mRest (mNow l f s) (mMod r s).toInt64 = mRest (mNow l g s) (mMod r s).toInt64 then 1 else 0
    rw [mRest_eq (m_nz hn), mRest_eq (m_nz hn)]
theorem rel_setM (h : Rel x s) (r : Int32) {m : Int32} (hm : ¬ m = 0) : Rel (xSetM r m x) (sSetM r m s) := by
  obtain ⟨h1, h2, h3, h4, h5, h6⟩ := h
  refine ⟨h1, h2, h3, ?_, fun j => ?_, h6⟩
  · show upd (xM x) _ m = upd (mM s) _ m
    rw [h4]
  · show ¬ upd (mM s) _ m j = 0
    unfold upd
    split
    · exact hm
    · exact h5 j
theorem rel_ring (h : Rel x s) {r i : Int32} (hr : ok3 r) (hi : ok4 i) : Rel (xRing1 r i x) (mCome r i (mRes r i s).toInt64 s).2 := by
  unfold xRing1 mCome
  rw [mod_eq h, res_eq h hr hi, rRes_m _ (mod_nz h r)]
  exact rel_setR h hr hi _
theorem th_come (r i : Int32) (v : Int64) (s : MS) : mTh (mCome r i v s).2 = mTh s := rfl
theorem ra_modulus (h : Rel x s) (r m : Int32) : AR (xModulus r m x) (m_modulus r m s) := by
  unfold xModulus m_modulus
  refine AR_gd (n3_iff r) h (fun hr => AR_rf (rel_T h 0) (fun hm => ?_))
  have g := rel_setM (rel_T h 0) r hm
  have g1 := rel_ring g hr (i := 0) ⟨by decide, by decide⟩
  have g2 := rel_ring g1 hr (i := 0 + 1) ⟨by decide, by decide⟩
  have g3 := rel_ring g2 hr (i := 0 + 1 + 1) ⟨by decide, by decide⟩
  have g4 := rel_ring g3 hr (i := 0 + 1 + 1 + 1) ⟨by decide, by decide⟩
  refine ⟨?_, ?_, ?_⟩
  · show Rel (rgL r 4 0 (xSetM r m x)) (mgL r 4 0 (sSetM r m (sT 0 s)))
    simp only [rgL, mgL]
    exact g4
  · show mTh (mgL r 4 0 (sSetM r m (sT 0 s))) = 0
    simp only [mgL]
    rfl
  · show xMod r x = mMod r (sT 0 s)
    exact mod_eq h r
end REL3
