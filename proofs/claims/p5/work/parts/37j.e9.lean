/-! meetings and digits answered, texts: the class's state and the model's stay one -/
theorem i10_64 : (10 : Int64).toInt = 10 := by decide
theorem div10 (r : Int64) : (r / 10).toInt = r.toInt.tdiv 10 ∧ (r / 10).toInt.natAbs = r.toInt.natAbs / 10 := by
  have r1 := r.toInt_lt
  have r2 := r.le_toInt
  have h3 := Int.natAbs_tdiv r.toInt 10
  have h4 : r.toInt.natAbs.div (Int.natAbs 10) = r.toInt.natAbs / 10 := rfl
  rw [h4] at h3
  have e : (r / 10).toInt = r.toInt.tdiv 10 := by
    rw [Int64.toInt_div, i10_64]
    exact Int.bmod_eq_of_le (by omega) (by omega)
  rw [e]
  exact ⟨rfl, h3⟩
theorem cnt_i : ∀ (n c : Nat) (r : Int64), ndg r.toInt.natAbs ≤ n → c + ndg r.toInt.natAbs ≤ 20 → cntL n (Int32.ofNat c) r = Int32.ofNat (c + ndg r.toInt.natAbs)
  | 0, c, r, h, _ => by
    have := ndg_pos r.toInt.natAbs
    exact absurd h (by omega)
  | n + 1, c, r, h, h2 => by
    obtain ⟨e1, e2⟩ := div10 r
    rw [cntL]
    by_cases q : r / 10 = 0
    · have q' := congrArg Int64.toInt q
      rw [l0] at q'
      rw [q'] at e2
      have e2 : 0 = r.toInt.natAbs / 10 := e2
      rw [if_pos q, ndg_s (by omega), on_s]
    · have q' : ¬ (r / 10).toInt = 0 := fun e => q (Int64.toInt_inj.mp (e.trans l0.symm))
      have hg : ¬ r.toInt.natAbs < 10 := fun e => by omega
      rw [ndg_g hg] at h h2 ⊢
      have hp := ndg_pos (r.toInt.natAbs / 10)
      have hc : Int32.ofNat c + 1 < 20 := by
        rw [on_s, Int32.lt_iff_toInt_lt, oN (by omega), show (20 : Int32).toInt = 20 by decide]
        omega
      rw [if_neg q, if_pos hc, on_s]
      have := cnt_i n (c + 1) (r / 10) (by
        rw [e2]
        omega) (by
        rw [e2]
        omega)
      rw [this, e2]
      congr 1
      omega
theorem cnt_tl (v : Int64) : dCount v = Int32.ofNat (tl v.toInt) := by
  have v1 := v.toInt_lt
  have v2 := v.le_toInt
  have hu := ndg_up 18 v.toInt.natAbs (by
    have : (10 : Nat) ^ (18 + 1) = 10000000000000000000 := by decide
    rw [this]
    omega)
  have e := neg_iff v
  unfold dCount tl sgN
  by_cases q : v < 0
  · rw [if_pos q, if_pos (e.mp q)]
    have := cnt_i 20 1 v (by omega) (by omega)
    rw [Nat.add_comm]
    exact this
  · rw [if_neg q, if_neg (fun z => q (e.mpr z))]
    have := cnt_i 20 0 v (by omega) (by omega)
    rw [Nat.zero_add] at this
    exact this
theorem edge_eq (l : Int32) (v : Int64) : wEdge l v = if v = mLeast l then -1 else if v = -1 - mLeast l then 1 else 0 := by
  unfold wEdge mLeast
  by_cases q : l = 0
  · rw [if_pos q, if_pos q, show (-1 - -2147483648 : Int64) = 2147483647 by decide]
  · rw [if_neg q, if_neg q, show (-1 - -9223372036854775808 : Int64) = 9223372036854775807 by decide]
section REL5
variable {x : XS} {s : MS}
theorem of_eq (h : Rel x s) (l k w : Int32) : xOf l k w x = mOf l k w s := by
  unfold xOf mOf
  rw [num_now h, ord_sg, edge_eq, cnt_tl]
theorem ra_ofNumber (h : Rel x s) (l k w : Int32) : AR (xOfNumber l k w x) (m_ofNumber l k w s) := by
  unfold xOfNumber m_ofNumber
  refine AR_gd (n4_iff k) h (fun hk => AR_rf (rel_T h 0) (fun hw => ?_))
  exact AR_val (rel_T h 0) rfl (of_eq (rel_T h 0) l k w)
theorem ra_together (h : Rel x s) (k r f q g : Int32) : AR (xTogether k r f q g x) (m_together k r f q g s) := by
  unfold xTogether m_together
  rw [nd_nd, nd_nd]
  refine AR_gd ?_ h (fun hk => ?_)
  · rw [n4_iff, n4_iff, n4_iff, n3_iff, n3_iff]
    exact ⟨fun ⟨⟨a, b, c⟩, d, e⟩ => ⟨a, b, c, d, e⟩, fun ⟨a, b, c, d, e⟩ => ⟨⟨a, b, c⟩, d, e⟩⟩
  · rw [res_eq h hk.1.2.1 hk.1.2.2, res_eq h hk.2.1 hk.2.2, mod_eq h, mod_eq h]
    obtain ⟨h1, h2⟩ := meet_eq (mRes r f s) (mRes q g s) (mod_nz h r) (mod_nz h q) rfl rfl rfl rfl rfl
    by_cases z : wRem (mRest (mRes q g (sT 0 s)).toInt64 (lAbs (mMod q (sT 0 s)).toInt64) - (mRest (mRes r f (sT 0 s)).toInt64 (lAbs (mMod r (sT 0 s)).toInt64))) (mGcd (lAbs (mMod r (sT 0 s)).toInt64) (lAbs (mMod q (sT 0 s)).toInt64)) = 0
    · obtain ⟨g1, g2⟩ := h1 z
      rw [if_neg g2, if_pos z, g1]
      exact AR_keep (rel_T h 0) rfl 1 hk.1.1 (fun e => absurd e n10)
    · rw [if_pos (h2 z), if_neg z]
      exact AR_no (rel_T h 0) rfl
theorem ra_text (h : Rel x s) (l k : Int32) : Rel (xText l k x).2 (m_text k s) := by
  unfold xText m_text nd
  split <;> split <;> exact h
theorem ra_distance (h : Rel x s) (l a b : Int32) : Rel (xDistance l a b x).2 (m_distance a b s) := by
  unfold xDistance m_distance nd
  repeat' split
  all_goals exact h
theorem ra_quotient (h : Rel x s) (l k m : Int32) : Rel (xQuotient l k m x).2 (m_quotient k m s) := by
  unfold xQuotient m_quotient nd
  repeat' split
  all_goals exact h
theorem ra_common (h : Rel x s) (r q : Int32) : Rel (xCommon r q x).2 (m_common r q s) := by
  unfold xCommon m_common nd
  repeat' split
  all_goals exact h
theorem ra_ringText (h : Rel x s) (r : Int32) : Rel (xRingText r x).2 (m_ringText r s) := by
  unfold xRingText m_ringText nd
  repeat' split
  all_goals exact h
theorem ra_knock (h : Rel x s) : AR (xKnock x) (m_knock s) := by
  obtain ⟨h1, h2, h3, h4, h5, h6, h7, h8⟩ := h
  have e : xK x + 1 = mK s + 1 := by rw [h8]
  exact ⟨⟨h1, h2, h3, h4, h5, h6, h7, e⟩, rfl, e⟩
end REL5
