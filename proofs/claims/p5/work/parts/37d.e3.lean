/-! WHAT HOLDS BETWEEN THE CLASS'S STATE AND THE MODEL'S; the numbers' methods keep it and answer alike -/
def rt (v : Int64) : Prop := v.toInt32.toInt64 = v
theorem rt_I (a : Int32) : rt a.toInt64 := by
  unfold rt
  rw [i6432]
theorem rt_iff (v : Int64) : rt v ↔ inI v := by
  unfold rt inI
  constructor
  · intro h
    have h1 := v.toInt32.toInt_lt
    have h2 := v.toInt32.le_toInt
    rw [← Int32.toInt_toInt64, h] at h1 h2
    omega
  · intro h
    rw [← Int64.toInt_inj, Int32.toInt_toInt64, Int64.toInt_toInt32]
    exact Int.bmod_eq_of_le (by omega) (by omega)
theorem rt_rt (v : Int64) : rt v.toInt32.toInt64 := rt_I _
def Rel (x : XS) (s : MS) : Prop := xI x = mI s ∧ xL x = mL s ∧ (∀ j, rt (mI s j)) ∧ xM x = mM s ∧ (∀ j, ¬ mM s j = 0) ∧ (∀ i j : Nat, i < 3 → j < 4 → xR x (4 * i + j) = mR s i j) ∧ xF x = mF s ∧ xK x = mK s
theorem n4_iff (k : Int32) : ok4 k ↔ n4 k := ⟨ok4_n4, n4_ok⟩
theorem n3_iff (k : Int32) : ok3 k ↔ n3 k := by
  refine ⟨fun h => ⟨h.1, fun e => ?_⟩, n3_ok⟩
  have h2 := h.2
  have i3 : (3 : Int32).toInt = 3 := by decide
  have i2 : (2 : Int32).toInt = 2 := by decide
  rw [Int32.lt_iff_toInt_lt] at e h2
  omega
def agI (cd : Nat → Int32) (o : Out) (mo : MO) : Prop := match o.1 with
  | .inl v => mTh mo.2 = 0 ∧ v = mo.1
  | .inr E => mTh mo.2 = cd E
/-- the same answer, and afterwards the same state -/
def AR (o : Out) (mo : MO) : Prop := Rel o.2 mo.2 ∧ agI cd2 o mo
theorem rel_T {x : XS} {s : MS} (h : Rel x s) (v : Int32) : Rel x (sT v s) := h
theorem AR_gd {c c' : Prop} [Decidable c] [Decidable c'] {x : XS} {s : MS} {r : Out} {r' : MO} (hc : c ↔ c') (h : Rel x s) (hr : c → AR r r') : AR (nd c 0 x r) (gd c' s r') := by
  unfold nd gd
  by_cases q : c
  · rw [if_pos q, if_pos (hc.mp q)]
    exact hr q
  · rw [if_neg q, if_neg (fun e => q (hc.mpr e))]
    exact ⟨rel_T h 1, rfl⟩
theorem AR_rf {c : Prop} [Decidable c] {x : XS} {s : MS} {r : Out} {r' : MO} (h : Rel x s) (hr : c → AR r r') : AR (nd c 1 x r) (rf c s r') := by
  unfold nd rf
  by_cases q : c
  · rw [if_pos q, if_pos q]
    exact hr q
  · rw [if_neg q, if_neg q]
    exact ⟨rel_T h 2, rfl⟩
theorem nd_nd {c d : Prop} [Decidable c] [Decidable d] {E : Nat} {x : XS} {r : Out} : nd c E x (nd d E x r) = nd (c ∧ d) E x r := by
  unfold nd
  by_cases q : c <;> by_cases q2 : d <;> simp [q, q2]
theorem nd_yes {c : Prop} [Decidable c] {E : Nat} {x : XS} {r : Out} (h : c) : nd c E x r = r := if_pos h
theorem updL_same (f : Nat → Int64) (i : Nat) : vp_updL f i (f i) = f := by
  funext j
  unfold vp_updL
  split
  · rename_i e
    rw [e]
  · rfl
theorem updL_rt {f : Nat → Int64} (h : ∀ j, rt (f j)) (i : Nat) {v : Int64} (hv : rt v) : ∀ j, rt (vp_updL f i v j) := fun j => by
  unfold vp_updL
  split
  · exact hv
  · exact h j
theorem gone_rt {l : Int32} (v : Int64) (h : l = 0) : rt (wGone l v) := by
  unfold wGone
  rw [if_pos h]
  exact rt_rt v
theorem set_gone (l k : Int32) (v : Int64) (s : MS) : sSet l k (wGone l v) s = sSet l k v s := by
  unfold sSet wGone
  by_cases q : l = 0
  · rw [if_pos q, if_pos q, if_pos q, i6432]
  · rw [if_neg q, if_neg q, if_neg q]
theorem rel_set {x : XS} {s : MS} (h : Rel x s) (l k : Int32) {v : Int64} (hv : l = 0 → rt v) : Rel (xSet l k v x) (sSet l k v s) := by
  obtain ⟨h1, h2, h3, h4⟩ := h
  unfold xSet sSet
  by_cases q : l = 0
  · rw [if_pos q, if_pos q]
    have hv := hv q
    refine ⟨?_, h2, ?_, h4⟩
    · show vp_updL (xI x) _ v = vp_updL (mI s) _ v.toInt32.toInt64
      rw [h1, hv]
    · exact updL_rt h3 _ (rt_rt v)
  · rw [if_neg q, if_neg q]
    refine ⟨h1, ?_, h3, h4⟩
    show vp_updL (xL x) _ v = vp_updL (mL s) _ v
    rw [h2]
theorem AR_set {x : XS} {s : MS} (h : Rel x s) (h0 : mTh s = 0) (l k : Int32) {v : Int64} (hv : l = 0 → rt v) {a : Int32} : AR (.inl a, xSet l k v x) (a, sSet l k v s) := ⟨rel_set h l k hv, (th_set l k v s).trans h0, rfl⟩
theorem AR_val {x : XS} {s : MS} (h : Rel x s) (h0 : mTh s = 0) {a b : Int32} (e : a = b) : AR (.inl a, x) (b, s) := ⟨h, h0, e⟩
theorem now_set2 (l k : Int32) {v : Int64} (hv : l = 0 → rt v) (s : MS) : mNow l k (sSet l k v s) = v := by
  rw [now_set]
  by_cases q : l = 0
  · rw [if_pos q]
    exact hv q
  · rw [if_neg q]
theorem AR_become {x : XS} {s : MS} (h : Rel x s) (h0 : mTh s = 0) (l k : Int32) {v : Int64} (hv : l = 0 → rt v) : AR (.inl (wOrder v 0), xSet l k v x) (mBecome l k v s) := by
  refine ⟨rel_set h l k hv, (th_set l k v s).trans h0, ?_⟩
  show wOrder v 0 = mSign (mNow l k (sSet l k v s))
  rw [now_set2 l k hv, ord_sg]
theorem AR_keep {x : XS} {s : MS} (h : Rel x s) (h0 : mTh s = 0) (l : Int32) {k : Int32} (hk : ok4 k) {v : Int64} (hv : l = 0 → rt v) : AR (xKeep l k v x) (mBecome l k v s) := by
  unfold xKeep
  rw [nd_yes hk]
  exact AR_become h h0 l k hv
theorem AR_keepR {x : XS} {s : MS} (h : Rel x s) (h0 : mTh s = 0) (l : Int32) {k : Int32} (hk : ok4 k) (v : Int64) : AR (xKeepR l k v x) (mBecome l k v s) := by
  have := AR_keep h h0 l hk (v := wGone l v) (fun q => gone_rt v q)
  unfold mBecome at this
  rw [set_gone] at this
  exact this
theorem AR_no {x : XS} {s : MS} (h : Rel x s) (h0 : mTh s = 0) : AR (xRefuse x) (mNo s) := by
  obtain ⟨h1, h2, h3, h4, h5, h6, h7, h8⟩ := h
  refine ⟨⟨h1, h2, h3, h4, h5, h6, ?_, h8⟩, h0, rfl⟩
  show xF x + 1 = mF s + 1
  rw [h7]
theorem num_now {x : XS} {s : MS} (h : Rel x s) (l k : Int32) : xNum l k x = mNow l k s := by
  unfold xNum mNow
  rw [h.1, h.2.1]
theorem now_rt {x : XS} {s : MS} (h : Rel x s) {l : Int32} (k : Int32) (hl : l = 0) : rt (mNow l k s) := by
  unfold mNow
  rw [if_pos hl]
  exact h.2.2.1 _
theorem now0 (k : Int32) (s : MS) : mNow 0 k s = mI s k.toNatClampNeg := rfl
theorem now1 (k : Int32) (s : MS) : mNow 1 k s = mL s k.toNatClampNeg := rfl
theorem AR_ite {c c' : Prop} [Decidable c] [Decidable c'] {a b : Out} {a' b' : MO} (hc : c ↔ c') (ha : c → AR a a') (hb : ¬ c → AR b b') : AR (if c then a else b) (if c' then a' else b') := by
  by_cases q : c
  · rw [if_pos q, if_pos (hc.mp q)]
    exact ha q
  · rw [if_neg q, if_neg (fun e => q (hc.mpr e))]
    exact hb q
theorem n44 (k f : Int32) : (ok4 f ∧ ok4 k) ↔ (n4 k ∧ n4 f) := by
  rw [n4_iff, n4_iff]
  exact And.comm
theorem n44' (k f : Int32) : (ok4 k ∧ ok4 f) ↔ (n4 k ∧ n4 f) := by rw [n4_iff, n4_iff]
section REL
variable {x : XS} {s : MS}
theorem ra_put (h : Rel x s) (l k hi lo : Int32) : AR (xPut l k hi lo x) (m_put l k hi lo s) := by
  unfold xPut m_put xKeep
  refine AR_gd (n4_iff k) h (fun _ => ?_)
  rw [jn]
  exact AR_become (rel_T h 0) rfl l k (fun q => by rw [if_pos q]; exact rt_I lo)
theorem ra_copy (h : Rel x s) (l k f : Int32) : AR (xCopy l k f x) (m_copy l k f s) := by
  unfold xCopy m_copy xKeep
  rw [nd_nd, num_now h]
  exact AR_gd (n44 k f) h (fun _ => AR_become (rel_T h 0) rfl l k (fun q => now_rt h f q))
theorem ra_widen (h : Rel x s) (k f : Int32) : AR (xWiden k f x) (m_widen k f s) := by
  unfold xWiden m_widen xKeep
  rw [nd_nd, num_now h]
  exact AR_gd (n44 k f) h (fun _ => AR_become (rel_T h 0) rfl 1 k (fun q => absurd q n10))
theorem ra_narrow (h : Rel x s) (k f : Int32) : AR (xNarrow k f x) (m_narrow k f s) := by
  unfold xNarrow m_narrow
  rw [nd_nd, num_now h, now1]
  refine AR_gd (n44' k f) h (fun hk => ?_)
  have e : wWithin 0 (mL s f.toNatClampNeg) = 0 ↔ ¬ (mL s f.toNatClampNeg = (mL s f.toNatClampNeg).toInt32.toInt64) := by
    unfold wWithin
    rw [if_pos rfl]
    by_cases q : mL s f.toNatClampNeg = (mL s f.toNatClampNeg).toInt32.toInt64
    · rw [if_pos q]
      exact ⟨fun e => absurd e n10, fun e => absurd q e⟩
    · rw [if_neg q]
      exact ⟨fun _ => q, fun _ => rfl⟩
  by_cases q : mL s f.toNatClampNeg = (mL s f.toNatClampNeg).toInt32.toInt64
  · rw [if_neg (fun e2 => (e.mp e2) q)]
    refine Eq.subst (motive := fun z => AR (xKeep 0 k (mL s f.toNatClampNeg) x) z) (if_pos q).symm ?_
    exact AR_keep (rel_T h 0) rfl 0 hk.1 (fun _ => q.symm)
  · rw [if_pos (e.mpr q)]
    refine Eq.subst (motive := fun z => AR (xRefuse x) z) (if_neg q).symm ?_
    exact AR_no (rel_T h 0) rfl
theorem wi_0 {l : Int32} {a b : Int64} {w : Int32} (h : l = 0) (e : ¬ mWithin l a b w = 0) : rt (wJoin a b w) := by
  unfold mWithin at e
  rw [if_pos h] at e
  by_cases q : wJoin a b w = (wJoin a b w).toInt32.toInt64
  · exact q.symm
  · rw [if_neg q] at e
    exact absurd rfl e
theorem AR_keepE (h : Rel x s) (h0 : mTh s = 0) (l : Int32) {k : Int32} (hk : ok4 k) {a b : Int64} (hi : l = 0 → inI a ∧ inI b) (w : Int32) : AR (xKeepE l k a b w x) (if mWithin l a b w = 0 then mNo s else mBecome l k (wJoin a b w) s) := by
  unfold xKeepE
  rw [ex_all hi w]
  exact AR_ite Iff.rfl (fun _ => AR_no h h0) (fun q => AR_keep h h0 l hk (fun q2 => wi_0 q2 q))
theorem in_now (h : Rel x s) {l : Int32} (k f : Int32) (hl : l = 0) : inI (mNow l k s) ∧ inI (mNow l f s) := ⟨(rt_iff _).mp (now_rt h k hl), (rt_iff _).mp (now_rt h f hl)⟩
theorem ra_exact (h : Rel x s) (l k f w : Int32) : AR (xExact l k f w x) (m_exact l k f w s) := by
  unfold xExact m_exact
  rw [nd_nd, num_now h, num_now h]
  refine AR_gd (n44' k f) h (fun hk => AR_rf (rel_T h 0) (fun _ => ?_))
  exact AR_keepE (rel_T h 0) rfl l hk.1 (fun q => in_now h k f q) w
theorem ra_fits (h : Rel x s) (l k f w : Int32) : AR (xFits l k f w x) (m_fits l k f w s) := by
  unfold xFits m_fits
  rw [nd_nd, num_now h, num_now h]
  refine AR_gd (n44' k f) h (fun hk => AR_rf (rel_T h 0) (fun _ => ?_))
  refine AR_val (rel_T h 0) rfl ?_
  rw [ex_all (fun q => in_now h k f q) w]
  show mWithin l (mNow l k s) (mNow l f s) w = if mWithin l (mNow l k s) (mNow l f s) w = 0 then 0 else 1
  generalize mNow l k s = a
  generalize mNow l f s = b
  unfold mWithin
  repeat' split
  all_goals first | rfl | (rename_i e; exact absurd e n10) | (rename_i e; exact absurd rfl e)
theorem ra_round (h : Rel x s) (l k f w : Int32) : AR (xRound l k f w x) (m_round l k f w s) := by
  unfold xRound m_round
  rw [nd_nd, num_now h, num_now h]
  refine AR_gd (n44' k f) h (fun hk => AR_rf (rel_T h 0) (fun _ => ?_))
  exact AR_keepR (rel_T h 0) rfl l hk.1 _
theorem ra_alone (h : Rel x s) (l k w : Int32) : AR (xAlone l k w x) (m_alone l k w s) := by
  unfold xAlone m_alone
  rw [num_now h]
  refine AR_gd (n4_iff k) h (fun hk => AR_rf (rel_T h 0) (fun hw => ?_))
  have i0 : inI 0 := ⟨by decide, by decide⟩
  have i1 : inI 1 := ⟨by decide, by decide⟩
  refine AR_ite Iff.rfl (fun q => ?_) (fun q => ?_)
  · have := AR_keepE (rel_T h 0) rfl l hk (a := 0) (b := mNow l k s) (fun q => ⟨i0, (in_now h k k q).1⟩) 1
    have e : wJoin 0 (mNow l k s) 1 = -(mNow l k s) := by
      unfold wJoin
      rw [if_neg n10, if_pos rfl]
      exact Int64.zero_sub _
    rw [e] at this
    exact this
  · have e : (if w = 0 then 0 else 1 : Int32) = w := by
      have h1 := hw.1
      have h2 := hw.2
      rw [Int32.lt_iff_toInt_lt] at h1 h2
      have e2 : (2 : Int32).toInt = 2 := by decide
      have e1 : (1 : Int32).toInt = 1 := by decide
      have e0 : (0 : Int32).toInt = 0 := by decide
      have q3 : ¬ w.toInt = 2 := fun e => q (Int32.toInt_inj.mp (e.trans e2.symm))
      by_cases q4 : w = 0
      · rw [if_pos q4, q4]
      · rw [if_neg q4]
        have q5 : ¬ w.toInt = 0 := fun e => q4 (Int32.toInt_inj.mp (e.trans e0.symm))
        exact Int32.toInt_inj.mp (by omega)
    rw [e]
    exact AR_keepE (rel_T h 0) rfl l hk (fun q => ⟨(in_now h k k q).1, i1⟩) w
theorem ra_timesInt (h : Rel x s) (k f : Int32) : AR (xTimesInt k f x) (m_timesInt k f s) := by
  unfold xTimesInt m_timesInt
  rw [nd_nd, num_now h, num_now h]
  refine AR_gd (n44' k f) h (fun hk => ?_)
  exact AR_keepE (rel_T h 0) rfl 1 hk.1 (fun q => absurd q n10) 2
theorem n444 (k f g : Int32) : ((ok4 f ∧ ok4 g) ∧ ok4 k) ↔ (n4 k ∧ n4 f ∧ n4 g) := by
  rw [n4_iff, n4_iff, n4_iff]
  exact ⟨fun ⟨⟨a, b⟩, c⟩ => ⟨c, a, b⟩, fun ⟨a, b, c⟩ => ⟨⟨b, c⟩, a⟩⟩
theorem ra_full (h : Rel x s) (k f g : Int32) : AR (xFull k f g x) (m_full k f g s) := by
  unfold xFull m_full xKeep
  rw [nd_nd, nd_nd, num_now h, num_now h]
  exact AR_gd (n444 k f g) h (fun _ => AR_become (rel_T h 0) rfl 1 k (fun q => absurd q n10))
theorem upper1 (a b : Int64) : wUpper 1 a b = mAbove a b := by
  unfold wUpper mAbove
  rw [if_neg n10]
theorem ra_high (h : Rel x s) (k f g : Int32) : AR (xHigh k f g x) (m_high k f g s) := by
  unfold xHigh m_high xKeep
  rw [nd_nd, nd_nd, num_now h, num_now h, upper1]
  exact AR_gd (n444 k f g) h (fun _ => AR_become (rel_T h 0) rfl 1 k (fun q => absurd q n10))
theorem ra_compare (h : Rel x s) (l k f : Int32) : AR (xCompare l k f x) (m_compare l k f s) := by
  unfold xCompare m_compare
  rw [nd_nd, num_now h, num_now h]
  refine AR_gd (n44' k f) h (fun hk => ?_)
  show AR (.inl (wOrder (mNow l k s) (mNow l f s)), x) (if mNow l k s < mNow l f s then (-1, sT 0 s) else if mNow l f s < mNow l k s then (1, sT 0 s) else (0, sT 0 s))
  unfold wOrder
  split
  · exact AR_val (rel_T h 0) rfl rfl
  · split <;> exact AR_val (rel_T h 0) rfl rfl
theorem ra_abs (h : Rel x s) (l k : Int32) : AR (xAbs l k x) (m_abs l k s) := by
  unfold xAbs m_abs
  rw [num_now h]
  refine AR_gd (n4_iff k) h (fun hk => ?_)
  show AR (xKeepR l k (lAbs (mNow l k s)) x) (if mNow l k s < 0 then mBecome l k (-(mNow l k s)) (sT 0 s) else (mSign (mNow l k s), sT 0 s))
  unfold lAbs
  by_cases q : mNow l k s < 0
  · rw [if_pos q, if_pos q]
    exact AR_keepR (rel_T h 0) rfl l hk _
  · rw [if_neg q, if_neg q]
    have e : sSet l k (mNow l k s) (sT 0 s) = sT 0 s := by
      unfold sSet mNow
      by_cases q2 : l = 0
      · have e2 : (mI s k.toNatClampNeg).toInt32.toInt64 = mI s k.toNatClampNeg := h.2.2.1 _
        rw [if_pos q2, if_pos q2, e2]
        show (_, vp_updL (mI s) _ _, _) = _
        rw [updL_same]
        rfl
      · rw [if_neg q2, if_neg q2]
        show (_, _, vp_updL (mL s) _ _, _) = _
        rw [updL_same]
        rfl
    have := AR_keepR (rel_T h 0) rfl l hk (mNow l k s)
    unfold mBecome at this
    rw [e] at this
    exact this
end REL
