/-! THE MODEL: its cells, its small methods -/
abbrev MS : Type := Int32 × (Nat → Int64) × (Nat → Int64) × (Nat → Int32) × (Nat → Nat → Int32) × Int32 × Int32
abbrev mTh (s : MS) : Int32 := s.1
abbrev mI (s : MS) : Nat → Int64 := s.2.1
abbrev mL (s : MS) : Nat → Int64 := s.2.2.1
abbrev mM (s : MS) : Nat → Int32 := s.2.2.2.1
abbrev mR (s : MS) : Nat → Nat → Int32 := s.2.2.2.2.1
abbrev mF (s : MS) : Int32 := s.2.2.2.2.2.1
abbrev mK (s : MS) : Int32 := s.2.2.2.2.2.2
def oW (i : Nat) : Option Nat := if i < 3 then some (10 + i) else none
def hm (s : MS) (x : XS) (t : mH) : mH := hx x (.inr (4, [.int (mTh s), .ref 6, .ref 7, .ref 8, .ref 9, .int (mF s), .int (mK s)]) :: .inl (2, 4, .inr (.inl (mI s))) :: .inl (2, 4, .inr (.inl (mL s))) :: .inl (1, 3, .inl (mM s)) :: .inl (3, 3, .inr (.inr (.inr (.inr oW)))) :: .inl (1, 4, .inl (mR s 0)) :: .inl (1, 4, .inl (mR s 1)) :: .inl (1, 4, .inl (mR s 2)) :: t)
abbrev n4 (k : Int32) : Prop := ¬ k < 0 ∧ ¬ 3 < k
abbrev n3 (k : Int32) : Prop := ¬ k < 0 ∧ ¬ 2 < k
theorem n4_ok {k : Int32} (h : n4 k) : ok4 k := by
  refine ⟨h.1, ?_⟩
  have h2 := h.2
  rw [Int32.lt_iff_toInt_lt] at h2 ⊢
  have e : (4 : Int32).toInt = 4 := by decide
  have e0 : (3 : Int32).toInt = 3 := by decide
  omega
theorem n3_ok {k : Int32} (h : n3 k) : ok3 k := by
  refine ⟨h.1, ?_⟩
  have h2 := h.2
  rw [Int32.lt_iff_toInt_lt] at h2 ⊢
  have e : (3 : Int32).toInt = 3 := by decide
  have e0 : (2 : Int32).toInt = 2 := by decide
  omega
abbrev MO : Type := Int32 × MS
def anM (K : Kt) (x : XS) (t : mH) (o : MO) : Prop := K (.inl (some (.int o.1))) (hm o.2 x t)
def sT (v : Int32) (s : MS) : MS := (v, s.2)
def sSet (l k : Int32) (v : Int64) (s : MS) : MS := if l = 0 then (s.1, vp_updL (mI s) k.toNatClampNeg v.toInt32.toInt64, s.2.2) else (s.1, s.2.1, vp_updL (mL s) k.toNatClampNeg v, s.2.2.2)
def mNow (l k : Int32) (s : MS) : Int64 := if l = 0 then mI s k.toNatClampNeg else mL s k.toNatClampNeg
def mSign (v : Int64) : Int32 := if v < 0 then -1 else if 0 < v then 1 else 0
def mBecome (l k : Int32) (v : Int64) (s : MS) : MO := (mSign (mNow l k (sSet l k v s)), sSet l k v s)
def mNo (s : MS) : MO := (-9, (s.1, s.2.1, s.2.2.1, s.2.2.2.1, s.2.2.2.2.1, mF s + 1, mK s))
def mMod (r : Int32) (s : MS) : Int32 := mM s r.toNatClampNeg
def mRes (r k : Int32) (s : MS) : Int32 := mR s r.toNatClampNeg k.toNatClampNeg
def sSetR (r k : Int32) (v : Int32) (s : MS) : MS := (s.1, s.2.1, s.2.2.1, s.2.2.2.1, (fun i => if i = r.toNatClampNeg then upd (mR s i) k.toNatClampNeg v else mR s i), s.2.2.2.2.2)
def mRest (a b : Int64) : Int64 := if wRem a b = 0 then wRem a b else if wRem a b < 0 then (if b < 0 then wRem a b else wRem a b + b) else (if b < 0 then wRem a b + b else wRem a b)
def mFloor (a b : Int64) : Int64 := if wRem a b = 0 then a / b else if a < 0 then (if b < 0 then a / b else a / b - 1) else (if b < 0 then a / b - 1 else a / b)
def mCome (r k : Int32) (v : Int64) (s : MS) : MO := (mRes r k (sSetR r k (mRest v (mMod r s).toInt64).toInt32 s), sSetR r k (mRest v (mMod r s).toInt64).toInt32 s)
def mGcdL : Nat → Int64 → Int64 → Int64
  | 0, g, _ => g
  | n + 1, g, l => if 0 < l then mGcdL n l (wRem g l) else g
termination_by n => n
def mGcd (a b : Int64) : Int64 := mGcdL (lAbs b).toInt.toNat (lAbs a) (lAbs b)
def mAgL : Nat → Int64 → Int64 → Int64 → Int64 → Int64
  | 0, _, _, f, _ => f
  | n + 1, g, l, f, nf => if 0 < l then mAgL n l (g - g / l * l) nf (f - g / l * nf) else f
termination_by n => n
def mAgainst (v m : Int64) : Int64 := mRest (mAgL (mRest v m).toInt.toNat m (mRest v m) 0 1) m
def mUnit (r k : Int32) (s : MS) : Int32 := if mGcd (mRes r k s).toInt64 (mMod r s).toInt64 = 1 then 1 else 0
def mAbove (a b : Int64) : Int64 :=
  ((a >>> sh32) * (b >>> sh32) + ((a >>> sh32) * (b &&& 4294967295) + (((a &&& 4294967295) * (b &&& 4294967295)).toUInt64 >>> ((32 : Int32).toInt64.toUInt64 &&& Int64.toUInt64 63)).toInt64) >>> sh32) +
    ((a &&& 4294967295) * (b >>> sh32) + (((a >>> sh32) * (b &&& 4294967295) + (((a &&& 4294967295) * (b &&& 4294967295)).toUInt64 >>> ((32 : Int32).toInt64.toUInt64 &&& Int64.toUInt64 63)).toInt64) &&& 4294967295)) >>> sh32
def sg (v : Int64) : Int32 := if v < 0 then 1 else 0
def mWithin (l : Int32) (a b : Int64) (w : Int32) : Int32 :=
  if l = 0 then (if wJoin a b w = (wJoin a b w).toInt32.toInt64 then 1 else 0)
  else if w = 0 then (if sg a = sg b then (if sg (wJoin a b w) = sg a then 1 else 0) else 1)
  else if w = 1 then (if sg a = sg b then 1 else (if sg (wJoin a b w) = sg a then 1 else 0))
  else if mAbove a b = (if wJoin a b w < 0 then -1 else 0 : Int32).toInt64 then 1 else 0
theorem wRem_lt {g l : Int64} (h : 0 < l) : (wRem g l).toInt < l.toInt := by
  have hl : 0 < l.toInt := by
    rw [Int64.lt_iff_toInt_lt] at h
    simpa using h
  have hlt := l.toInt_lt
  have hgl := g.le_toInt
  have hgt := g.toInt_lt
  have e : (wRem g l).toInt = g.toInt.tmod l.toInt := by
    unfold wRem
    rw [Int64.toInt_sub, Int64.toInt_mul, Int64.toInt_div]
    simp only [Int.bmod_mul_bmod, Int.sub_bmod_bmod]
    have e2 : g.toInt - g.toInt.tdiv l.toInt * l.toInt = g.toInt.tmod l.toInt := by
      have := Int.tdiv_mul_add_tmod g.toInt l.toInt
      omega
    rw [e2]
    have b1 := Int.tmod_lt_of_pos g.toInt hl
    have b2 : -l.toInt < g.toInt.tmod l.toInt := Int.lt_tmod_of_pos _ hl
    exact Int.bmod_eq_of_le (by omega) (by omega)
  rw [e]
  exact Int.tmod_lt_of_pos _ hl
section MOD
variable {P : GP} {K : Kt} {s : MS} {x : XS} {t : mH}
theorem L_isNo (k : Int32) {h : mH} (h1 : n4 k → K (.inl (some (.int 0))) h) (h0 : ¬ n4 k → K (.inl (some (.int 1))) h) : M P n_M_isNo [.int k] h 0 0 6 K := by
  refine Mgo ok_M_isNo 60 rfl ?_
  refine ⟨fun q => ?_, fun q => ?_⟩
  · exact ⟨rfl, h0 (fun e => e.1 q)⟩
  · refine ⟨fun q2 => ?_, fun q2 => ?_⟩
    · exact ⟨rfl, h0 (fun e => e.2 q2)⟩
    · exact ⟨rfl, h1 ⟨q, q2⟩⟩
theorem L_isNoRing (k : Int32) {h : mH} (h1 : n3 k → K (.inl (some (.int 0))) h) (h0 : ¬ n3 k → K (.inl (some (.int 1))) h) : M P n_M_isNoRing [.int k] h 0 0 6 K := by
  refine Mgo ok_M_isNoRing 60 rfl ?_
  refine ⟨fun q => ?_, fun q => ?_⟩
  · exact ⟨rfl, h0 (fun e => e.1 q)⟩
  · refine ⟨fun q2 => ?_, fun q2 => ?_⟩
    · exact ⟨rfl, h0 (fun e => e.2 q2)⟩
    · exact ⟨rfl, h1 ⟨q, q2⟩⟩
theorem L_areWrong (a b c : Int32) {h : mH} (h1 : okV a b c → K (.inl (some (.int 0))) h) (h0 : ¬ okV a b c → K (.inl (some (.int 1))) h) : M P n_M_areWrong [.int a, .int b, .int c] h 0 0 6 K := by
  refine Mgo ok_M_areWrong 60 rfl ?_
  refine ⟨fun q => ?_, fun q => ?_⟩
  · exact ⟨rfl, h0 (fun e => e.1 q)⟩
  · refine ⟨fun q2 => ?_, fun q2 => ?_⟩
    · exact ⟨rfl, h0 (fun e => e.2.1 q2)⟩
    · refine ⟨fun q3 => ?_, fun q3 => ?_⟩
      · exact ⟨rfl, h0 (fun e => e.2.2 q3)⟩
      · exact ⟨rfl, h1 ⟨q, q2, q3⟩⟩
theorem L_mrefuse0 (E : Int32) (h0 : mTh s = 0) (hK : K (.inl (some (.int 0))) (hm s x t)) : M P n_M_refuse [.ref 5, .int 0, .int E] (hm s x t) 0 0 6 K := by
  refine Mgo ok_M_refuse 60 rfl ?_
  refine ⟨fun _ => ?_, fun e => absurd rfl e⟩
  refine ⟨fun q => ?_, fun q => ?_⟩
  · rw [h0] at q
    exact absurd q (by decide)
  · exact ⟨rfl, hK⟩
theorem L_mrefuse1 (E : Int32) (h0 : mTh s = 0) (hE : 0 < E) (hK : K (.inl (some (.int 1))) (hm (sT E s) x t)) : M P n_M_refuse [.ref 5, .int 1, .int E] (hm s x t) 0 0 6 K := by
  refine Mgo ok_M_refuse 60 rfl ?_
  refine ⟨fun e => absurd e (by decide), fun _ => ?_⟩
  refine ⟨fun q => ?_, fun q => ?_⟩
  · refine ⟨fun q2 => ?_, fun q2 => ?_⟩
    · exact ⟨rfl, hK⟩
    · exact absurd hE q2
  · exact absurd h0 q
theorem L_start0 (hK : K (.inl (some (.int 0))) (hm (sT 0 s) x t)) : M P n_M_start [.ref 5, .int 0, .int 1] (hm s x t) 0 0 7 K := by
  refine Mgo ok_M_start 60 rfl ?_
  refine ⟨_, _, _, L_mrefuse0 (s := sT 0 s) 1 rfl ?_, by decide, by decide, by decide⟩
  exact ⟨rfl, hK⟩
theorem L_start1 (hK : K (.inl (some (.int 1))) (hm (sT 1 s) x t)) : M P n_M_start [.ref 5, .int 1, .int 1] (hm s x t) 0 0 7 K := by
  refine Mgo ok_M_start 60 rfl ?_
  refine ⟨_, _, _, L_mrefuse1 (s := sT 0 s) 1 rfl (by decide) ?_, by decide, by decide, by decide⟩
  exact ⟨rfl, hK⟩
theorem L_now (l k : Int32) (hk : ok4 k) (hK : K (.inl (some (.long (mNow l k s)))) (hm s x t)) : M P n_M_now [.ref 5, .int l, .int k] (hm s x t) 0 0 6 K := by
  refine Mgo ok_M_now 60 rfl ?_
  unfold mNow at hK
  refine ⟨fun q => ?_, fun q => ?_⟩
  · rw [if_pos q] at hK
    exact ⟨vp4 hk, hK⟩
  · rw [if_neg q] at hK
    exact ⟨vp4 hk, hK⟩
theorem L_sign (v : Int64) {h : mH} (hK : K (.inl (some (.int (mSign v)))) h) : M P n_M_sign [.long v] h 0 0 6 K := by
  refine Mgo ok_M_sign 60 rfl ?_
  unfold mSign at hK
  refine ⟨fun q => ?_, fun q => ?_⟩
  · rw [if_pos q] at hK
    exact hK
  · rw [if_neg q] at hK
    refine ⟨fun q2 => ?_, fun q2 => ?_⟩
    · rw [if_pos q2] at hK
      exact hK
    · rw [if_neg q2] at hK
      exact hK
end MOD
