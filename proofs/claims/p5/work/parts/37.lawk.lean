/-! THE LAW: its own methods, which call the class and catch what it throws -/
def OE (p : Nat → Prop) (o : Out) : Prop := ∀ e, o.1 = .inr e → p e
theorem OE_nd {p : Nat → Prop} {c : Prop} [Decidable c] {E : Nat} {s : XS} {r : Out} (h : p E) (hr : OE p r) : OE p (nd c E s r) := fun e he => by
  unfold nd at he
  by_cases q : c
  · rw [if_pos q] at he
    exact hr e he
  · rw [if_neg q] at he
    cases he
    exact h
theorem OE_inl {p : Nat → Prop} {v : Int32} {s : XS} : OE p (.inl v, s) := fun _ h => by cases h
theorem OE_ite {p : Nat → Prop} {c : Prop} [Decidable c] {a b : Out} (ha : OE p a) (hb : OE p b) : OE p (if c then a else b) := by
  by_cases q : c
  · rw [if_pos q]
    exact ha
  · rw [if_neg q]
    exact hb
theorem OE_refuse {p : Nat → Prop} {s : XS} : OE p (xRefuse s) := OE_inl
theorem OE_keep {p : Nat → Prop} (h : p 0) {l k : Int32} {v : Int64} {s : XS} : OE p (xKeep l k v s) := OE_nd h OE_inl
theorem OE_keepR {p : Nat → Prop} (h : p 0) {l k : Int32} {v : Int64} {s : XS} : OE p (xKeepR l k v s) := OE_keep h
theorem OE_keepE {p : Nat → Prop} (h : p 0) {l k w : Int32} {a b : Int64} {s : XS} : OE p (xKeepE l k a b w s) := OE_ite OE_refuse (OE_keep h)
theorem OE_keepF {p : Nat → Prop} (h : p 0) {l k r : Int32} {d : Int64} {s : XS} : OE p (xKeepF l k d r s) := OE_nd h (OE_ite OE_refuse (OE_keepR h))
theorem OE_keepM {p : Nat → Prop} (h : p 0) {r k : Int32} {v : Int64} {s : XS} : OE p (xKeepM r k v s) := OE_nd h (OE_nd h OE_inl)
def p0 (e : Nat) : Prop := e = 0
def p1 (e : Nat) : Prop := e = 1
def p2 (e : Nat) : Prop := e = 0 ∨ e = 1
theorem p0_0 : p0 0 := rfl
theorem p1_1 : p1 1 := rfl
theorem p2_0 : p2 0 := Or.inl rfl
theorem p2_1 : p2 1 := Or.inr rfl
def oc (n : Int64) (w : Value) : va_E := .inr (3, [.long n, w])
def cd2 (E : Nat) : Int32 := match E with | 0 => 1 | _ => 2
def cdH (_ : Nat) : Int32 := 1
def bz (v : Int32) : Int64 := if v = 0 then 0 else 1
def ansK (K : Kt) (s : MS) (n : Int64) (w : Value) (t : mH) (cd : Nat → Int32) (o : Out) : Prop := match o.1 with
  | .inl v => K (.inl (some (.int 0))) (hm s o.2 (oc v.toInt64 w :: t))
  | .inr E => ∀ j, K (.inl (some (.int (cd E)))) (hm s o.2 (oc n w :: (t ++ jk j)))
def ansB (K : Kt) (s : MS) (n : Int64) (w : Value) (t : mH) (cd : Nat → Int32) (o : Out) : Prop := match o.1 with
  | .inl v => K (.inl (some (.int 0))) (hm s o.2 (oc (bz v) w :: t))
  | .inr E => ∀ j, K (.inl (some (.int (cd E)))) (hm s o.2 (oc n w :: (t ++ jk j)))
def ansS (K : Kt) (s : MS) (n : Int64) (w : Value) (t : mH) (cd : Nat → Int32) (o : Out) : Prop := match o.1 with
  | .inl _ => ∀ l r, K (.inl (some (.int 0))) (hm s o.2 (oc n (.ref r) :: (t ++ l)))
  | .inr E => ∀ l, K (.inl (some (.int (cd E)))) (hm s o.2 (oc n w :: (t ++ l)))
section LAWK
variable {P : GP} {K : Kt} {s : MS} {x : XS} {n : Int64} {w : Value} {t : mH}
theorem e_put (l k hi lo : Int32) (x : XS) : OE p0 (xPut l k hi lo x) := by
  unfold xPut
  repeat' first | with_reducible exact OE_inl | with_reducible exact OE_refuse | with_reducible refine OE_ite ?_ ?_ | with_reducible exact OE_keep p0_0 | with_reducible exact OE_keepR p0_0 | with_reducible exact OE_keepE p0_0 | with_reducible exact OE_keepF p0_0 | with_reducible exact OE_keepM p0_0 | with_reducible refine OE_nd p0_0 ?_
theorem K_put (l k hi lo : Int32) (hK : ansK K s n w t cd2 (xPut l k hi lo x)) : M P n_K_put [.ref 0, .int l, .int k, .int hi, .int lo, .ref 13] (hm s x (oc n w :: t)) 12 70 20 K := by
  refine Mgo ok_K_put 60 rfl ?_
  refine ⟨_, _, _, L_put _ _ _ _ ?_, by decide, by decide, by decide⟩
  have hE := e_put l k hi lo x
  revert hK hE
  generalize xPut l k hi lo x = o
  intro hK hE
  obtain ⟨o, y⟩ := o
  cases o with
  | inl v =>
    have hK : K (.inl (some (.int 0))) (hm s y (oc v.toInt64 w :: t)) := hK
    exact hK
  | inr E =>
    obtain rfl : E = 0 := hE E rfl
    intro j
    have hK : K (.inl (some (.int 1))) (hm s y (oc n w :: (t ++ jk j))) := hK j
    exact hK
theorem e_copy (l k f : Int32) (x : XS) : OE p0 (xCopy l k f x) := by
  unfold xCopy
  repeat' first | with_reducible exact OE_inl | with_reducible exact OE_refuse | with_reducible refine OE_ite ?_ ?_ | with_reducible exact OE_keep p0_0 | with_reducible exact OE_keepR p0_0 | with_reducible exact OE_keepE p0_0 | with_reducible exact OE_keepF p0_0 | with_reducible exact OE_keepM p0_0 | with_reducible refine OE_nd p0_0 ?_
theorem K_copy (l k f : Int32) (hK : ansK K s n w t cd2 (xCopy l k f x)) : M P n_K_copy [.ref 0, .int l, .int k, .int f, .ref 13] (hm s x (oc n w :: t)) 12 70 20 K := by
  refine Mgo ok_K_copy 60 rfl ?_
  refine ⟨_, _, _, L_copy _ _ _ ?_, by decide, by decide, by decide⟩
  have hE := e_copy l k f x
  revert hK hE
  generalize xCopy l k f x = o
  intro hK hE
  obtain ⟨o, y⟩ := o
  cases o with
  | inl v =>
    have hK : K (.inl (some (.int 0))) (hm s y (oc v.toInt64 w :: t)) := hK
    exact hK
  | inr E =>
    obtain rfl : E = 0 := hE E rfl
    intro j
    have hK : K (.inl (some (.int 1))) (hm s y (oc n w :: (t ++ jk j))) := hK j
    exact hK
theorem e_widen (k f : Int32) (x : XS) : OE p0 (xWiden k f x) := by
  unfold xWiden
  repeat' first | with_reducible exact OE_inl | with_reducible exact OE_refuse | with_reducible refine OE_ite ?_ ?_ | with_reducible exact OE_keep p0_0 | with_reducible exact OE_keepR p0_0 | with_reducible exact OE_keepE p0_0 | with_reducible exact OE_keepF p0_0 | with_reducible exact OE_keepM p0_0 | with_reducible refine OE_nd p0_0 ?_
theorem K_widen (k f : Int32) (hK : ansK K s n w t cd2 (xWiden k f x)) : M P n_K_widen [.ref 0, .int k, .int f, .ref 13] (hm s x (oc n w :: t)) 12 70 20 K := by
  refine Mgo ok_K_widen 60 rfl ?_
  refine ⟨_, _, _, L_widen _ _ ?_, by decide, by decide, by decide⟩
  have hE := e_widen k f x
  revert hK hE
  generalize xWiden k f x = o
  intro hK hE
  obtain ⟨o, y⟩ := o
  cases o with
  | inl v =>
    have hK : K (.inl (some (.int 0))) (hm s y (oc v.toInt64 w :: t)) := hK
    exact hK
  | inr E =>
    obtain rfl : E = 0 := hE E rfl
    intro j
    have hK : K (.inl (some (.int 1))) (hm s y (oc n w :: (t ++ jk j))) := hK j
    exact hK
theorem e_narrow (k f : Int32) (x : XS) : OE p0 (xNarrow k f x) := by
  unfold xNarrow
  repeat' first | with_reducible exact OE_inl | with_reducible exact OE_refuse | with_reducible refine OE_ite ?_ ?_ | with_reducible exact OE_keep p0_0 | with_reducible exact OE_keepR p0_0 | with_reducible exact OE_keepE p0_0 | with_reducible exact OE_keepF p0_0 | with_reducible exact OE_keepM p0_0 | with_reducible refine OE_nd p0_0 ?_
theorem K_narrow (k f : Int32) (hK : ansK K s n w t cd2 (xNarrow k f x)) : M P n_K_narrow [.ref 0, .int k, .int f, .ref 13] (hm s x (oc n w :: t)) 12 70 20 K := by
  refine Mgo ok_K_narrow 60 rfl ?_
  refine ⟨_, _, _, L_narrow _ _ ?_, by decide, by decide, by decide⟩
  have hE := e_narrow k f x
  revert hK hE
  generalize xNarrow k f x = o
  intro hK hE
  obtain ⟨o, y⟩ := o
  cases o with
  | inl v =>
    have hK : K (.inl (some (.int 0))) (hm s y (oc v.toInt64 w :: t)) := hK
    exact hK
  | inr E =>
    obtain rfl : E = 0 := hE E rfl
    intro j
    have hK : K (.inl (some (.int 1))) (hm s y (oc n w :: (t ++ jk j))) := hK j
    exact hK
theorem e_exact (l k f q : Int32) (x : XS) : OE p2 (xExact l k f q x) := by
  unfold xExact
  repeat' first | with_reducible exact OE_inl | with_reducible exact OE_refuse | with_reducible refine OE_ite ?_ ?_ | with_reducible exact OE_keep p2_0 | with_reducible exact OE_keepR p2_0 | with_reducible exact OE_keepE p2_0 | with_reducible exact OE_keepF p2_0 | with_reducible exact OE_keepM p2_0 | with_reducible refine OE_nd p2_0 ?_ | with_reducible refine OE_nd p2_1 ?_
theorem K_exact (l k f q : Int32) (hK : ansK K s n w t cd2 (xExact l k f q x)) : M P n_K_exact [.ref 0, .int l, .int k, .int f, .int q, .ref 13] (hm s x (oc n w :: t)) 12 70 20 K := by
  refine Mgo ok_K_exact 60 rfl ?_
  refine ⟨_, _, _, L_exact _ _ _ _ ?_, by decide, by decide, by decide⟩
  have hE := e_exact l k f q x
  revert hK hE
  generalize xExact l k f q x = o
  intro hK hE
  obtain ⟨o, y⟩ := o
  cases o with
  | inl v =>
    have hK : K (.inl (some (.int 0))) (hm s y (oc v.toInt64 w :: t)) := hK
    exact hK
  | inr E =>
    rcases hE E rfl with rfl | rfl
    · intro j
      have hK : K (.inl (some (.int 1))) (hm s y (oc n w :: (t ++ jk j))) := hK j
      exact hK
    · intro j
      have hK : K (.inl (some (.int 2))) (hm s y (oc n w :: (t ++ jk j))) := hK j
      exact hK
theorem e_fits (l k f q : Int32) (x : XS) : OE p2 (xFits l k f q x) := by
  unfold xFits
  repeat' first | with_reducible exact OE_inl | with_reducible exact OE_refuse | with_reducible refine OE_ite ?_ ?_ | with_reducible exact OE_keep p2_0 | with_reducible exact OE_keepR p2_0 | with_reducible exact OE_keepE p2_0 | with_reducible exact OE_keepF p2_0 | with_reducible exact OE_keepM p2_0 | with_reducible refine OE_nd p2_0 ?_ | with_reducible refine OE_nd p2_1 ?_
theorem K_fits (l k f q : Int32) (hK : ansB K s n w t cd2 (xFits l k f q x)) : M P n_K_fits [.ref 0, .int l, .int k, .int f, .int q, .ref 13] (hm s x (oc n w :: t)) 12 70 20 K := by
  refine Mgo ok_K_fits 60 rfl ?_
  refine ⟨_, _, _, L_fits _ _ _ _ ?_, by decide, by decide, by decide⟩
  have hE := e_fits l k f q x
  revert hK hE
  generalize xFits l k f q x = o
  intro hK hE
  obtain ⟨o, y⟩ := o
  cases o with
  | inl v =>
    have hK : K (.inl (some (.int 0))) (hm s y (oc (bz v) w :: t)) := hK
    unfold bz at hK
    refine ⟨fun e => ?_, fun e => ?_⟩
    · rw [if_pos e] at hK
      exact hK
    · rw [if_neg e] at hK
      exact hK
  | inr E =>
    rcases hE E rfl with rfl | rfl
    · intro j
      have hK : K (.inl (some (.int 1))) (hm s y (oc n w :: (t ++ jk j))) := hK j
      exact hK
    · intro j
      have hK : K (.inl (some (.int 2))) (hm s y (oc n w :: (t ++ jk j))) := hK j
      exact hK
theorem e_alone (l k q : Int32) (x : XS) : OE p2 (xAlone l k q x) := by
  unfold xAlone
  repeat' first | with_reducible exact OE_inl | with_reducible exact OE_refuse | with_reducible refine OE_ite ?_ ?_ | with_reducible exact OE_keep p2_0 | with_reducible exact OE_keepR p2_0 | with_reducible exact OE_keepE p2_0 | with_reducible exact OE_keepF p2_0 | with_reducible exact OE_keepM p2_0 | with_reducible refine OE_nd p2_0 ?_ | with_reducible refine OE_nd p2_1 ?_
theorem K_alone (l k q : Int32) (hK : ansK K s n w t cd2 (xAlone l k q x)) : M P n_K_alone [.ref 0, .int l, .int k, .int q, .ref 13] (hm s x (oc n w :: t)) 12 70 20 K := by
  refine Mgo ok_K_alone 60 rfl ?_
  refine ⟨_, _, _, L_alone _ _ _ ?_, by decide, by decide, by decide⟩
  have hE := e_alone l k q x
  revert hK hE
  generalize xAlone l k q x = o
  intro hK hE
  obtain ⟨o, y⟩ := o
  cases o with
  | inl v =>
    have hK : K (.inl (some (.int 0))) (hm s y (oc v.toInt64 w :: t)) := hK
    exact hK
  | inr E =>
    rcases hE E rfl with rfl | rfl
    · intro j
      have hK : K (.inl (some (.int 1))) (hm s y (oc n w :: (t ++ jk j))) := hK j
      exact hK
    · intro j
      have hK : K (.inl (some (.int 2))) (hm s y (oc n w :: (t ++ jk j))) := hK j
      exact hK
theorem e_timesInt (k f : Int32) (x : XS) : OE p0 (xTimesInt k f x) := by
  unfold xTimesInt
  repeat' first | with_reducible exact OE_inl | with_reducible exact OE_refuse | with_reducible refine OE_ite ?_ ?_ | with_reducible exact OE_keep p0_0 | with_reducible exact OE_keepR p0_0 | with_reducible exact OE_keepE p0_0 | with_reducible exact OE_keepF p0_0 | with_reducible exact OE_keepM p0_0 | with_reducible refine OE_nd p0_0 ?_
theorem K_timesInt (k f : Int32) (hK : ansK K s n w t cd2 (xTimesInt k f x)) : M P n_K_timesInt [.ref 0, .int k, .int f, .ref 13] (hm s x (oc n w :: t)) 12 70 20 K := by
  refine Mgo ok_K_timesInt 60 rfl ?_
  refine ⟨_, _, _, L_timesInt _ _ ?_, by decide, by decide, by decide⟩
  have hE := e_timesInt k f x
  revert hK hE
  generalize xTimesInt k f x = o
  intro hK hE
  obtain ⟨o, y⟩ := o
  cases o with
  | inl v =>
    have hK : K (.inl (some (.int 0))) (hm s y (oc v.toInt64 w :: t)) := hK
    exact hK
  | inr E =>
    obtain rfl : E = 0 := hE E rfl
    intro j
    have hK : K (.inl (some (.int 1))) (hm s y (oc n w :: (t ++ jk j))) := hK j
    exact hK
theorem e_full (k a b : Int32) (x : XS) : OE p0 (xFull k a b x) := by
  unfold xFull
  repeat' first | with_reducible exact OE_inl | with_reducible exact OE_refuse | with_reducible refine OE_ite ?_ ?_ | with_reducible exact OE_keep p0_0 | with_reducible exact OE_keepR p0_0 | with_reducible exact OE_keepE p0_0 | with_reducible exact OE_keepF p0_0 | with_reducible exact OE_keepM p0_0 | with_reducible refine OE_nd p0_0 ?_
theorem K_full (k a b : Int32) (hK : ansK K s n w t cd2 (xFull k a b x)) : M P n_K_full [.ref 0, .int k, .int a, .int b, .ref 13] (hm s x (oc n w :: t)) 12 70 20 K := by
  refine Mgo ok_K_full 60 rfl ?_
  refine ⟨_, _, _, L_full _ _ _ ?_, by decide, by decide, by decide⟩
  have hE := e_full k a b x
  revert hK hE
  generalize xFull k a b x = o
  intro hK hE
  obtain ⟨o, y⟩ := o
  cases o with
  | inl v =>
    have hK : K (.inl (some (.int 0))) (hm s y (oc v.toInt64 w :: t)) := hK
    exact hK
  | inr E =>
    obtain rfl : E = 0 := hE E rfl
    intro j
    have hK : K (.inl (some (.int 1))) (hm s y (oc n w :: (t ++ jk j))) := hK j
    exact hK
theorem e_high (k a b : Int32) (x : XS) : OE p0 (xHigh k a b x) := by
  unfold xHigh
  repeat' first | with_reducible exact OE_inl | with_reducible exact OE_refuse | with_reducible refine OE_ite ?_ ?_ | with_reducible exact OE_keep p0_0 | with_reducible exact OE_keepR p0_0 | with_reducible exact OE_keepE p0_0 | with_reducible exact OE_keepF p0_0 | with_reducible exact OE_keepM p0_0 | with_reducible refine OE_nd p0_0 ?_
theorem K_high (k a b : Int32) (hK : ansK K s n w t cd2 (xHigh k a b x)) : M P n_K_high [.ref 0, .int k, .int a, .int b, .ref 13] (hm s x (oc n w :: t)) 12 70 20 K := by
  refine Mgo ok_K_high 60 rfl ?_
  refine ⟨_, _, _, L_high _ _ _ ?_, by decide, by decide, by decide⟩
  have hE := e_high k a b x
  revert hK hE
  generalize xHigh k a b x = o
  intro hK hE
  obtain ⟨o, y⟩ := o
  cases o with
  | inl v =>
    have hK : K (.inl (some (.int 0))) (hm s y (oc v.toInt64 w :: t)) := hK
    exact hK
  | inr E =>
    obtain rfl : E = 0 := hE E rfl
    intro j
    have hK : K (.inl (some (.int 1))) (hm s y (oc n w :: (t ++ jk j))) := hK j
    exact hK
theorem e_round (l k f q : Int32) (x : XS) : OE p2 (xRound l k f q x) := by
  unfold xRound
  repeat' first | with_reducible exact OE_inl | with_reducible exact OE_refuse | with_reducible refine OE_ite ?_ ?_ | with_reducible exact OE_keep p2_0 | with_reducible exact OE_keepR p2_0 | with_reducible exact OE_keepE p2_0 | with_reducible exact OE_keepF p2_0 | with_reducible exact OE_keepM p2_0 | with_reducible refine OE_nd p2_0 ?_ | with_reducible refine OE_nd p2_1 ?_
theorem K_round (l k f q : Int32) (hK : ansK K s n w t cd2 (xRound l k f q x)) : M P n_K_round [.ref 0, .int l, .int k, .int f, .int q, .ref 13] (hm s x (oc n w :: t)) 12 70 20 K := by
  refine Mgo ok_K_round 60 rfl ?_
  refine ⟨_, _, _, L_round _ _ _ _ ?_, by decide, by decide, by decide⟩
  have hE := e_round l k f q x
  revert hK hE
  generalize xRound l k f q x = o
  intro hK hE
  obtain ⟨o, y⟩ := o
  cases o with
  | inl v =>
    have hK : K (.inl (some (.int 0))) (hm s y (oc v.toInt64 w :: t)) := hK
    exact hK
  | inr E =>
    rcases hE E rfl with rfl | rfl
    · intro j
      have hK : K (.inl (some (.int 1))) (hm s y (oc n w :: (t ++ jk j))) := hK j
      exact hK
    · intro j
      have hK : K (.inl (some (.int 2))) (hm s y (oc n w :: (t ++ jk j))) := hK j
      exact hK
theorem e_abs (l k : Int32) (x : XS) : OE p0 (xAbs l k x) := by
  unfold xAbs
  repeat' first | with_reducible exact OE_inl | with_reducible exact OE_refuse | with_reducible refine OE_ite ?_ ?_ | with_reducible exact OE_keep p0_0 | with_reducible exact OE_keepR p0_0 | with_reducible exact OE_keepE p0_0 | with_reducible exact OE_keepF p0_0 | with_reducible exact OE_keepM p0_0 | with_reducible refine OE_nd p0_0 ?_
theorem K_abs (l k : Int32) (hK : ansK K s n w t cd2 (xAbs l k x)) : M P n_K_abs [.ref 0, .int l, .int k, .ref 13] (hm s x (oc n w :: t)) 12 70 20 K := by
  refine Mgo ok_K_abs 60 rfl ?_
  refine ⟨_, _, _, L_abs _ _ ?_, by decide, by decide, by decide⟩
  have hE := e_abs l k x
  revert hK hE
  generalize xAbs l k x = o
  intro hK hE
  obtain ⟨o, y⟩ := o
  cases o with
  | inl v =>
    have hK : K (.inl (some (.int 0))) (hm s y (oc v.toInt64 w :: t)) := hK
    exact hK
  | inr E =>
    obtain rfl : E = 0 := hE E rfl
    intro j
    have hK : K (.inl (some (.int 1))) (hm s y (oc n w :: (t ++ jk j))) := hK j
    exact hK
theorem e_extreme (l k f g : Int32) (x : XS) : OE p0 (xExtreme l k f g x) := by
  unfold xExtreme
  repeat' first | with_reducible exact OE_inl | with_reducible exact OE_refuse | with_reducible refine OE_ite ?_ ?_ | with_reducible exact OE_keep p0_0 | with_reducible exact OE_keepR p0_0 | with_reducible exact OE_keepE p0_0 | with_reducible exact OE_keepF p0_0 | with_reducible exact OE_keepM p0_0 | with_reducible refine OE_nd p0_0 ?_
theorem K_extreme (l k f g : Int32) (hK : ansK K s n w t cd2 (xExtreme l k f g x)) : M P n_K_extreme [.ref 0, .int l, .int k, .int f, .int g, .ref 13] (hm s x (oc n w :: t)) 12 70 20 K := by
  refine Mgo ok_K_extreme 60 rfl ?_
  refine ⟨_, _, _, L_extreme _ _ _ _ ?_, by decide, by decide, by decide⟩
  have hE := e_extreme l k f g x
  revert hK hE
  generalize xExtreme l k f g x = o
  intro hK hE
  obtain ⟨o, y⟩ := o
  cases o with
  | inl v =>
    have hK : K (.inl (some (.int 0))) (hm s y (oc v.toInt64 w :: t)) := hK
    exact hK
  | inr E =>
    obtain rfl : E = 0 := hE E rfl
    intro j
    have hK : K (.inl (some (.int 1))) (hm s y (oc n w :: (t ++ jk j))) := hK j
    exact hK
theorem e_floor (l k f r : Int32) (x : XS) : OE p0 (xFloor l k f r x) := by
  unfold xFloor
  repeat' first | with_reducible exact OE_inl | with_reducible exact OE_refuse | with_reducible refine OE_ite ?_ ?_ | with_reducible exact OE_keep p0_0 | with_reducible exact OE_keepR p0_0 | with_reducible exact OE_keepE p0_0 | with_reducible exact OE_keepF p0_0 | with_reducible exact OE_keepM p0_0 | with_reducible refine OE_nd p0_0 ?_
theorem K_floor (l k f r : Int32) (hK : ansK K s n w t cd2 (xFloor l k f r x)) : M P n_K_floor [.ref 0, .int l, .int k, .int f, .int r, .ref 13] (hm s x (oc n w :: t)) 12 70 20 K := by
  refine Mgo ok_K_floor 60 rfl ?_
  refine ⟨_, _, _, L_floor _ _ _ _ ?_, by decide, by decide, by decide⟩
  have hE := e_floor l k f r x
  revert hK hE
  generalize xFloor l k f r x = o
  intro hK hE
  obtain ⟨o, y⟩ := o
  cases o with
  | inl v =>
    have hK : K (.inl (some (.int 0))) (hm s y (oc v.toInt64 w :: t)) := hK
    exact hK
  | inr E =>
    obtain rfl : E = 0 := hE E rfl
    intro j
    have hK : K (.inl (some (.int 1))) (hm s y (oc n w :: (t ++ jk j))) := hK j
    exact hK
theorem e_floorInt (k f r : Int32) (x : XS) : OE p0 (xFloorInt k f r x) := by
  unfold xFloorInt
  repeat' first | with_reducible exact OE_inl | with_reducible exact OE_refuse | with_reducible refine OE_ite ?_ ?_ | with_reducible exact OE_keep p0_0 | with_reducible exact OE_keepR p0_0 | with_reducible exact OE_keepE p0_0 | with_reducible exact OE_keepF p0_0 | with_reducible exact OE_keepM p0_0 | with_reducible refine OE_nd p0_0 ?_
theorem K_floorInt (k f r : Int32) (hK : ansK K s n w t cd2 (xFloorInt k f r x)) : M P n_K_floorInt [.ref 0, .int k, .int f, .int r, .ref 13] (hm s x (oc n w :: t)) 12 70 20 K := by
  refine Mgo ok_K_floorInt 60 rfl ?_
  refine ⟨_, _, _, L_floorInt _ _ _ ?_, by decide, by decide, by decide⟩
  have hE := e_floorInt k f r x
  revert hK hE
  generalize xFloorInt k f r x = o
  intro hK hE
  obtain ⟨o, y⟩ := o
  cases o with
  | inl v =>
    have hK : K (.inl (some (.int 0))) (hm s y (oc v.toInt64 w :: t)) := hK
    exact hK
  | inr E =>
    obtain rfl : E = 0 := hE E rfl
    intro j
    have hK : K (.inl (some (.int 1))) (hm s y (oc n w :: (t ++ jk j))) := hK j
    exact hK
theorem e_towards (l k f r : Int32) (x : XS) : OE p0 (xTowards l k f r x) := by
  unfold xTowards
  repeat' first | with_reducible exact OE_inl | with_reducible exact OE_refuse | with_reducible refine OE_ite ?_ ?_ | with_reducible exact OE_keep p0_0 | with_reducible exact OE_keepR p0_0 | with_reducible exact OE_keepE p0_0 | with_reducible exact OE_keepF p0_0 | with_reducible exact OE_keepM p0_0 | with_reducible refine OE_nd p0_0 ?_
theorem K_towards (l k f r : Int32) (hK : ansK K s n w t cd2 (xTowards l k f r x)) : M P n_K_towards [.ref 0, .int l, .int k, .int f, .int r, .ref 13] (hm s x (oc n w :: t)) 12 70 20 K := by
  refine Mgo ok_K_towards 60 rfl ?_
  refine ⟨_, _, _, L_towards _ _ _ _ ?_, by decide, by decide, by decide⟩
  have hE := e_towards l k f r x
  revert hK hE
  generalize xTowards l k f r x = o
  intro hK hE
  obtain ⟨o, y⟩ := o
  cases o with
  | inl v =>
    have hK : K (.inl (some (.int 0))) (hm s y (oc v.toInt64 w :: t)) := hK
    exact hK
  | inr E =>
    obtain rfl : E = 0 := hE E rfl
    intro j
    have hK : K (.inl (some (.int 1))) (hm s y (oc n w :: (t ++ jk j))) := hK j
    exact hK
theorem e_average (l k f u : Int32) (x : XS) : OE p0 (xAverage l k f u x) := by
  unfold xAverage
  repeat' first | with_reducible exact OE_inl | with_reducible exact OE_refuse | with_reducible refine OE_ite ?_ ?_ | with_reducible exact OE_keep p0_0 | with_reducible exact OE_keepR p0_0 | with_reducible exact OE_keepE p0_0 | with_reducible exact OE_keepF p0_0 | with_reducible exact OE_keepM p0_0 | with_reducible refine OE_nd p0_0 ?_
theorem K_average (l k f u : Int32) (hK : ansK K s n w t cd2 (xAverage l k f u x)) : M P n_K_average [.ref 0, .int l, .int k, .int f, .int u, .ref 13] (hm s x (oc n w :: t)) 12 70 20 K := by
  refine Mgo ok_K_average 60 rfl ?_
  refine ⟨_, _, _, L_average _ _ _ _ ?_, by decide, by decide, by decide⟩
  have hE := e_average l k f u x
  revert hK hE
  generalize xAverage l k f u x = o
  intro hK hE
  obtain ⟨o, y⟩ := o
  cases o with
  | inl v =>
    have hK : K (.inl (some (.int 0))) (hm s y (oc v.toInt64 w :: t)) := hK
    exact hK
  | inr E =>
    obtain rfl : E = 0 := hE E rfl
    intro j
    have hK : K (.inl (some (.int 1))) (hm s y (oc n w :: (t ++ jk j))) := hK j
    exact hK
theorem e_chain (k a b c : Int32) (x : XS) : OE p2 (xChain k a b c x) := by
  unfold xChain
  repeat' first | with_reducible exact OE_inl | with_reducible exact OE_refuse | with_reducible refine OE_ite ?_ ?_ | with_reducible exact OE_keep p2_0 | with_reducible exact OE_keepR p2_0 | with_reducible exact OE_keepE p2_0 | with_reducible exact OE_keepF p2_0 | with_reducible exact OE_keepM p2_0 | with_reducible refine OE_nd p2_0 ?_ | with_reducible refine OE_nd p2_1 ?_
theorem K_chain (k a b c : Int32) (hK : ansK K s n w t cd2 (xChain k a b c x)) : M P n_K_chain [.ref 0, .int k, .int a, .int b, .int c, .ref 13] (hm s x (oc n w :: t)) 12 70 20 K := by
  refine Mgo ok_K_chain 60 rfl ?_
  refine ⟨_, _, _, L_chain _ _ _ _ ?_, by decide, by decide, by decide⟩
  have hE := e_chain k a b c x
  revert hK hE
  generalize xChain k a b c x = o
  intro hK hE
  obtain ⟨o, y⟩ := o
  cases o with
  | inl v =>
    have hK : K (.inl (some (.int 0))) (hm s y (oc v.toInt64 w :: t)) := hK
    exact hK
  | inr E =>
    rcases hE E rfl with rfl | rfl
    · intro j
      have hK : K (.inl (some (.int 1))) (hm s y (oc n w :: (t ++ jk j))) := hK j
      exact hK
    · intro j
      have hK : K (.inl (some (.int 2))) (hm s y (oc n w :: (t ++ jk j))) := hK j
      exact hK
theorem e_atOnce (k a b c : Int32) (x : XS) : OE p2 (xAtOnce k a b c x) := by
  unfold xAtOnce
  repeat' first | with_reducible exact OE_inl | with_reducible exact OE_refuse | with_reducible refine OE_ite ?_ ?_ | with_reducible exact OE_keep p2_0 | with_reducible exact OE_keepR p2_0 | with_reducible exact OE_keepE p2_0 | with_reducible exact OE_keepF p2_0 | with_reducible exact OE_keepM p2_0 | with_reducible refine OE_nd p2_0 ?_ | with_reducible refine OE_nd p2_1 ?_
theorem K_atOnce (k a b c : Int32) (hK : ansK K s n w t cd2 (xAtOnce k a b c x)) : M P n_K_atOnce [.ref 0, .int k, .int a, .int b, .int c, .ref 13] (hm s x (oc n w :: t)) 12 70 20 K := by
  refine Mgo ok_K_atOnce 60 rfl ?_
  refine ⟨_, _, _, L_atOnce _ _ _ _ ?_, by decide, by decide, by decide⟩
  have hE := e_atOnce k a b c x
  revert hK hE
  generalize xAtOnce k a b c x = o
  intro hK hE
  obtain ⟨o, y⟩ := o
  cases o with
  | inl v =>
    have hK : K (.inl (some (.int 0))) (hm s y (oc v.toInt64 w :: t)) := hK
    exact hK
  | inr E =>
    rcases hE E rfl with rfl | rfl
    · intro j
      have hK : K (.inl (some (.int 1))) (hm s y (oc n w :: (t ++ jk j))) := hK j
      exact hK
    · intro j
      have hK : K (.inl (some (.int 2))) (hm s y (oc n w :: (t ++ jk j))) := hK j
      exact hK
theorem e_distance (l a b : Int32) (x : XS) : OE p0 (xDistance l a b x) := by
  unfold xDistance
  repeat' first | with_reducible exact OE_inl | with_reducible exact OE_refuse | with_reducible refine OE_ite ?_ ?_ | with_reducible exact OE_keep p0_0 | with_reducible exact OE_keepR p0_0 | with_reducible exact OE_keepE p0_0 | with_reducible exact OE_keepF p0_0 | with_reducible exact OE_keepM p0_0 | with_reducible refine OE_nd p0_0 ?_
theorem K_distance (l a b : Int32) (hK : ansS K s n w t cd2 (xDistance l a b x)) : M P n_K_distance [.ref 0, .int l, .int a, .int b, .ref 13] (hm s x (oc n w :: t)) 50 9000 20 K := by
  refine Mgo ok_K_distance 60 rfl ?_
  refine ⟨_, _, _, L_distance _ _ _ ?_, by decide, by decide, by decide⟩
  have hE := e_distance l a b x
  revert hK hE
  generalize xDistance l a b x = o
  intro hK hE
  obtain ⟨o, y⟩ := o
  cases o with
  | inl v =>
    intro l r
    have hK : K (.inl (some (.int 0))) (hm s y (oc n (.ref r) :: (t ++ l))) := hK l r
    exact hK
  | inr E =>
    obtain rfl : E = 0 := hE E rfl
    intro j
    have hK : K (.inl (some (.int 1))) (hm s y (oc n w :: (t ++ j))) := hK j
    exact hK
theorem e_compare (l k f : Int32) (x : XS) : OE p0 (xCompare l k f x) := by
  unfold xCompare
  repeat' first | with_reducible exact OE_inl | with_reducible exact OE_refuse | with_reducible refine OE_ite ?_ ?_ | with_reducible exact OE_keep p0_0 | with_reducible exact OE_keepR p0_0 | with_reducible exact OE_keepE p0_0 | with_reducible exact OE_keepF p0_0 | with_reducible exact OE_keepM p0_0 | with_reducible refine OE_nd p0_0 ?_
theorem K_compare (l k f : Int32) (hK : ansK K s n w t cd2 (xCompare l k f x)) : M P n_K_compare [.ref 0, .int l, .int k, .int f, .ref 13] (hm s x (oc n w :: t)) 12 70 20 K := by
  refine Mgo ok_K_compare 60 rfl ?_
  refine ⟨_, _, _, L_compare _ _ _ ?_, by decide, by decide, by decide⟩
  have hE := e_compare l k f x
  revert hK hE
  generalize xCompare l k f x = o
  intro hK hE
  obtain ⟨o, y⟩ := o
  cases o with
  | inl v =>
    have hK : K (.inl (some (.int 0))) (hm s y (oc v.toInt64 w :: t)) := hK
    exact hK
  | inr E =>
    obtain rfl : E = 0 := hE E rfl
    intro j
    have hK : K (.inl (some (.int 1))) (hm s y (oc n w :: (t ++ jk j))) := hK j
    exact hK
theorem e_text (l k : Int32) (x : XS) : OE p0 (xText l k x) := by
  unfold xText
  repeat' first | with_reducible exact OE_inl | with_reducible exact OE_refuse | with_reducible refine OE_ite ?_ ?_ | with_reducible exact OE_keep p0_0 | with_reducible exact OE_keepR p0_0 | with_reducible exact OE_keepE p0_0 | with_reducible exact OE_keepF p0_0 | with_reducible exact OE_keepM p0_0 | with_reducible refine OE_nd p0_0 ?_
theorem K_text (l k : Int32) (hK : ansS K s n w t cd2 (xText l k x)) : M P n_K_text [.ref 0, .int l, .int k, .ref 13] (hm s x (oc n w :: t)) 50 9000 20 K := by
  refine Mgo ok_K_text 60 rfl ?_
  refine ⟨_, _, _, L_text _ _ ?_, by decide, by decide, by decide⟩
  have hE := e_text l k x
  revert hK hE
  generalize xText l k x = o
  intro hK hE
  obtain ⟨o, y⟩ := o
  cases o with
  | inl v =>
    intro l r
    have hK : K (.inl (some (.int 0))) (hm s y (oc n (.ref r) :: (t ++ l))) := hK l r
    exact hK
  | inr E =>
    obtain rfl : E = 0 := hE E rfl
    intro j
    have hK : K (.inl (some (.int 1))) (hm s y (oc n w :: (t ++ j))) := hK j
    exact hK
theorem e_ofNumber (l k q : Int32) (x : XS) : OE p2 (xOfNumber l k q x) := by
  unfold xOfNumber
  repeat' first | with_reducible exact OE_inl | with_reducible exact OE_refuse | with_reducible refine OE_ite ?_ ?_ | with_reducible exact OE_keep p2_0 | with_reducible exact OE_keepR p2_0 | with_reducible exact OE_keepE p2_0 | with_reducible exact OE_keepF p2_0 | with_reducible exact OE_keepM p2_0 | with_reducible refine OE_nd p2_0 ?_ | with_reducible refine OE_nd p2_1 ?_
theorem K_ofNumber (l k q : Int32) (hK : ansK K s n w t cd2 (xOfNumber l k q x)) : M P n_K_ofNumber [.ref 0, .int l, .int k, .int q, .ref 13] (hm s x (oc n w :: t)) 12 70 20 K := by
  refine Mgo ok_K_ofNumber 60 rfl ?_
  refine ⟨_, _, _, L_ofNumber _ _ _ ?_, by decide, by decide, by decide⟩
  have hE := e_ofNumber l k q x
  revert hK hE
  generalize xOfNumber l k q x = o
  intro hK hE
  obtain ⟨o, y⟩ := o
  cases o with
  | inl v =>
    have hK : K (.inl (some (.int 0))) (hm s y (oc v.toInt64 w :: t)) := hK
    exact hK
  | inr E =>
    rcases hE E rfl with rfl | rfl
    · intro j
      have hK : K (.inl (some (.int 1))) (hm s y (oc n w :: (t ++ jk j))) := hK j
      exact hK
    · intro j
      have hK : K (.inl (some (.int 2))) (hm s y (oc n w :: (t ++ jk j))) := hK j
      exact hK
theorem e_rest (l k m : Int32) (x : XS) : OE p2 (xRest l k m x) := by
  unfold xRest
  repeat' first | with_reducible exact OE_inl | with_reducible exact OE_refuse | with_reducible refine OE_ite ?_ ?_ | with_reducible exact OE_keep p2_0 | with_reducible exact OE_keepR p2_0 | with_reducible exact OE_keepE p2_0 | with_reducible exact OE_keepF p2_0 | with_reducible exact OE_keepM p2_0 | with_reducible refine OE_nd p2_0 ?_ | with_reducible refine OE_nd p2_1 ?_
theorem K_rest (l k m : Int32) (hK : ansK K s n w t cd2 (xRest l k m x)) : M P n_K_rest [.ref 0, .int l, .int k, .int m, .ref 13] (hm s x (oc n w :: t)) 12 70 20 K := by
  refine Mgo ok_K_rest 60 rfl ?_
  refine ⟨_, _, _, L_rest _ _ _ ?_, by decide, by decide, by decide⟩
  have hE := e_rest l k m x
  revert hK hE
  generalize xRest l k m x = o
  intro hK hE
  obtain ⟨o, y⟩ := o
  cases o with
  | inl v =>
    have hK : K (.inl (some (.int 0))) (hm s y (oc v.toInt64 w :: t)) := hK
    exact hK
  | inr E =>
    rcases hE E rfl with rfl | rfl
    · intro j
      have hK : K (.inl (some (.int 1))) (hm s y (oc n w :: (t ++ jk j))) := hK j
      exact hK
    · intro j
      have hK : K (.inl (some (.int 2))) (hm s y (oc n w :: (t ++ jk j))) := hK j
      exact hK
theorem e_quotient (l k m : Int32) (x : XS) : OE p2 (xQuotient l k m x) := by
  unfold xQuotient
  repeat' first | with_reducible exact OE_inl | with_reducible exact OE_refuse | with_reducible refine OE_ite ?_ ?_ | with_reducible exact OE_keep p2_0 | with_reducible exact OE_keepR p2_0 | with_reducible exact OE_keepE p2_0 | with_reducible exact OE_keepF p2_0 | with_reducible exact OE_keepM p2_0 | with_reducible refine OE_nd p2_0 ?_ | with_reducible refine OE_nd p2_1 ?_
theorem K_quotient (l k m : Int32) (hK : ansS K s n w t cd2 (xQuotient l k m x)) : M P n_K_quotient [.ref 0, .int l, .int k, .int m, .ref 13] (hm s x (oc n w :: t)) 50 9000 20 K := by
  refine Mgo ok_K_quotient 60 rfl ?_
  refine ⟨_, _, _, L_quotient _ _ _ ?_, by decide, by decide, by decide⟩
  have hE := e_quotient l k m x
  revert hK hE
  generalize xQuotient l k m x = o
  intro hK hE
  obtain ⟨o, y⟩ := o
  cases o with
  | inl v =>
    intro l r
    have hK : K (.inl (some (.int 0))) (hm s y (oc n (.ref r) :: (t ++ l))) := hK l r
    exact hK
  | inr E =>
    rcases hE E rfl with rfl | rfl
    · intro j
      have hK : K (.inl (some (.int 1))) (hm s y (oc n w :: (t ++ j))) := hK j
      exact hK
    · intro j
      have hK : K (.inl (some (.int 2))) (hm s y (oc n w :: (t ++ j))) := hK j
      exact hK
theorem e_modulus (r m : Int32) (x : XS) : OE p2 (xModulus r m x) := by
  unfold xModulus
  repeat' first | with_reducible exact OE_inl | with_reducible exact OE_refuse | with_reducible refine OE_ite ?_ ?_ | with_reducible exact OE_keep p2_0 | with_reducible exact OE_keepR p2_0 | with_reducible exact OE_keepE p2_0 | with_reducible exact OE_keepF p2_0 | with_reducible exact OE_keepM p2_0 | with_reducible refine OE_nd p2_0 ?_ | with_reducible refine OE_nd p2_1 ?_
theorem K_modulus (r m : Int32) (hK : ansK K s n w t cd2 (xModulus r m x)) : M P n_K_modulus [.ref 0, .int r, .int m, .ref 13] (hm s x (oc n w :: t)) 12 70 20 K := by
  refine Mgo ok_K_modulus 60 rfl ?_
  refine ⟨_, _, _, L_modulus _ _ ?_, by decide, by decide, by decide⟩
  have hE := e_modulus r m x
  revert hK hE
  generalize xModulus r m x = o
  intro hK hE
  obtain ⟨o, y⟩ := o
  cases o with
  | inl v =>
    have hK : K (.inl (some (.int 0))) (hm s y (oc v.toInt64 w :: t)) := hK
    exact hK
  | inr E =>
    rcases hE E rfl with rfl | rfl
    · intro j
      have hK : K (.inl (some (.int 1))) (hm s y (oc n w :: (t ++ jk j))) := hK j
      exact hK
    · intro j
      have hK : K (.inl (some (.int 2))) (hm s y (oc n w :: (t ++ jk j))) := hK j
      exact hK
theorem e_bring (r k l f : Int32) (x : XS) : OE p0 (xBring r k l f x) := by
  unfold xBring
  repeat' first | with_reducible exact OE_inl | with_reducible exact OE_refuse | with_reducible refine OE_ite ?_ ?_ | with_reducible exact OE_keep p0_0 | with_reducible exact OE_keepR p0_0 | with_reducible exact OE_keepE p0_0 | with_reducible exact OE_keepF p0_0 | with_reducible exact OE_keepM p0_0 | with_reducible refine OE_nd p0_0 ?_
theorem K_bring (r k l f : Int32) (hK : ansK K s n w t cd2 (xBring r k l f x)) : M P n_K_bring [.ref 0, .int r, .int k, .int l, .int f, .ref 13] (hm s x (oc n w :: t)) 12 70 20 K := by
  refine Mgo ok_K_bring 60 rfl ?_
  refine ⟨_, _, _, L_bring _ _ _ _ ?_, by decide, by decide, by decide⟩
  have hE := e_bring r k l f x
  revert hK hE
  generalize xBring r k l f x = o
  intro hK hE
  obtain ⟨o, y⟩ := o
  cases o with
  | inl v =>
    have hK : K (.inl (some (.int 0))) (hm s y (oc v.toInt64 w :: t)) := hK
    exact hK
  | inr E =>
    obtain rfl : E = 0 := hE E rfl
    intro j
    have hK : K (.inl (some (.int 1))) (hm s y (oc n w :: (t ++ jk j))) := hK j
    exact hK
theorem e_lift (r i l k : Int32) (x : XS) : OE p0 (xLift r i l k x) := by
  unfold xLift
  repeat' first | with_reducible exact OE_inl | with_reducible exact OE_refuse | with_reducible refine OE_ite ?_ ?_ | with_reducible exact OE_keep p0_0 | with_reducible exact OE_keepR p0_0 | with_reducible exact OE_keepE p0_0 | with_reducible exact OE_keepF p0_0 | with_reducible exact OE_keepM p0_0 | with_reducible refine OE_nd p0_0 ?_
theorem K_lift (r i l k : Int32) (hK : ansK K s n w t cd2 (xLift r i l k x)) : M P n_K_lift [.ref 0, .int r, .int i, .int l, .int k, .ref 13] (hm s x (oc n w :: t)) 12 70 20 K := by
  refine Mgo ok_K_lift 60 rfl ?_
  refine ⟨_, _, _, L_lift _ _ _ _ ?_, by decide, by decide, by decide⟩
  have hE := e_lift r i l k x
  revert hK hE
  generalize xLift r i l k x = o
  intro hK hE
  obtain ⟨o, y⟩ := o
  cases o with
  | inl v =>
    have hK : K (.inl (some (.int 0))) (hm s y (oc v.toInt64 w :: t)) := hK
    exact hK
  | inr E =>
    obtain rfl : E = 0 := hE E rfl
    intro j
    have hK : K (.inl (some (.int 1))) (hm s y (oc n w :: (t ++ jk j))) := hK j
    exact hK
theorem e_plus (r k f m : Int32) (x : XS) : OE p0 (xPlus r k f m x) := by
  unfold xPlus
  repeat' first | with_reducible exact OE_inl | with_reducible exact OE_refuse | with_reducible refine OE_ite ?_ ?_ | with_reducible exact OE_keep p0_0 | with_reducible exact OE_keepR p0_0 | with_reducible exact OE_keepE p0_0 | with_reducible exact OE_keepF p0_0 | with_reducible exact OE_keepM p0_0 | with_reducible refine OE_nd p0_0 ?_
theorem K_plus (r k f m : Int32) (hK : ansK K s n w t cd2 (xPlus r k f m x)) : M P n_K_plus [.ref 0, .int r, .int k, .int f, .int m, .ref 13] (hm s x (oc n w :: t)) 12 70 20 K := by
  refine Mgo ok_K_plus 60 rfl ?_
  refine ⟨_, _, _, L_plus _ _ _ _ ?_, by decide, by decide, by decide⟩
  have hE := e_plus r k f m x
  revert hK hE
  generalize xPlus r k f m x = o
  intro hK hE
  obtain ⟨o, y⟩ := o
  cases o with
  | inl v =>
    have hK : K (.inl (some (.int 0))) (hm s y (oc v.toInt64 w :: t)) := hK
    exact hK
  | inr E =>
    obtain rfl : E = 0 := hE E rfl
    intro j
    have hK : K (.inl (some (.int 1))) (hm s y (oc n w :: (t ++ jk j))) := hK j
    exact hK
theorem e_times (r k f : Int32) (x : XS) : OE p0 (xTimes r k f x) := by
  unfold xTimes
  repeat' first | with_reducible exact OE_inl | with_reducible exact OE_refuse | with_reducible refine OE_ite ?_ ?_ | with_reducible exact OE_keep p0_0 | with_reducible exact OE_keepR p0_0 | with_reducible exact OE_keepE p0_0 | with_reducible exact OE_keepF p0_0 | with_reducible exact OE_keepM p0_0 | with_reducible refine OE_nd p0_0 ?_
theorem K_times (r k f : Int32) (hK : ansK K s n w t cd2 (xTimes r k f x)) : M P n_K_times [.ref 0, .int r, .int k, .int f, .ref 13] (hm s x (oc n w :: t)) 12 70 20 K := by
  refine Mgo ok_K_times 60 rfl ?_
  refine ⟨_, _, _, L_times _ _ _ ?_, by decide, by decide, by decide⟩
  have hE := e_times r k f x
  revert hK hE
  generalize xTimes r k f x = o
  intro hK hE
  obtain ⟨o, y⟩ := o
  cases o with
  | inl v =>
    have hK : K (.inl (some (.int 0))) (hm s y (oc v.toInt64 w :: t)) := hK
    exact hK
  | inr E =>
    obtain rfl : E = 0 := hE E rfl
    intro j
    have hK : K (.inl (some (.int 1))) (hm s y (oc n w :: (t ++ jk j))) := hK j
    exact hK
theorem e_power (r k e : Int32) (x : XS) : OE p2 (xPower r k e x) := by
  unfold xPower
  repeat' first | with_reducible exact OE_inl | with_reducible exact OE_refuse | with_reducible refine OE_ite ?_ ?_ | with_reducible exact OE_keep p2_0 | with_reducible exact OE_keepR p2_0 | with_reducible exact OE_keepE p2_0 | with_reducible exact OE_keepF p2_0 | with_reducible exact OE_keepM p2_0 | with_reducible refine OE_nd p2_0 ?_ | with_reducible refine OE_nd p2_1 ?_
theorem K_power (r k e : Int32) (hK : ansK K s n w t cd2 (xPower r k e x)) : M P n_K_power [.ref 0, .int r, .int k, .int e, .ref 13] (hm s x (oc n w :: t)) 12 70 20 K := by
  refine Mgo ok_K_power 60 rfl ?_
  refine ⟨_, _, _, L_power _ _ _ ?_, by decide, by decide, by decide⟩
  have hE := e_power r k e x
  revert hK hE
  generalize xPower r k e x = o
  intro hK hE
  obtain ⟨o, y⟩ := o
  cases o with
  | inl v =>
    have hK : K (.inl (some (.int 0))) (hm s y (oc v.toInt64 w :: t)) := hK
    exact hK
  | inr E =>
    rcases hE E rfl with rfl | rfl
    · intro j
      have hK : K (.inl (some (.int 1))) (hm s y (oc n w :: (t ++ jk j))) := hK j
      exact hK
    · intro j
      have hK : K (.inl (some (.int 2))) (hm s y (oc n w :: (t ++ jk j))) := hK j
      exact hK
theorem e_inverse (r k : Int32) (x : XS) : OE p0 (xInverse r k x) := by
  unfold xInverse
  repeat' first | with_reducible exact OE_inl | with_reducible exact OE_refuse | with_reducible refine OE_ite ?_ ?_ | with_reducible exact OE_keep p0_0 | with_reducible exact OE_keepR p0_0 | with_reducible exact OE_keepE p0_0 | with_reducible exact OE_keepF p0_0 | with_reducible exact OE_keepM p0_0 | with_reducible refine OE_nd p0_0 ?_
theorem K_inverse (r k : Int32) (hK : ansK K s n w t cd2 (xInverse r k x)) : M P n_K_inverse [.ref 0, .int r, .int k, .ref 13] (hm s x (oc n w :: t)) 12 70 20 K := by
  refine Mgo ok_K_inverse 60 rfl ?_
  refine ⟨_, _, _, L_inverse _ _ ?_, by decide, by decide, by decide⟩
  have hE := e_inverse r k x
  revert hK hE
  generalize xInverse r k x = o
  intro hK hE
  obtain ⟨o, y⟩ := o
  cases o with
  | inl v =>
    have hK : K (.inl (some (.int 0))) (hm s y (oc v.toInt64 w :: t)) := hK
    exact hK
  | inr E =>
    obtain rfl : E = 0 := hE E rfl
    intro j
    have hK : K (.inl (some (.int 1))) (hm s y (oc n w :: (t ++ jk j))) := hK j
    exact hK
theorem e_isUnit (r k : Int32) (x : XS) : OE p0 (xUnit r k x) := by
  unfold xUnit
  repeat' first | with_reducible exact OE_inl | with_reducible exact OE_refuse | with_reducible refine OE_ite ?_ ?_ | with_reducible exact OE_keep p0_0 | with_reducible exact OE_keepR p0_0 | with_reducible exact OE_keepE p0_0 | with_reducible exact OE_keepF p0_0 | with_reducible exact OE_keepM p0_0 | with_reducible refine OE_nd p0_0 ?_
theorem K_isUnit (r k : Int32) (hK : ansB K s n w t cd2 (xUnit r k x)) : M P n_K_isUnit [.ref 0, .int r, .int k, .ref 13] (hm s x (oc n w :: t)) 12 70 20 K := by
  refine Mgo ok_K_isUnit 60 rfl ?_
  refine ⟨_, _, _, L_isUnit _ _ ?_, by decide, by decide, by decide⟩
  have hE := e_isUnit r k x
  revert hK hE
  generalize xUnit r k x = o
  intro hK hE
  obtain ⟨o, y⟩ := o
  cases o with
  | inl v =>
    have hK : K (.inl (some (.int 0))) (hm s y (oc (bz v) w :: t)) := hK
    unfold bz at hK
    refine ⟨fun e => ?_, fun e => ?_⟩
    · rw [if_pos e] at hK
      exact hK
    · rw [if_neg e] at hK
      exact hK
  | inr E =>
    obtain rfl : E = 0 := hE E rfl
    intro j
    have hK : K (.inl (some (.int 1))) (hm s y (oc n w :: (t ++ jk j))) := hK j
    exact hK
theorem e_residue (r k : Int32) (x : XS) : OE p0 (xResidue r k x) := by
  unfold xResidue
  repeat' first | with_reducible exact OE_inl | with_reducible exact OE_refuse | with_reducible refine OE_ite ?_ ?_ | with_reducible exact OE_keep p0_0 | with_reducible exact OE_keepR p0_0 | with_reducible exact OE_keepE p0_0 | with_reducible exact OE_keepF p0_0 | with_reducible exact OE_keepM p0_0 | with_reducible refine OE_nd p0_0 ?_
theorem K_residue (r k : Int32) (hK : ansK K s n w t cd2 (xResidue r k x)) : M P n_K_residue [.ref 0, .int r, .int k, .ref 13] (hm s x (oc n w :: t)) 12 70 20 K := by
  refine Mgo ok_K_residue 60 rfl ?_
  refine ⟨_, _, _, L_residue _ _ ?_, by decide, by decide, by decide⟩
  have hE := e_residue r k x
  revert hK hE
  generalize xResidue r k x = o
  intro hK hE
  obtain ⟨o, y⟩ := o
  cases o with
  | inl v =>
    have hK : K (.inl (some (.int 0))) (hm s y (oc v.toInt64 w :: t)) := hK
    exact hK
  | inr E =>
    obtain rfl : E = 0 := hE E rfl
    intro j
    have hK : K (.inl (some (.int 1))) (hm s y (oc n w :: (t ++ jk j))) := hK j
    exact hK
theorem e_ringText (r : Int32) (x : XS) : OE p0 (xRingText r x) := by
  unfold xRingText
  repeat' first | with_reducible exact OE_inl | with_reducible exact OE_refuse | with_reducible refine OE_ite ?_ ?_ | with_reducible exact OE_keep p0_0 | with_reducible exact OE_keepR p0_0 | with_reducible exact OE_keepE p0_0 | with_reducible exact OE_keepF p0_0 | with_reducible exact OE_keepM p0_0 | with_reducible refine OE_nd p0_0 ?_
theorem K_ringText (r : Int32) (hK : ansS K s n w t cd2 (xRingText r x)) : M P n_K_ringText [.ref 0, .int r, .ref 13] (hm s x (oc n w :: t)) 50 9000 20 K := by
  refine Mgo ok_K_ringText 60 rfl ?_
  refine ⟨_, _, _, L_ringText _ ?_, by decide, by decide, by decide⟩
  have hE := e_ringText r x
  revert hK hE
  generalize xRingText r x = o
  intro hK hE
  obtain ⟨o, y⟩ := o
  cases o with
  | inl v =>
    intro l r
    have hK : K (.inl (some (.int 0))) (hm s y (oc n (.ref r) :: (t ++ l))) := hK l r
    exact hK
  | inr E =>
    obtain rfl : E = 0 := hE E rfl
    intro j
    have hK : K (.inl (some (.int 1))) (hm s y (oc n w :: (t ++ j))) := hK j
    exact hK
theorem e_areAlike (r l a b : Int32) (x : XS) : OE p0 (xAlike r l a b x) := by
  unfold xAlike
  repeat' first | with_reducible exact OE_inl | with_reducible exact OE_refuse | with_reducible refine OE_ite ?_ ?_ | with_reducible exact OE_keep p0_0 | with_reducible exact OE_keepR p0_0 | with_reducible exact OE_keepE p0_0 | with_reducible exact OE_keepF p0_0 | with_reducible exact OE_keepM p0_0 | with_reducible refine OE_nd p0_0 ?_
theorem K_areAlike (r l a b : Int32) (hK : ansB K s n w t cd2 (xAlike r l a b x)) : M P n_K_areAlike [.ref 0, .int r, .int l, .int a, .int b, .ref 13] (hm s x (oc n w :: t)) 12 70 20 K := by
  refine Mgo ok_K_areAlike 60 rfl ?_
  refine ⟨_, _, _, L_alike _ _ _ _ ?_, by decide, by decide, by decide⟩
  have hE := e_areAlike r l a b x
  revert hK hE
  generalize xAlike r l a b x = o
  intro hK hE
  obtain ⟨o, y⟩ := o
  cases o with
  | inl v =>
    have hK : K (.inl (some (.int 0))) (hm s y (oc (bz v) w :: t)) := hK
    unfold bz at hK
    refine ⟨fun e => ?_, fun e => ?_⟩
    · rw [if_pos e] at hK
      exact hK
    · rw [if_neg e] at hK
      exact hK
  | inr E =>
    obtain rfl : E = 0 := hE E rfl
    intro j
    have hK : K (.inl (some (.int 1))) (hm s y (oc n w :: (t ++ jk j))) := hK j
    exact hK
theorem e_together (k r a q b : Int32) (x : XS) : OE p0 (xTogether k r a q b x) := by
  unfold xTogether
  repeat' first | with_reducible exact OE_inl | with_reducible exact OE_refuse | with_reducible refine OE_ite ?_ ?_ | with_reducible exact OE_keep p0_0 | with_reducible exact OE_keepR p0_0 | with_reducible exact OE_keepE p0_0 | with_reducible exact OE_keepF p0_0 | with_reducible exact OE_keepM p0_0 | with_reducible refine OE_nd p0_0 ?_
theorem K_together (k r a q b : Int32) (hK : ansK K s n w t cd2 (xTogether k r a q b x)) : M P n_K_together [.ref 0, .int k, .int r, .int a, .int q, .int b, .ref 13] (hm s x (oc n w :: t)) 12 70 20 K := by
  refine Mgo ok_K_together 60 rfl ?_
  refine ⟨_, _, _, L_together _ _ _ _ _ ?_, by decide, by decide, by decide⟩
  have hE := e_together k r a q b x
  revert hK hE
  generalize xTogether k r a q b x = o
  intro hK hE
  obtain ⟨o, y⟩ := o
  cases o with
  | inl v =>
    have hK : K (.inl (some (.int 0))) (hm s y (oc v.toInt64 w :: t)) := hK
    exact hK
  | inr E =>
    obtain rfl : E = 0 := hE E rfl
    intro j
    have hK : K (.inl (some (.int 1))) (hm s y (oc n w :: (t ++ jk j))) := hK j
    exact hK
theorem e_common (r q : Int32) (x : XS) : OE p0 (xCommon r q x) := by
  unfold xCommon
  repeat' first | with_reducible exact OE_inl | with_reducible exact OE_refuse | with_reducible refine OE_ite ?_ ?_ | with_reducible exact OE_keep p0_0 | with_reducible exact OE_keepR p0_0 | with_reducible exact OE_keepE p0_0 | with_reducible exact OE_keepF p0_0 | with_reducible exact OE_keepM p0_0 | with_reducible refine OE_nd p0_0 ?_
theorem K_common (r q i : Int32) (hK : ansS K s n w t cd2 (xCommon r q x)) : M P n_K_common [.ref 0, .int r, .int q, .int i, .ref 13] (hm s x (oc n w :: t)) 50 9000 20 K := by
  refine Mgo ok_K_common 60 rfl ?_
  refine ⟨_, _, _, L_common _ _ _ ?_, by decide, by decide, by decide⟩
  have hE := e_common r q x
  revert hK hE
  generalize xCommon r q x = o
  intro hK hE
  obtain ⟨o, y⟩ := o
  cases o with
  | inl v =>
    intro l r
    have hK : K (.inl (some (.int 0))) (hm s y (oc n (.ref r) :: (t ++ l))) := hK l r
    exact hK
  | inr E =>
    obtain rfl : E = 0 := hE E rfl
    intro j
    have hK : K (.inl (some (.int 1))) (hm s y (oc n w :: (t ++ j))) := hK j
    exact hK
theorem e_house (q : Int32) (x : XS) : OE p1 (xHouse q x) := by
  unfold xHouse
  repeat' first | with_reducible exact OE_inl | with_reducible exact OE_refuse | with_reducible refine OE_ite ?_ ?_ | with_reducible refine OE_nd p1_1 ?_
theorem K_house (q : Int32) (hK : ansK K s n w t cdH (xHouse q x)) : M P n_K_house [.ref 0, .int q, .ref 13] (hm s x (oc n w :: t)) 12 70 20 K := by
  refine Mgo ok_K_house 60 rfl ?_
  refine ⟨_, _, _, L_house _ ?_, by decide, by decide, by decide⟩
  have hE := e_house q x
  revert hK hE
  generalize xHouse q x = o
  intro hK hE
  obtain ⟨o, y⟩ := o
  cases o with
  | inl v =>
    have hK : K (.inl (some (.int 0))) (hm s y (oc v.toInt64 w :: t)) := hK
    exact hK
  | inr E =>
    obtain rfl : E = 1 := hE E rfl
    intro j
    have hK : K (.inl (some (.int 1))) (hm s y (oc n w :: (t ++ jk j))) := hK j
    exact hK
end LAWK
