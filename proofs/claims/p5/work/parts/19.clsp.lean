/-! THE CLASS: what is asked of it from outside -/
def xPut (l k hi lo : Int32) (s : XS) : Out := xKeep l k (if l = 0 then lo.toInt64 else (hi.toInt64 <<< sh32 ||| (lo.toInt64 &&& 4294967295))) s
def xCopy (l k f : Int32) (s : XS) : Out := nd (ok4 f) 0 s (xKeep l k (xNum l f s) s)
def xWiden (k f : Int32) (s : XS) : Out := nd (ok4 f) 0 s (xKeep 1 k (xNum 0 f s) s)
def xNarrow (k f : Int32) (s : XS) : Out := nd (ok4 k) 0 s (nd (ok4 f) 0 s (if wWithin 0 (xNum 1 f s) = 0 then xRefuse s else xKeep 0 k (xNum 1 f s) s))
def xExact (l k f w : Int32) (s : XS) : Out := nd (ok4 k) 0 s (nd (ok4 f) 0 s (nd (okC w 2) 1 s (xKeepE l k (xNum l k s) (xNum l f s) w s)))
def xFits (l k f w : Int32) (s : XS) : Out := nd (ok4 k) 0 s (nd (ok4 f) 0 s (nd (okC w 2) 1 s (.inl (wExact l (xNum l k s) (xNum l f s) w), s)))
def xAlone (l k w : Int32) (s : XS) : Out := nd (ok4 k) 0 s (nd (okC w 2) 1 s (if w = 2 then xKeepE l k 0 (xNum l k s) 1 s else xKeepE l k (xNum l k s) 1 (if w = 0 then 0 else 1) s))
def xAbs (l k : Int32) (s : XS) : Out := nd (ok4 k) 0 s (xKeepR l k (lAbs (xNum l k s)) s)
def xRound (l k f w : Int32) (s : XS) : Out := nd (ok4 k) 0 s (nd (ok4 f) 0 s (nd (okC w 2) 1 s (xKeepR l k (wJoin (xNum l k s) (xNum l f s) w) s)))
def xExtreme (l k f g : Int32) (s : XS) : Out := nd (ok4 k) 0 s (nd (ok4 f) 0 s (if g = 0 then (.inl (if lMin (xNum l k s) (xNum l f s) = xNum l k s then 0 else 1), xSet l k (lMin (xNum l k s) (xNum l f s)) s) else (.inl (if lMax (xNum l k s) (xNum l f s) = xNum l k s then 0 else 1), xSet l k (lMax (xNum l k s) (xNum l f s)) s)))
def xAverage (l k f u : Int32) (s : XS) : Out := nd (ok4 k) 0 s (nd (ok4 f) 0 s (xKeep l k (wAvg (xNum l k s) (xNum l f s) u) s))
def xHigh (k a b : Int32) (s : XS) : Out := nd (ok4 a) 0 s (nd (ok4 b) 0 s (xKeep 1 k (wUpper 1 (xNum 1 a s) (xNum 1 b s)) s))
def xFull (k a b : Int32) (s : XS) : Out := nd (ok4 a) 0 s (nd (ok4 b) 0 s (xKeep 1 k (xNum 0 a s * xNum 0 b s) s))
def xTimesInt (k f : Int32) (s : XS) : Out := nd (ok4 k) 0 s (nd (ok4 f) 0 s (xKeepE 1 k (xNum 1 k s) (xNum 0 f s) 2 s))
def xAtOnce (k a b c : Int32) (s : XS) : Out := nd (ok4 k) 0 s (nd (okV a b c) 1 s (if wExact 1 (a.toInt64 * b.toInt64) c.toInt64 2 = 0 then xRefuse s else xKeep 1 k (wFloor (xNum 1 k s) (a.toInt64 * b.toInt64 * c.toInt64)) s))
def xChain (k a b c : Int32) (s : XS) : Out := nd (ok4 k) 0 s (nd (okV a b c) 1 s (xKeep 1 k (wChain (xNum 1 k s) a b c) s))
def xFloor (l k f r : Int32) (s : XS) : Out := nd (ok4 f) 0 s (xKeepF l k (xNum l f s) r s)
def xFloorInt (k f r : Int32) (s : XS) : Out := nd (ok4 f) 0 s (xKeepF 1 k (xNum 0 f s) r s)
def xTowards (l k f r : Int32) (s : XS) : Out := nd (ok4 k) 0 s (nd (ok4 f) 0 s (if xNum l f s = 0 then xRefuse s else xKeepR l k (if r = 0 then wQuot (xNum l k s) (xNum l f s) else wRestT (xNum l k s) (xNum l f s)) s))
def xRest (l k m : Int32) (s : XS) : Out := nd (ok4 k) 0 s (nd (¬ m = 0) 1 s (.inl (rRes (xNum l k s) m), s))
def xBring (r k l f : Int32) (s : XS) : Out := nd (ok4 f) 0 s (xKeepM r k (xNum l f s) s)
def xLift (r i l k : Int32) (s : XS) : Out := nd (ok3 r ∧ ok4 i) 0 s (xKeep l k (xRes r i s).toInt64 s)
def xPlus (r k f m : Int32) (s : XS) : Out := nd (ok3 r ∧ ok4 k) 0 s (nd (ok3 r ∧ ok4 f) 0 s (xKeepM r k (if m = 0 then (xRes r k s).toInt64 + (xRes r f s).toInt64 else (xRes r k s).toInt64 - (xRes r f s).toInt64) s))
def xTimes (r k f : Int32) (s : XS) : Out := nd (ok3 r ∧ ok4 k) 0 s (nd (ok3 r ∧ ok4 f) 0 s (xKeepM r k ((xRes r k s).toInt64 * (xRes r f s).toInt64) s))
def xPower (r k e : Int32) (s : XS) : Out := nd (ok3 r ∧ ok4 k) 0 s (nd (¬ e < 0) 1 s (xKeepM r k (rRaise (xRes r k s) e (xMod r s)).toInt64 s))
def xInverse (r k : Int32) (s : XS) : Out := nd (ok3 r ∧ ok4 k) 0 s (if rHas (xRes r k s) (xMod r s) = 0 then xRefuse s else (.inl 1, xSetR r k (rRes (rInverse (xRes r k s) (xMod r s)).toInt64 (xMod r s)) s))
def xResidue (r k : Int32) (s : XS) : Out := nd (ok3 r ∧ ok4 k) 0 s (.inl (xRes r k s), s)
def xSetM (r m : Int32) (s : XS) : XS := (s.1, s.2.1, upd (xM s) r.toNatClampNeg m, s.2.2.2)
def xRing1 (r k : Int32) (s : XS) : XS := xSetR r k (rRes (xRes r k s).toInt64 (xMod r s)) s
def rgL (r : Int32) : Nat → Int32 → XS → XS
  | 0, _, s => s
  | n + 1, i, s => rgL r n (i + 1) (xRing1 r i s)
def xModulus (r m : Int32) (s : XS) : Out := nd (ok3 r) 0 s (nd (¬ m = 0) 1 s (.inl (xMod r s), rgL r 4 0 (xSetM r m s)))
def xTogether (k r a q b : Int32) (s : XS) : Out := nd (ok4 k) 0 s (nd (ok3 r ∧ ok4 a) 0 s (nd (ok3 q ∧ ok4 b) 0 s (if rMeet (xRes r a s) (xMod r s) (xRes q b s) (xMod q s) = -1 then xRefuse s else xKeep 1 k (rMeet (xRes r a s) (xMod r s) (xRes q b s) (xMod q s)) s)))
def xAlike (r l a b : Int32) (s : XS) : Out := nd (ok3 r) 0 s (nd (ok4 a) 0 s (nd (ok4 b) 0 s (.inl (if wRest (xNum l a s) (xMod r s).toInt64 = wRest (xNum l b s) (xMod r s).toInt64 then 1 else 0), s)))
def xUnit (r k : Int32) (s : XS) : Out := nd (ok3 r ∧ ok4 k) 0 s (.inl (rHas (xRes r k s) (xMod r s)), s)
def xKnock (s : XS) : Out := (.inl (xK s + 1), (s.1, s.2.1, s.2.2.1, s.2.2.2.1, xF s, xK s + 1))
theorem nb {x : Int32} (h : x = 0 ∨ x = 1) : narrow .boolean (.int x) = .int x := by
  rcases h with rfl | rfl <;> rfl
theorem b_exact (l : Int32) (a b : Int64) (w : Int32) : wExact l a b w = 0 ∨ wExact l a b w = 1 := by
  unfold wExact
  by_cases q : wTrue a b w (wJoin a b w) = 0
  · rw [if_pos q]
    exact Or.inl rfl
  · rw [if_neg q]
    by_cases q2 : wWithin l (wJoin a b w) = 0
    · rw [if_pos q2]
      exact Or.inl rfl
    · rw [if_neg q2]
      exact Or.inr rfl
theorem b_has (r m : Int32) : rHas r m = 0 ∨ rHas r m = 1 := by
  unfold rHas
  by_cases q : rInv r.toInt64 (rSize m) = -1
  · rw [if_pos q]
    exact Or.inl rfl
  · rw [if_neg q]
    exact Or.inr rfl
section CLSP
variable {P : GP} {K : Kt} {s : XS} {t : mH}
theorem L_put (l k hi lo : Int32) (hK : ans K t (xPut l k hi lo s)) : M P n_X_put [.ref 0, .int l, .int k, .int hi, .int lo] (hx s t) 10 60 10 K := by
  refine Mgo ok_X_put 60 rfl ?_
  unfold xPut at hK
  refine ⟨fun q => ?_, fun q => ?_⟩
  · rw [if_pos q] at hK
    exact ⟨_, _, _, L_keep _ _ _ (am hK (fun _ _ e => e) (fun _ _ e => e)), by decide, by decide, by decide⟩
  · rw [if_neg q] at hK
    exact ⟨_, _, _, L_keep _ _ _ (am hK (fun _ _ e => e) (fun _ _ e => e)), by decide, by decide, by decide⟩
theorem L_copy (l k f : Int32) (hK : ans K t (xCopy l k f s)) : M P n_X_copy [.ref 0, .int l, .int k, .int f] (hx s t) 10 60 10 K := by
  refine Mgo ok_X_copy 60 rfl ?_
  have hK := ans_nd hK
  refine ⟨_, _, _, L_num _ _ (fun h1 => ?_) hK.2, by decide, by decide, by decide⟩
  have hK := hK.1 h1
  exact ⟨_, _, _, L_keep _ _ _ (am hK (fun _ _ e => e) (fun _ _ e => e)), by decide, by decide, by decide⟩
theorem L_widen (k f : Int32) (hK : ans K t (xWiden k f s)) : M P n_X_widen [.ref 0, .int k, .int f] (hx s t) 10 60 10 K := by
  refine Mgo ok_X_widen 60 rfl ?_
  have hK := ans_nd hK
  refine ⟨_, _, _, L_num _ _ (fun h1 => ?_) hK.2, by decide, by decide, by decide⟩
  have hK := hK.1 h1
  exact ⟨_, _, _, L_keep _ _ _ (am hK (fun _ _ e => e) (fun _ _ e => e)), by decide, by decide, by decide⟩
theorem L_narrow (k f : Int32) (hK : ans K t (xNarrow k f s)) : M P n_X_narrow [.ref 0, .int k, .int f] (hx s t) 10 60 10 K := by
  refine Mgo ok_X_narrow 60 rfl ?_
  have hK := ans_nd hK
  refine ⟨_, _, _, L_needIx _ _ (fun h1 => ?_) hK.2, by decide, by decide, by decide⟩
  have hK := hK.1 h1
  have hK := ans_nd hK
  refine ⟨_, _, _, L_num _ _ (fun h2 => ?_) hK.2, by decide, by decide, by decide⟩
  have hK := hK.1 h2
  refine ⟨_, _, _, L_within _ _ _ ?_, by decide, by decide, by decide⟩
  refine ⟨fun q => ?_, fun q => ?_⟩
  · rw [if_pos q] at hK
    exact ⟨_, _, _, L_refuse (am hK (fun _ _ e => e) (fun _ _ e => e)), by decide, by decide, by decide⟩
  · rw [if_neg q] at hK
    exact ⟨_, _, _, L_keep _ _ _ (am hK (fun _ _ e => e) (fun _ _ e => e)), by decide, by decide, by decide⟩
theorem L_exact (l k f w : Int32) (hK : ans K t (xExact l k f w s)) : M P n_X_exact [.ref 0, .int l, .int k, .int f, .int w] (hx s t) 10 60 10 K := by
  refine Mgo ok_X_exact 60 rfl ?_
  have hK := ans_nd hK
  refine ⟨_, _, _, L_num _ _ (fun h1 => ?_) hK.2, by decide, by decide, by decide⟩
  have hK := hK.1 h1
  have hK := ans_nd hK
  refine ⟨_, _, _, L_num _ _ (fun h2 => ?_) hK.2, by decide, by decide, by decide⟩
  have hK := hK.1 h2
  have hK := ans_nd hK
  refine ⟨_, _, _, L_needChoice _ _ (fun h3 => ?_) hK.2, by decide, by decide, by decide⟩
  have hK := hK.1 h3
  exact ⟨_, _, _, L_keepExact _ _ _ _ _ (am hK (fun _ _ e => e) (fun _ _ e => e)), by decide, by decide, by decide⟩
theorem L_fits (l k f w : Int32) (hK : ans K t (xFits l k f w s)) : M P n_X_fits [.ref 0, .int l, .int k, .int f, .int w] (hx s t) 10 60 10 K := by
  refine Mgo ok_X_fits 60 rfl ?_
  have hK := ans_nd hK
  refine ⟨_, _, _, L_num _ _ (fun h1 => ?_) hK.2, by decide, by decide, by decide⟩
  have hK := hK.1 h1
  have hK := ans_nd hK
  refine ⟨_, _, _, L_num _ _ (fun h2 => ?_) hK.2, by decide, by decide, by decide⟩
  have hK := hK.1 h2
  have hK := ans_nd hK
  refine ⟨_, _, _, L_needChoice _ _ (fun h3 => ?_) hK.2, by decide, by decide, by decide⟩
  have hK := hK.1 h3
  refine ⟨_, _, _, L_isExact _ _ _ _ _ ?_, by decide, by decide, by decide⟩
  exact ⟨nb (b_exact _ _ _ _), hK⟩
theorem L_alone (l k w : Int32) (hK : ans K t (xAlone l k w s)) : M P n_X_alone [.ref 0, .int l, .int k, .int w] (hx s t) 10 60 10 K := by
  refine Mgo ok_X_alone 60 rfl ?_
  have hK := ans_nd hK
  refine ⟨_, _, _, L_num _ _ (fun h1 => ?_) hK.2, by decide, by decide, by decide⟩
  have hK := hK.1 h1
  have hK := ans_nd hK
  refine ⟨_, _, _, L_needChoice _ _ (fun h3 => ?_) hK.2, by decide, by decide, by decide⟩
  have hK := hK.1 h3
  refine ⟨fun q => ?_, fun q => ?_⟩
  · rw [if_pos q] at hK
    exact ⟨_, _, _, L_keepExact _ _ _ _ _ (am hK (fun _ _ e => e) (fun _ _ e => e)), by decide, by decide, by decide⟩
  · rw [if_neg q] at hK
    refine ⟨fun q2 => ?_, fun q2 => ?_⟩
    · rw [if_pos q2] at hK
      exact ⟨_, _, _, L_keepExact _ _ _ _ _ (am hK (fun _ _ e => e) (fun _ _ e => e)), by decide, by decide, by decide⟩
    · rw [if_neg q2] at hK
      exact ⟨_, _, _, L_keepExact _ _ _ _ _ (am hK (fun _ _ e => e) (fun _ _ e => e)), by decide, by decide, by decide⟩
theorem L_abs (l k : Int32) (hK : ans K t (xAbs l k s)) : M P n_X_abs [.ref 0, .int l, .int k] (hx s t) 10 60 10 K := by
  refine Mgo ok_X_abs 60 rfl ?_
  have hK := ans_nd hK
  refine ⟨_, _, _, L_num _ _ (fun h1 => ?_) hK.2, by decide, by decide, by decide⟩
  have hK := hK.1 h1
  unfold lAbs at hK
  refine ⟨fun q => ?_, fun q => ?_⟩
  · rw [if_pos q] at hK
    exact ⟨_, _, _, L_keepRound _ _ _ (am hK (fun _ _ e => e) (fun _ _ e => e)), by decide, by decide, by decide⟩
  · rw [if_neg q] at hK
    exact ⟨_, _, _, L_keepRound _ _ _ (am hK (fun _ _ e => e) (fun _ _ e => e)), by decide, by decide, by decide⟩
theorem L_round (l k f w : Int32) (hK : ans K t (xRound l k f w s)) : M P n_X_round [.ref 0, .int l, .int k, .int f, .int w] (hx s t) 10 60 10 K := by
  refine Mgo ok_X_round 60 rfl ?_
  have hK := ans_nd hK
  refine ⟨_, _, _, L_num _ _ (fun h1 => ?_) hK.2, by decide, by decide, by decide⟩
  have hK := hK.1 h1
  have hK := ans_nd hK
  refine ⟨_, _, _, L_num _ _ (fun h2 => ?_) hK.2, by decide, by decide, by decide⟩
  have hK := hK.1 h2
  have hK := ans_nd hK
  refine ⟨_, _, _, L_needChoice _ _ (fun h3 => ?_) hK.2, by decide, by decide, by decide⟩
  have hK := hK.1 h3
  refine ⟨_, _, _, L_joined _ _ _ _ ?_, by decide, by decide, by decide⟩
  exact ⟨_, _, _, L_keepRound _ _ _ (am hK (fun _ _ e => e) (fun _ _ e => e)), by decide, by decide, by decide⟩
theorem L_extreme (l k f g : Int32) (hK : ans K t (xExtreme l k f g s)) : M P n_X_extreme [.ref 0, .int l, .int k, .int f, .int g] (hx s t) 10 60 10 K := by
  refine Mgo ok_X_extreme 60 rfl ?_
  have hK := ans_nd hK
  refine ⟨_, _, _, L_num _ _ (fun h1 => ?_) hK.2, by decide, by decide, by decide⟩
  have hK := hK.1 h1
  have hK := ans_nd hK
  refine ⟨_, _, _, L_num _ _ (fun h2 => ?_) hK.2, by decide, by decide, by decide⟩
  have hK := hK.1 h2
  refine ⟨fun q => ?_, fun q => ?_⟩
  · rw [if_pos q] at hK
    refine ⟨_, _, _, L_minJ _ _ _ ?_, by decide, by decide, by decide⟩
    refine ⟨_, _, _, L_keep0 _ _ _ h1 ?_, by decide, by decide, by decide⟩
    refine ⟨fun q2 => ?_, fun q2 => ?_⟩
    · rw [if_pos q2] at hK
      exact hK
    · rw [if_neg q2] at hK
      exact hK
  · rw [if_neg q] at hK
    refine ⟨_, _, _, L_maxJ _ _ _ ?_, by decide, by decide, by decide⟩
    refine ⟨_, _, _, L_keep0 _ _ _ h1 ?_, by decide, by decide, by decide⟩
    refine ⟨fun q2 => ?_, fun q2 => ?_⟩
    · rw [if_pos q2] at hK
      exact hK
    · rw [if_neg q2] at hK
      exact hK
theorem L_average (l k f u : Int32) (hK : ans K t (xAverage l k f u s)) : M P n_X_average [.ref 0, .int l, .int k, .int f, .int u] (hx s t) 10 60 10 K := by
  refine Mgo ok_X_average 60 rfl ?_
  have hK := ans_nd hK
  refine ⟨_, _, _, L_num _ _ (fun h1 => ?_) hK.2, by decide, by decide, by decide⟩
  have hK := hK.1 h1
  have hK := ans_nd hK
  refine ⟨_, _, _, L_num _ _ (fun h2 => ?_) hK.2, by decide, by decide, by decide⟩
  have hK := hK.1 h2
  refine ⟨_, _, _, L_avg _ _ _ _ ?_, by decide, by decide, by decide⟩
  exact ⟨_, _, _, L_keep _ _ _ (am hK (fun _ _ e => e) (fun _ _ e => e)), by decide, by decide, by decide⟩
theorem L_high (k a b : Int32) (hK : ans K t (xHigh k a b s)) : M P n_X_high [.ref 0, .int k, .int a, .int b] (hx s t) 10 60 10 K := by
  refine Mgo ok_X_high 60 rfl ?_
  have hK := ans_nd hK
  refine ⟨_, _, _, L_num _ _ (fun h1 => ?_) hK.2, by decide, by decide, by decide⟩
  have hK := hK.1 h1
  have hK := ans_nd hK
  refine ⟨_, _, _, L_num _ _ (fun h2 => ?_) hK.2, by decide, by decide, by decide⟩
  have hK := hK.1 h2
  refine ⟨_, _, _, L_upper _ _ _ _ ?_, by decide, by decide, by decide⟩
  exact ⟨_, _, _, L_keep _ _ _ (am hK (fun _ _ e => e) (fun _ _ e => e)), by decide, by decide, by decide⟩
theorem L_full (k a b : Int32) (hK : ans K t (xFull k a b s)) : M P n_X_full [.ref 0, .int k, .int a, .int b] (hx s t) 10 60 10 K := by
  refine Mgo ok_X_full 60 rfl ?_
  have hK := ans_nd hK
  refine ⟨_, _, _, L_num _ _ (fun h1 => ?_) hK.2, by decide, by decide, by decide⟩
  have hK := hK.1 h1
  have hK := ans_nd hK
  refine ⟨_, _, _, L_num _ _ (fun h2 => ?_) hK.2, by decide, by decide, by decide⟩
  have hK := hK.1 h2
  exact ⟨_, _, _, L_keep _ _ _ (am hK (fun _ _ e => e) (fun _ _ e => e)), by decide, by decide, by decide⟩
theorem L_timesInt (k f : Int32) (hK : ans K t (xTimesInt k f s)) : M P n_X_timesInt [.ref 0, .int k, .int f] (hx s t) 10 60 10 K := by
  refine Mgo ok_X_timesInt 60 rfl ?_
  have hK := ans_nd hK
  refine ⟨_, _, _, L_num _ _ (fun h1 => ?_) hK.2, by decide, by decide, by decide⟩
  have hK := hK.1 h1
  have hK := ans_nd hK
  refine ⟨_, _, _, L_num _ _ (fun h2 => ?_) hK.2, by decide, by decide, by decide⟩
  have hK := hK.1 h2
  exact ⟨_, _, _, L_keepExact _ _ _ _ _ (am hK (fun _ _ e => e) (fun _ _ e => e)), by decide, by decide, by decide⟩
theorem L_atOnce (k a b c : Int32) (hK : ans K t (xAtOnce k a b c s)) : M P n_X_atOnce [.ref 0, .int k, .int a, .int b, .int c] (hx s t) 10 60 10 K := by
  refine Mgo ok_X_atOnce 60 rfl ?_
  have hK := ans_nd hK
  refine ⟨_, _, _, L_num _ _ (fun h1 => ?_) hK.2, by decide, by decide, by decide⟩
  have hK := hK.1 h1
  have hK := ans_nd hK
  refine ⟨_, _, _, L_needDivisors _ _ _ (fun h2 => ?_) hK.2, by decide, by decide, by decide⟩
  have hK := hK.1 h2
  refine ⟨_, _, _, L_isExact _ _ _ _ _ ?_, by decide, by decide, by decide⟩
  refine ⟨fun q => ?_, fun q => ?_⟩
  · rw [if_pos q] at hK
    exact ⟨_, _, _, L_refuse (am hK (fun _ _ e => e) (fun _ _ e => e)), by decide, by decide, by decide⟩
  · rw [if_neg q] at hK
    refine ⟨_, _, _, L_floorOf _ _ _ ?_, by decide, by decide, by decide⟩
    exact ⟨_, _, _, L_keep _ _ _ (am hK (fun _ _ e => e) (fun _ _ e => e)), by decide, by decide, by decide⟩
theorem L_chain (k a b c : Int32) (hK : ans K t (xChain k a b c s)) : M P n_X_chain [.ref 0, .int k, .int a, .int b, .int c] (hx s t) 10 60 10 K := by
  refine Mgo ok_X_chain 60 rfl ?_
  have hK := ans_nd hK
  refine ⟨_, _, _, L_num _ _ (fun h1 => ?_) hK.2, by decide, by decide, by decide⟩
  have hK := hK.1 h1
  have hK := ans_nd hK
  refine ⟨_, _, _, L_needDivisors _ _ _ (fun h2 => ?_) hK.2, by decide, by decide, by decide⟩
  have hK := hK.1 h2
  refine ⟨_, _, _, L_chained _ _ _ _ _ ?_, by decide, by decide, by decide⟩
  exact ⟨_, _, _, L_keep _ _ _ (am hK (fun _ _ e => e) (fun _ _ e => e)), by decide, by decide, by decide⟩
theorem L_floor (l k f r : Int32) (hK : ans K t (xFloor l k f r s)) : M P n_X_floor [.ref 0, .int l, .int k, .int f, .int r] (hx s t) 10 60 10 K := by
  refine Mgo ok_X_floor 60 rfl ?_
  have hK := ans_nd hK
  refine ⟨_, _, _, L_num _ _ (fun h1 => ?_) hK.2, by decide, by decide, by decide⟩
  have hK := hK.1 h1
  exact ⟨_, _, _, L_keepFloor _ _ _ _ (am hK (fun _ _ e => e) (fun _ _ e => e)), by decide, by decide, by decide⟩
theorem L_floorInt (k f r : Int32) (hK : ans K t (xFloorInt k f r s)) : M P n_X_floorInt [.ref 0, .int k, .int f, .int r] (hx s t) 10 60 10 K := by
  refine Mgo ok_X_floorInt 60 rfl ?_
  have hK := ans_nd hK
  refine ⟨_, _, _, L_num _ _ (fun h1 => ?_) hK.2, by decide, by decide, by decide⟩
  have hK := hK.1 h1
  exact ⟨_, _, _, L_keepFloor _ _ _ _ (am hK (fun _ _ e => e) (fun _ _ e => e)), by decide, by decide, by decide⟩
theorem L_towards (l k f r : Int32) (hK : ans K t (xTowards l k f r s)) : M P n_X_towards [.ref 0, .int l, .int k, .int f, .int r] (hx s t) 10 60 10 K := by
  refine Mgo ok_X_towards 60 rfl ?_
  have hK := ans_nd hK
  refine ⟨_, _, _, L_num _ _ (fun h1 => ?_) hK.2, by decide, by decide, by decide⟩
  have hK := hK.1 h1
  have hK := ans_nd hK
  refine ⟨_, _, _, L_num _ _ (fun h2 => ?_) hK.2, by decide, by decide, by decide⟩
  have hK := hK.1 h2
  refine ⟨fun q => ?_, fun q => ?_⟩
  · rw [if_pos q] at hK
    exact ⟨_, _, _, L_refuse (am hK (fun _ _ e => e) (fun _ _ e => e)), by decide, by decide, by decide⟩
  · rw [if_neg q] at hK
    refine ⟨fun q2 => ?_, fun q2 => ?_⟩
    · rw [if_pos q2] at hK
      refine ⟨_, _, _, L_quotT _ _ _ ?_, by decide, by decide, by decide⟩
      exact ⟨_, _, _, L_keepRound _ _ _ (am hK (fun _ _ e => e) (fun _ _ e => e)), by decide, by decide, by decide⟩
    · rw [if_neg q2] at hK
      refine ⟨_, _, _, L_restT _ _ _ ?_, by decide, by decide, by decide⟩
      exact ⟨_, _, _, L_keepRound _ _ _ (am hK (fun _ _ e => e) (fun _ _ e => e)), by decide, by decide, by decide⟩
theorem L_rest (l k m : Int32) (hK : ans K t (xRest l k m s)) : M P n_X_rest [.ref 0, .int l, .int k, .int m] (hx s t) 10 60 10 K := by
  refine Mgo ok_X_rest 60 rfl ?_
  have hK := ans_nd hK
  refine ⟨_, _, _, L_num _ _ (fun h1 => ?_) hK.2, by decide, by decide, by decide⟩
  have hK := hK.1 h1
  have hK := ans_nd hK
  refine ⟨_, _, _, L_needNotZero _ (fun h2 => ?_) hK.2, by decide, by decide, by decide⟩
  have hK := hK.1 h2
  refine ⟨_, _, _, L_restOf _ _ _ ?_, by decide, by decide, by decide⟩
  exact hK
theorem L_bring (r k l f : Int32) (hK : ans K t (xBring r k l f s)) : M P n_X_bring [.ref 0, .int r, .int k, .int l, .int f] (hx s t) 10 60 10 K := by
  refine Mgo ok_X_bring 60 rfl ?_
  have hK := ans_nd hK
  refine ⟨_, _, _, L_num _ _ (fun h1 => ?_) hK.2, by decide, by decide, by decide⟩
  have hK := hK.1 h1
  exact ⟨_, _, _, L_keepResidue _ _ _ (am hK (fun _ _ e => e) (fun _ _ e => e)), by decide, by decide, by decide⟩
theorem L_lift (r i l k : Int32) (hK : ans K t (xLift r i l k s)) : M P n_X_lift [.ref 0, .int r, .int i, .int l, .int k] (hx s t) 10 60 10 K := by
  refine Mgo ok_X_lift 60 rfl ?_
  have hK := ans_nd hK
  refine ⟨_, _, _, L_resAt _ _ (fun h1 => ?_) hK.2, by decide, by decide, by decide⟩
  have hK := hK.1 h1
  exact ⟨_, _, _, L_keep _ _ _ (am hK (fun _ _ e => e) (fun _ _ e => e)), by decide, by decide, by decide⟩
theorem L_plus (r k f m : Int32) (hK : ans K t (xPlus r k f m s)) : M P n_X_plus [.ref 0, .int r, .int k, .int f, .int m] (hx s t) 10 60 10 K := by
  refine Mgo ok_X_plus 60 rfl ?_
  have hK := ans_nd hK
  refine ⟨_, _, _, L_resAt _ _ (fun h1 => ?_) hK.2, by decide, by decide, by decide⟩
  have hK := hK.1 h1
  have hK := ans_nd hK
  refine ⟨_, _, _, L_resAt _ _ (fun h2 => ?_) hK.2, by decide, by decide, by decide⟩
  have hK := hK.1 h2
  refine ⟨fun q => ?_, fun q => ?_⟩
  · rw [if_pos q] at hK
    exact ⟨_, _, _, L_keepResidue _ _ _ (am hK (fun _ _ e => e) (fun _ _ e => e)), by decide, by decide, by decide⟩
  · rw [if_neg q] at hK
    exact ⟨_, _, _, L_keepResidue _ _ _ (am hK (fun _ _ e => e) (fun _ _ e => e)), by decide, by decide, by decide⟩
theorem L_times (r k f : Int32) (hK : ans K t (xTimes r k f s)) : M P n_X_times [.ref 0, .int r, .int k, .int f] (hx s t) 10 60 10 K := by
  refine Mgo ok_X_times 60 rfl ?_
  have hK := ans_nd hK
  refine ⟨_, _, _, L_resAt _ _ (fun h1 => ?_) hK.2, by decide, by decide, by decide⟩
  have hK := hK.1 h1
  have hK := ans_nd hK
  refine ⟨_, _, _, L_resAt _ _ (fun h2 => ?_) hK.2, by decide, by decide, by decide⟩
  have hK := hK.1 h2
  exact ⟨_, _, _, L_keepResidue _ _ _ (am hK (fun _ _ e => e) (fun _ _ e => e)), by decide, by decide, by decide⟩
theorem L_power (r k e : Int32) (hK : ans K t (xPower r k e s)) : M P n_X_power [.ref 0, .int r, .int k, .int e] (hx s t) 10 60 10 K := by
  refine Mgo ok_X_power 60 rfl ?_
  have hK := ans_nd hK
  refine ⟨_, _, _, L_resAt _ _ (fun h1 => ?_) hK.2, by decide, by decide, by decide⟩
  have hK := hK.1 h1
  have hK := ans_nd hK
  refine ⟨fun q => ?_, fun q => ?_⟩
  · exact ⟨by decide, hK.2 (fun e => e q)⟩
  · have hK := hK.1 q
    refine ⟨_, _, _, L_modulusAt _ h1.1 ?_, by decide, by decide, by decide⟩
    refine ⟨_, _, _, L_raised _ _ _ _ ?_, by decide, by decide, by decide⟩
    exact ⟨_, _, _, L_keepResidue _ _ _ (am hK (fun _ _ e => e) (fun _ _ e => e)), by decide, by decide, by decide⟩
theorem L_inverse (r k : Int32) (hK : ans K t (xInverse r k s)) : M P n_X_inverse [.ref 0, .int r, .int k] (hx s t) 10 60 10 K := by
  refine Mgo ok_X_inverse 60 rfl ?_
  have hK := ans_nd hK
  refine ⟨_, _, _, L_resAt _ _ (fun h1 => ?_) hK.2, by decide, by decide, by decide⟩
  have hK := hK.1 h1
  refine ⟨_, _, _, L_modulusAt _ h1.1 ?_, by decide, by decide, by decide⟩
  refine ⟨_, _, _, L_hasInverse _ _ _ ?_, by decide, by decide, by decide⟩
  refine ⟨fun q => ?_, fun q => ?_⟩
  · rw [if_pos q] at hK
    exact ⟨_, _, _, L_refuse (am hK (fun _ _ e => e) (fun _ _ e => e)), by decide, by decide, by decide⟩
  · rw [if_neg q] at hK
    refine ⟨_, _, _, L_inverseOf _ _ _ ?_, by decide, by decide, by decide⟩
    refine ⟨_, _, _, L_keepResidue0 _ _ _ h1.1 h1.2 ?_, by decide, by decide, by decide⟩
    exact hK
theorem L_residue (r k : Int32) (hK : ans K t (xResidue r k s)) : M P n_X_residue [.ref 0, .int r, .int k] (hx s t) 10 60 10 K := by
  refine Mgo ok_X_residue 60 rfl ?_
  have hK := ans_nd hK
  refine ⟨_, _, _, L_resAt _ _ (fun h1 => ?_) hK.2, by decide, by decide, by decide⟩
  have hK := hK.1 h1
  exact hK
theorem L_together (k r a q b : Int32) (hK : ans K t (xTogether k r a q b s)) : M P n_X_together [.ref 0, .int k, .int r, .int a, .int q, .int b] (hx s t) 10 60 10 K := by
  refine Mgo ok_X_together 60 rfl ?_
  have hK := ans_nd hK
  refine ⟨_, _, _, L_needIx _ _ (fun h0 => ?_) hK.2, by decide, by decide, by decide⟩
  have hK := hK.1 h0
  have hK := ans_nd hK
  refine ⟨_, _, _, L_resAt _ _ (fun h1 => ?_) hK.2, by decide, by decide, by decide⟩
  have hK := hK.1 h1
  have hK := ans_nd hK
  refine ⟨_, _, _, L_resAt _ _ (fun h2 => ?_) hK.2, by decide, by decide, by decide⟩
  have hK := hK.1 h2
  refine ⟨_, _, _, L_modulusAt _ h1.1 ?_, by decide, by decide, by decide⟩
  refine ⟨_, _, _, L_modulusAt _ h2.1 ?_, by decide, by decide, by decide⟩
  refine ⟨_, _, _, L_meetingOf _ _ _ _ _ ?_, by decide, by decide, by decide⟩
  refine ⟨fun q3 => ?_, fun q3 => ?_⟩
  · rw [if_pos q3] at hK
    exact ⟨_, _, _, L_refuse (am hK (fun _ _ e => e) (fun _ _ e => e)), by decide, by decide, by decide⟩
  · rw [if_neg q3] at hK
    exact ⟨_, _, _, L_keep _ _ _ (am hK (fun _ _ e => e) (fun _ _ e => e)), by decide, by decide, by decide⟩
theorem L_alike (r l a b : Int32) (hK : ans K t (xAlike r l a b s)) : M P n_X_areAlike [.ref 0, .int r, .int l, .int a, .int b] (hx s t) 10 60 10 K := by
  refine Mgo ok_X_areAlike 60 rfl ?_
  have hK := ans_nd hK
  refine ⟨_, _, _, L_modAt _ (fun h0 => ?_) hK.2, by decide, by decide, by decide⟩
  have hK := hK.1 h0
  have hK := ans_nd hK
  refine ⟨_, _, _, L_num _ _ (fun h1 => ?_) hK.2, by decide, by decide, by decide⟩
  have hK := hK.1 h1
  have hK := ans_nd hK
  refine ⟨_, _, _, L_num _ _ (fun h2 => ?_) hK.2, by decide, by decide, by decide⟩
  have hK := hK.1 h2
  refine ⟨_, _, _, L_restOf _ _ _ ?_, by decide, by decide, by decide⟩
  refine ⟨_, _, _, L_restOf _ _ _ ?_, by decide, by decide, by decide⟩
  refine ⟨fun q => ?_, fun q => ?_⟩
  · rw [if_pos q] at hK
    exact ⟨rfl, hK⟩
  · rw [if_neg q] at hK
    exact ⟨rfl, hK⟩
theorem L_isUnit (r k : Int32) (hK : ans K t (xUnit r k s)) : M P n_X_isUnit [.ref 0, .int r, .int k] (hx s t) 10 60 10 K := by
  refine Mgo ok_X_isUnit 60 rfl ?_
  have hK := ans_nd hK
  refine ⟨_, _, _, L_resAt _ _ (fun h1 => ?_) hK.2, by decide, by decide, by decide⟩
  have hK := hK.1 h1
  refine ⟨_, _, _, L_modulusAt _ h1.1 ?_, by decide, by decide, by decide⟩
  refine ⟨_, _, _, L_hasInverse _ _ _ ?_, by decide, by decide, by decide⟩
  exact ⟨nb (b_has _ _), hK⟩
theorem L_isUnit0 (r k : Int32) (hr : ok3 r) (hk : ok4 k) (hK : K (.inl (some (.int (rHas (xRes r k s) (xMod r s))))) (hx s t)) : M P n_X_isUnit [.ref 0, .int r, .int k] (hx s t) 0 0 9 K := by
  refine Mgo ok_X_isUnit 60 rfl ?_
  refine ⟨_, _, _, L_residueAt _ _ hr hk ?_, by decide, by decide, by decide⟩
  refine ⟨_, _, _, L_modulusAt _ hr ?_, by decide, by decide, by decide⟩
  refine ⟨_, _, _, L_hasInverse _ _ _ ?_, by decide, by decide, by decide⟩
  exact ⟨nb (b_has _ _), hK⟩
theorem L_knock (hK : ans K t (xKnock s)) : M P n_X_knock [.ref 0] (hx s t) 10 60 10 K := by
  refine Mgo ok_X_knock 60 rfl ?_
  exact hK
theorem l_modulus {r m o : Int32} (hr : ok3 r) : ∀ (n : Nat) (i : Int32) (s : XS) (t : mH) (cb sb : Nat), 0 ≤ i.toInt → i.toInt + n = 4 → K (.inl (some (.int o))) (hx (rgL r n i s) t) →
    G P n_X_modulus K 10 20 [some (.ref 0), some (.int r), some (.int m), some (.int o), some (.int i)] [] (hx s t) cb sb
  | 0, i, s, t, cb, sb, h0, hb, hK => by
    refine go ok_X_modulus 80 ?_
    have hn := i32_nlt (m := 4) (by omega) 4 (by decide) (b := i)
    refine ⟨fun q => absurd q hn, fun q => ?_⟩
    exact hK
  | n + 1, i, s, t, cb, sb, h0, hb, hK => by
    refine go ok_X_modulus 80 ?_
    have hn := i32_lt (b := i) (n := n) (m := 4) (by omega) 4 (by decide)
    have hs := i32_s (b := i) (n := n) (m := 4) h0 (by omega) (by decide)
    have hz : (0 : Int32).toInt = 0 := by decide
    have hi : ok4 i := ⟨fun e => by rw [Int32.lt_iff_toInt_lt] at e; omega, hn⟩
    refine ⟨fun q => ?_, fun q => absurd hn q⟩
    refine ⟨_, _, _, L_residueAt _ _ hr hi ?_, Nat.zero_le _, Nat.zero_le _, by decide⟩
    refine ⟨_, _, _, L_keepResidue0 _ _ _ hr hi ?_, Nat.zero_le _, Nat.zero_le _, by decide⟩
    exact l_modulus hr n (i + 1) (xRing1 r i s) t _ _ (by omega) (by omega) hK
theorem L_modulus (r m : Int32) (hK : ans K t (xModulus r m s)) : M P n_X_modulus [.ref 0, .int r, .int m] (hx s t) 10 60 10 K := by
  refine Mgo ok_X_modulus 60 rfl ?_
  have hK := ans_nd hK
  refine ⟨_, _, _, L_modAt _ (fun h1 => ?_) hK.2, by decide, by decide, by decide⟩
  have hK := hK.1 h1
  have hK := ans_nd hK
  refine ⟨_, _, _, L_needNotZero _ (fun h2 => ?_) hK.2, by decide, by decide, by decide⟩
  have hK := hK.1 h2
  refine ⟨vp3 h1, ?_⟩
  exact l_modulus (K := K) h1 4 0 (xSetM r m s) t _ _ (by decide) (by decide) hK
end CLSP
