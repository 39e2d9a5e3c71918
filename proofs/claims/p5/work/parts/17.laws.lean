/-! the laws that isSound puts to its numbers -/
def aAvgs (w v : Int64) : Int32 := if wAvg w v 0 + wAvg w v 1 = w + v then (if wAvg w v 1 - wAvg w v 0 = (w ^^^ v) &&& 1 then (if wAvg w v 0 < lMin w v then 0 else if lMax w v < wAvg w v 1 then 0 else 1) else 0) else 0
def aSide (w v : Int64) : Int32 := if v < 0 then (if 0 < wRest w v then 0 else if v < wRest w v then 1 else 0) else (if wRest w v < 0 then 0 else if wRest w v < v then 1 else 0)
def aFloor (l : Int32) (w v : Int64) : Int32 := if aSide w v = 0 then 0 else if wGone l (wGone l (wFloor w v) * v + wRest w v) = w then 1 else 0
def aTow (l : Int32) (w v : Int64) : Int32 := if wGone l (wGone l (wQuot w v) * v + wRestT w v) = w then 1 else 0
def aProd (l : Int32) (w v : Int64) : Int32 := if (if wUpper l w v = (if wGone l (w * v) < 0 then -1 else 0) then 1 else 0) = wExact l w v 2 then 1 else 0
def aTail (l : Int32) (w v : Int64) : Int32 := if aProd l w v = 0 then 0 else if l = 0 then 1 else if wChain w 2 3 5 = wFloor w 30 then 1 else 0
def aPair (l : Int32) (w v : Int64) : Int32 := if aAvgs w v = 0 then 0 else if v = 0 then aTail l w v else if aFloor l w v = 0 then 0 else if aTow l w v = 0 then 0 else aTail l w v
def aRes (r m : Int32) : Int32 := if rRes r.toInt64 m = r then (if rHas r m = 0 then 1 else if rRes (r.toInt64 * (rInverse r m).toInt64) m = rRes 1 m then 1 else 0) else 0
def aKeep (a b : Int64) (m : Int32) : Int32 := if rRes (a + b) m = rRes ((rRes a m).toInt64 + (rRes b m).toInt64) m then (if rRes (a * b) m = rRes ((rRes a m).toInt64 * (rRes b m).toInt64) m then 1 else 0) else 0
def aMeet (a m b n : Int32) : Int32 := if rMeet a m b n = -1 then 1 else if rRes (rMeet a m b n) m = a then (if rRes (rMeet a m b n) n = b then 1 else 0) else 0
section LAWS
variable {P : GP} {K : Kt}
theorem L_avgs (w v : Int64) (h : mH) (hK : K (.inl (some (.int (aAvgs w v)))) h) : M P n_A_holdForAverages [.long w, .long v] h 0 0 7 K := by
  refine Mgo ok_A_holdForAverages 80 rfl ?_
  unfold aAvgs at hK
  refine ⟨_, _, _, L_avg _ _ _ _ ?_, by decide, by decide, by decide⟩
  refine ⟨_, _, _, L_avg _ _ _ _ ?_, by decide, by decide, by decide⟩
  refine ⟨fun q => ?_, fun q => ?_⟩
  · rw [if_pos q] at hK
    refine ⟨fun q2 => ?_, fun q2 => ?_⟩
    · rw [if_pos q2] at hK
      refine ⟨_, _, _, L_minJ _ _ _ ?_, by decide, by decide, by decide⟩
      refine ⟨fun q3 => ?_, fun q3 => ?_⟩
      · rw [if_pos q3] at hK
        exact ⟨rfl, hK⟩
      · rw [if_neg q3] at hK
        refine ⟨_, _, _, L_maxJ _ _ _ ?_, by decide, by decide, by decide⟩
        refine ⟨fun q4 => ?_, fun q4 => ?_⟩
        · rw [if_pos q4] at hK
          exact ⟨rfl, hK⟩
        · rw [if_neg q4] at hK
          exact ⟨rfl, hK⟩
    · rw [if_neg q2] at hK
      exact ⟨rfl, hK⟩
  · rw [if_neg q] at hK
    exact ⟨rfl, hK⟩
theorem L_aFloor (l : Int32) (w v : Int64) (h : mH) (hK : K (.inl (some (.int (aFloor l w v)))) h) : M P n_A_holdForFloor [.int l, .long w, .long v] h 0 0 8 K := by
  refine Mgo ok_A_holdForFloor 80 rfl ?_
  refine ⟨_, _, _, L_floorOf _ _ _ ?_, by decide, by decide, by decide⟩
  refine ⟨_, _, _, L_gone _ _ _ ?_, by decide, by decide, by decide⟩
  refine ⟨_, _, _, L_restOf _ _ _ ?_, by decide, by decide, by decide⟩
  have hN : aSide w v = 0 → aFloor l w v = 0 := fun e => by rw [aFloor, if_pos e]
  have hY : aSide w v = 1 → aFloor l w v = if wGone l (wGone l (wFloor w v) * v + wRest w v) = w then 1 else 0 := fun e => by rw [aFloor, e, if_neg (by decide)]
  have h0 : aSide w v = 0 → narrow .boolean (.int 0) = .int 0 ∧ K (.inl (some (.int 0))) h := fun e => kZ0 hK (hN e)
  have h1 : aSide w v = 1 → wGone l (wGone l (wFloor w v) * v + wRest w v) = w → narrow .boolean (.int 1) = .int 1 ∧ K (.inl (some (.int 1))) h := fun e q => kZ1 hK (by rw [hY e, if_pos q])
  have h2 : aSide w v = 1 → ¬ wGone l (wGone l (wFloor w v) * v + wRest w v) = w → narrow .boolean (.int 0) = .int 0 ∧ K (.inl (some (.int 0))) h := fun e q => kZ0 hK (by rw [hY e, if_neg q])
  unfold aSide at h0 h1 h2
  refine ⟨fun q => ?_, fun q => ?_⟩
  · rw [if_pos q] at h0 h1 h2
    refine ⟨fun q2 => ?_, fun q2 => ?_⟩
    · rw [if_pos q2] at h0
      refine ⟨fun _ => h0 rfl, fun e => absurd rfl e⟩
    · rw [if_neg q2] at h0 h1 h2
      refine ⟨fun q3 => ?_, fun q3 => ?_⟩
      · rw [if_pos q3] at h1 h2
        refine ⟨fun e => absurd e (by decide), fun _ => ?_⟩
        refine ⟨_, _, _, L_gone _ _ _ ?_, by decide, by decide, by decide⟩
        exact ⟨fun e => h1 rfl e, fun e => h2 rfl e⟩
      · rw [if_neg q3] at h0
        refine ⟨fun _ => h0 rfl, fun e => absurd rfl e⟩
  · rw [if_neg q] at h0 h1 h2
    refine ⟨fun q2 => ?_, fun q2 => ?_⟩
    · rw [if_pos q2] at h0
      refine ⟨fun _ => h0 rfl, fun e => absurd rfl e⟩
    · rw [if_neg q2] at h0 h1 h2
      refine ⟨fun q3 => ?_, fun q3 => ?_⟩
      · rw [if_pos q3] at h1 h2
        refine ⟨fun e => absurd e (by decide), fun _ => ?_⟩
        refine ⟨_, _, _, L_gone _ _ _ ?_, by decide, by decide, by decide⟩
        exact ⟨fun e => h1 rfl e, fun e => h2 rfl e⟩
      · rw [if_neg q3] at h0
        refine ⟨fun _ => h0 rfl, fun e => absurd rfl e⟩
theorem L_tow (l : Int32) (w v : Int64) (h : mH) (hK : K (.inl (some (.int (aTow l w v)))) h) : M P n_A_holdForTowards [.int l, .long w, .long v] h 0 0 7 K := by
  refine Mgo ok_A_holdForTowards 80 rfl ?_
  unfold aTow at hK
  refine ⟨_, _, _, L_quotT _ _ _ ?_, by decide, by decide, by decide⟩
  refine ⟨_, _, _, L_gone _ _ _ ?_, by decide, by decide, by decide⟩
  refine ⟨_, _, _, L_restT _ _ _ ?_, by decide, by decide, by decide⟩
  refine ⟨_, _, _, L_gone _ _ _ ?_, by decide, by decide, by decide⟩
  refine ⟨fun q => ?_, fun q => ?_⟩
  · rw [if_pos q] at hK
    exact ⟨rfl, hK⟩
  · rw [if_neg q] at hK
    exact ⟨rfl, hK⟩
theorem L_prod (l : Int32) (w v : Int64) (h : mH) (hK : K (.inl (some (.int (aProd l w v)))) h) : M P n_A_holdForProduct [.int l, .long w, .long v] h 0 0 8 K := by
  refine Mgo ok_A_holdForProduct 80 rfl ?_
  unfold aProd at hK
  refine ⟨_, _, _, L_gone _ _ _ ?_, by decide, by decide, by decide⟩
  refine ⟨fun q => ?_, fun q => ?_⟩
  · rw [if_pos q] at hK
    refine ⟨_, _, _, L_upper _ _ _ _ ?_, by decide, by decide, by decide⟩
    refine ⟨fun q2 => ?_, fun q2 => ?_⟩
    · rw [if_pos q2] at hK
      refine ⟨_, _, _, L_isExact _ _ _ _ _ ?_, by decide, by decide, by decide⟩
      refine ⟨fun q3 => ?_, fun q3 => ?_⟩
      · rw [if_pos q3] at hK
        exact ⟨rfl, hK⟩
      · rw [if_neg q3] at hK
        exact ⟨rfl, hK⟩
    · rw [if_neg q2] at hK
      refine ⟨_, _, _, L_isExact _ _ _ _ _ ?_, by decide, by decide, by decide⟩
      refine ⟨fun q3 => ?_, fun q3 => ?_⟩
      · rw [if_pos q3] at hK
        exact ⟨rfl, hK⟩
      · rw [if_neg q3] at hK
        exact ⟨rfl, hK⟩
  · rw [if_neg q] at hK
    refine ⟨_, _, _, L_upper _ _ _ _ ?_, by decide, by decide, by decide⟩
    refine ⟨fun q2 => ?_, fun q2 => ?_⟩
    · rw [if_pos q2] at hK
      refine ⟨_, _, _, L_isExact _ _ _ _ _ ?_, by decide, by decide, by decide⟩
      refine ⟨fun q3 => ?_, fun q3 => ?_⟩
      · rw [if_pos q3] at hK
        exact ⟨rfl, hK⟩
      · rw [if_neg q3] at hK
        exact ⟨rfl, hK⟩
    · rw [if_neg q2] at hK
      refine ⟨_, _, _, L_isExact _ _ _ _ _ ?_, by decide, by decide, by decide⟩
      refine ⟨fun q3 => ?_, fun q3 => ?_⟩
      · rw [if_pos q3] at hK
        exact ⟨rfl, hK⟩
      · rw [if_neg q3] at hK
        exact ⟨rfl, hK⟩
theorem L_pair (l : Int32) (w v : Int64) (h : mH) (hK : K (.inl (some (.int (aPair l w v)))) h) : M P n_A_holdForPair [.int l, .long w, .long v] h 0 0 9 K := by
  refine Mgo ok_A_holdForPair 80 rfl ?_
  unfold aPair at hK
  refine ⟨_, _, _, L_avgs _ _ _ ?_, by decide, by decide, by decide⟩
  refine ⟨fun q => ?_, fun q => ?_⟩
  · rw [if_pos q] at hK
    exact ⟨rfl, hK⟩
  · rw [if_neg q] at hK
    refine ⟨fun q2 => ?_, fun q2 => ?_⟩
    · rw [if_pos q2] at hK
      unfold aTail at hK
      refine ⟨_, _, _, L_prod _ _ _ _ ?_, by decide, by decide, by decide⟩
      refine ⟨fun q3 => ?_, fun q3 => ?_⟩
      · rw [if_pos q3] at hK
        exact ⟨rfl, hK⟩
      · rw [if_neg q3] at hK
        refine ⟨fun q4 => ?_, fun q4 => ?_⟩
        · rw [if_pos q4] at hK
          exact ⟨rfl, hK⟩
        · rw [if_neg q4] at hK
          refine ⟨_, _, _, L_chained _ _ _ _ _ ?_, by decide, by decide, by decide⟩
          refine ⟨_, _, _, L_floorOf _ _ _ ?_, by decide, by decide, by decide⟩
          refine ⟨fun q5 => ?_, fun q5 => ?_⟩
          · rw [if_pos q5] at hK
            exact ⟨rfl, hK⟩
          · rw [if_neg q5] at hK
            exact ⟨rfl, hK⟩
    · rw [if_neg q2] at hK
      refine ⟨_, _, _, L_aFloor _ _ _ _ ?_, by decide, by decide, by decide⟩
      refine ⟨fun q6 => ?_, fun q6 => ?_⟩
      · rw [if_pos q6] at hK
        exact ⟨rfl, hK⟩
      · rw [if_neg q6] at hK
        refine ⟨_, _, _, L_tow _ _ _ _ ?_, by decide, by decide, by decide⟩
        refine ⟨fun q7 => ?_, fun q7 => ?_⟩
        · rw [if_pos q7] at hK
          exact ⟨rfl, hK⟩
        · rw [if_neg q7] at hK
          unfold aTail at hK
          refine ⟨_, _, _, L_prod _ _ _ _ ?_, by decide, by decide, by decide⟩
          refine ⟨fun q3 => ?_, fun q3 => ?_⟩
          · rw [if_pos q3] at hK
            exact ⟨rfl, hK⟩
          · rw [if_neg q3] at hK
            refine ⟨fun q4 => ?_, fun q4 => ?_⟩
            · rw [if_pos q4] at hK
              exact ⟨rfl, hK⟩
            · rw [if_neg q4] at hK
              refine ⟨_, _, _, L_chained _ _ _ _ _ ?_, by decide, by decide, by decide⟩
              refine ⟨_, _, _, L_floorOf _ _ _ ?_, by decide, by decide, by decide⟩
              refine ⟨fun q5 => ?_, fun q5 => ?_⟩
              · rw [if_pos q5] at hK
                exact ⟨rfl, hK⟩
              · rw [if_neg q5] at hK
                exact ⟨rfl, hK⟩
theorem L_aRes (r m : Int32) (h : mH) (hK : K (.inl (some (.int (aRes r m)))) h) : M P n_A_holdForResidue [.int r, .int m] h 0 0 9 K := by
  refine Mgo ok_A_holdForResidue 80 rfl ?_
  unfold aRes at hK
  refine ⟨_, _, _, L_residueOf _ _ _ ?_, by decide, by decide, by decide⟩
  refine ⟨fun q => ?_, fun q => ?_⟩
  · rw [if_pos q] at hK
    refine ⟨_, _, _, L_hasInverse _ _ _ ?_, by decide, by decide, by decide⟩
    refine ⟨fun q2 => ?_, fun q2 => ?_⟩
    · rw [if_pos q2] at hK
      exact ⟨rfl, hK⟩
    · rw [if_neg q2] at hK
      refine ⟨_, _, _, L_inverseOf _ _ _ ?_, by decide, by decide, by decide⟩
      refine ⟨_, _, _, L_residueOf _ _ _ ?_, by decide, by decide, by decide⟩
      refine ⟨_, _, _, L_residueOf _ _ _ ?_, by decide, by decide, by decide⟩
      refine ⟨fun q3 => ?_, fun q3 => ?_⟩
      · rw [if_pos q3] at hK
        exact ⟨rfl, hK⟩
      · rw [if_neg q3] at hK
        exact ⟨rfl, hK⟩
  · rw [if_neg q] at hK
    exact ⟨rfl, hK⟩
theorem L_aKeep (a b : Int64) (m : Int32) (h : mH) (hK : K (.inl (some (.int (aKeep a b m)))) h) : M P n_A_keepResidues [.long a, .long b, .int m] h 0 0 8 K := by
  refine Mgo ok_A_keepResidues 80 rfl ?_
  unfold aKeep at hK
  refine ⟨_, _, _, L_residueOf _ _ _ ?_, by decide, by decide, by decide⟩
  refine ⟨_, _, _, L_residueOf _ _ _ ?_, by decide, by decide, by decide⟩
  refine ⟨_, _, _, L_residueOf _ _ _ ?_, by decide, by decide, by decide⟩
  refine ⟨_, _, _, L_residueOf _ _ _ ?_, by decide, by decide, by decide⟩
  refine ⟨fun q => ?_, fun q => ?_⟩
  · rw [if_pos q] at hK
    refine ⟨_, _, _, L_residueOf _ _ _ ?_, by decide, by decide, by decide⟩
    refine ⟨_, _, _, L_residueOf _ _ _ ?_, by decide, by decide, by decide⟩
    refine ⟨fun q2 => ?_, fun q2 => ?_⟩
    · rw [if_pos q2] at hK
      exact ⟨rfl, hK⟩
    · rw [if_neg q2] at hK
      exact ⟨rfl, hK⟩
  · rw [if_neg q] at hK
    exact ⟨rfl, hK⟩
theorem L_aMeet (a m b n : Int32) (h : mH) (hK : K (.inl (some (.int (aMeet a m b n)))) h) : M P n_A_holdForMeeting [.int a, .int m, .int b, .int n] h 0 0 9 K := by
  refine Mgo ok_A_holdForMeeting 80 rfl ?_
  unfold aMeet at hK
  refine ⟨_, _, _, L_meetingOf _ _ _ _ _ ?_, by decide, by decide, by decide⟩
  refine ⟨fun q => ?_, fun q => ?_⟩
  · rw [if_pos q] at hK
    exact ⟨rfl, hK⟩
  · rw [if_neg q] at hK
    refine ⟨_, _, _, L_residueOf _ _ _ ?_, by decide, by decide, by decide⟩
    refine ⟨fun q2 => ?_, fun q2 => ?_⟩
    · rw [if_pos q2] at hK
      refine ⟨_, _, _, L_residueOf _ _ _ ?_, by decide, by decide, by decide⟩
      refine ⟨fun q3 => ?_, fun q3 => ?_⟩
      · rw [if_pos q3] at hK
        exact ⟨rfl, hK⟩
      · rw [if_neg q3] at hK
        exact ⟨rfl, hK⟩
    · rw [if_neg q2] at hK
      exact ⟨rfl, hK⟩
end LAWS
