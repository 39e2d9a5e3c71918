/-! plain arithmetic of the class: what each small method answers, as the machine counts it -/
def jk (j : Nat) : mH := List.replicate j junk
def wOrder (a b : Int64) : Int32 := if a < b then -1 else if b < a then 1 else 0
def wWithin (l : Int32) (v : Int64) : Int32 := if l = 0 then (if v = v.toInt32.toInt64 then 1 else 0) else 1
def wGone (l : Int32) (v : Int64) : Int64 := if l = 0 then v.toInt32.toInt64 else v
def wEdge (l : Int32) (v : Int64) : Int32 := if l = 0 then (if v = -2147483648 then -1 else if v = 2147483647 then 1 else 0) else (if v = -9223372036854775808 then -1 else if v = 9223372036854775807 then 1 else 0)
def wJoin (a b : Int64) (w : Int32) : Int64 := if w = 0 then a + b else if w = 1 then a - b else a * b
def wTrue (a b : Int64) (w : Int32) (r : Int64) : Int32 := if w = 0 then (if (a ^^^ r) &&& (b ^^^ r) < 0 then 0 else 1) else if w = 1 then (if (a ^^^ b) &&& (a ^^^ r) < 0 then 0 else 1) else if b = 0 then 1 else if b = -1 then (if a = -9223372036854775808 then 0 else 1) else if r / b = a then 1 else 0
def wExact (l : Int32) (a b : Int64) (w : Int32) : Int32 := if wTrue a b w (wJoin a b w) = 0 then 0 else if wWithin l (wJoin a b w) = 0 then 0 else 1
def sh32 : Int64 := (32 : Int32).toInt64 &&& 63
def wUpper (l : Int32) (a b : Int64) : Int64 := if l = 0 then (a * b) >>> sh32 else
  ((a >>> sh32) * (b >>> sh32) + (((a >>> sh32) * (b &&& 4294967295) + (((a &&& 4294967295) * (b &&& 4294967295)).toUInt64 >>> ((32 : Int32).toInt64.toUInt64 &&& Int64.toUInt64 63)).toInt64) >>> sh32)) +
    (((a &&& 4294967295) * (b >>> sh32) + (((a >>> sh32) * (b &&& 4294967295) + (((a &&& 4294967295) * (b &&& 4294967295)).toUInt64 >>> ((32 : Int32).toInt64.toUInt64 &&& Int64.toUInt64 63)).toInt64) &&& 4294967295)) >>> sh32)
def wAvg (a b : Int64) (u : Int32) : Int64 := if u = 0 then (a &&& b) + (a ^^^ b) >>> ((1 : Int32).toInt64 &&& 63) else (a ||| b) - (a ^^^ b) >>> ((1 : Int32).toInt64 &&& 63)
def wFDiv (a b : Int64) : Int64 := if a ^^^ b < 0 then (if a / b * b = a then a / b else a / b - 1) else a / b
def wFloor (a b : Int64) : Int64 := if b = 0 then 0 else wFDiv a b
def wRem (a b : Int64) : Int64 := a - a / b * b
def wRest (a b : Int64) : Int64 := if b = 0 then 0 else if wRem a b = 0 then wRem a b else if wRem a b < 0 then (if b < 0 then wRem a b else wRem a b + b) else (if b < 0 then wRem a b + b else wRem a b)
def wQuot (a b : Int64) : Int64 := if b = 0 then 0 else a / b
def wRestT (a b : Int64) : Int64 := if b = 0 then 0 else wRem a b
def wChain (v : Int64) (a b c : Int32) : Int64 := wFloor (wFloor (wFloor v a.toInt64) b.toInt64) c.toInt64
def lAbs (a : Int64) : Int64 := if a < 0 then -a else a
def lMax (a b : Int64) : Int64 := if a < b then b else a
def lMin (a b : Int64) : Int64 := if b < a then b else a
def iMax (a b : Int32) : Int32 := if a < b then b else a
def iMin (a b : Int32) : Int32 := if b < a then b else a
section PLAIN
variable {P : GP} {K : Kt}
theorem rI {h : mH} {x y : Int32} (hK : K (.inl (some (.int x))) h) (e : x = y) : K (.inl (some (.int y))) h := e ▸ hK
theorem rL {h : mH} {x y : Int64} (hK : K (.inl (some (.long x))) h) (e : x = y) : K (.inl (some (.long y))) h := e ▸ hK
theorem kZ0 {h : mH} {x : Int32} (hK : K (.inl (some (.int x))) h) (e : x = 0) : narrow .boolean (.int 0) = .int 0 ∧ K (.inl (some (.int 0))) h := ⟨rfl, e ▸ hK⟩
theorem kZ1 {h : mH} {x : Int32} (hK : K (.inl (some (.int x))) h) (e : x = 1) : narrow .boolean (.int 1) = .int 1 ∧ K (.inl (some (.int 1))) h := ⟨rfl, e ▸ hK⟩
theorem L_order (a b : Int64) (h : mH) (hK : K (.inl (some (.int (wOrder a b)))) h) : M P n_W_order [.long a, .long b] h 0 0 6 K := by
  refine Mgo ok_W_order 60 rfl ?_
  refine ⟨fun q => ?_, fun q => ⟨fun q2 => ?_, fun q2 => ?_⟩⟩ <;> refine rI hK ?_ <;> simp [wOrder, *]
theorem L_within (l : Int32) (v : Int64) (h : mH) (hK : K (.inl (some (.int (wWithin l v)))) h) : M P n_W_isWithin [.int l, .long v] h 0 0 6 K := by
  refine Mgo ok_W_isWithin 60 rfl ?_
  refine ⟨fun q => ⟨fun q2 => ?_, fun q2 => ?_⟩, fun q => ?_⟩
  · exact kZ1 hK (by rw [wWithin, if_pos q, if_pos q2])
  · exact kZ0 hK (by rw [wWithin, if_pos q, if_neg q2])
  · exact kZ1 hK (by rw [wWithin, if_neg q])
theorem L_gone (l : Int32) (v : Int64) (h : mH) (hK : K (.inl (some (.long (wGone l v)))) h) : M P n_W_goneRound [.int l, .long v] h 0 0 6 K := by
  refine Mgo ok_W_goneRound 60 rfl ?_
  refine ⟨fun q => ?_, fun q => ?_⟩ <;> refine rL hK ?_ <;> simp [wGone, *]
theorem L_edge (l : Int32) (v : Int64) (h : mH) (hK : K (.inl (some (.int (wEdge l v)))) h) : M P n_W_edge [.int l, .long v] h 0 0 6 K := by
  refine Mgo ok_W_edge 60 rfl ?_
  refine ⟨fun q => ⟨fun _ => ⟨fun q2 => ?_, fun q2 => ⟨fun q3 => ?_, fun q3 => ?_⟩⟩, fun q9 => absurd q q9⟩, fun q => ⟨fun q9 => absurd q9 q, fun _ => ⟨fun q2 => ?_, fun q2 => ⟨fun q3 => ?_, fun q3 => ?_⟩⟩⟩⟩ <;> refine rI hK ?_ <;> simp [wEdge, *]
theorem L_joined (a b : Int64) (w : Int32) (h : mH) (hK : K (.inl (some (.long (wJoin a b w)))) h) : M P n_W_joined [.long a, .long b, .int w] h 0 0 6 K := by
  refine Mgo ok_W_joined 60 rfl ?_
  refine ⟨fun q => ?_, fun q => ⟨fun q2 => ?_, fun q2 => ?_⟩⟩ <;> refine rL hK ?_ <;> simp [wJoin, *]
theorem L_isTrue (a b : Int64) (w : Int32) (r : Int64) (h : mH) (hK : K (.inl (some (.int (wTrue a b w r)))) h) : M P n_W_isTrue [.long a, .long b, .int w, .long r] h 0 0 6 K := by
  refine Mgo ok_W_isTrue 80 rfl ?_
  refine ⟨fun q => ⟨fun q2 => ?_, fun q2 => ?_⟩, fun q => ⟨fun q1 => ⟨fun q2 => ?_, fun q2 => ?_⟩, fun q1 => ⟨fun q2 => ⟨fun _ => ?_, fun q9 => absurd q2 q9⟩, fun q2 => ⟨fun q3 => ⟨fun q9 => absurd q9 q2, fun _ => ⟨fun q4 => ?_, fun q4 => ?_⟩⟩, fun q3 => ⟨q2, ⟨fun q4 => ?_, fun q4 => ?_⟩⟩⟩⟩⟩⟩
  · exact kZ0 hK (by simp [wTrue, *])
  · exact kZ1 hK (by simp [wTrue, *])
  · exact kZ0 hK (by simp [wTrue, *])
  · exact kZ1 hK (by simp [wTrue, *])
  · exact kZ1 hK (by simp [wTrue, *])
  · exact kZ0 hK (by simp [wTrue, *])
  · exact kZ1 hK (by simp [wTrue, *])
  · exact kZ1 hK (by simp [wTrue, *])
  · exact kZ0 hK (by simp [wTrue, *])
theorem L_isExact (l : Int32) (a b : Int64) (w : Int32) (h : mH) (hK : K (.inl (some (.int (wExact l a b w)))) h) : M P n_W_isExact [.int l, .long a, .long b, .int w] h 0 0 7 K := by
  refine Mgo ok_W_isExact 80 rfl ?_
  refine ⟨_, _, _, L_joined _ _ _ _ ?_, by decide, by decide, by decide⟩
  refine ⟨_, _, _, L_isTrue _ _ _ _ _ ?_, by decide, by decide, by decide⟩
  refine ⟨fun q => ?_, fun q => ?_⟩
  · exact kZ0 hK (by simp [wExact, *])
  · refine ⟨_, _, _, L_within _ _ _ ?_, by decide, by decide, by decide⟩
    refine ⟨fun q2 => ?_, fun q2 => ?_⟩
    · exact kZ0 hK (by simp [wExact, *])
    · exact kZ1 hK (by simp [wExact, *])
theorem L_upper (l : Int32) (a b : Int64) (h : mH) (hK : K (.inl (some (.long (wUpper l a b)))) h) : M P n_W_upperHalf [.int l, .long a, .long b] h 0 0 6 K := by
  refine Mgo ok_W_upperHalf 80 rfl ?_
  refine ⟨fun q => ?_, fun q => ?_⟩
  · refine rL hK ?_
    simp [wUpper, sh32, *]
  · refine rL hK ?_
    rw [wUpper, if_neg q]
    rfl
theorem L_avg (a b : Int64) (u : Int32) (h : mH) (hK : K (.inl (some (.long (wAvg a b u)))) h) : M P n_W_averageOf [.long a, .long b, .int u] h 0 0 6 K := by
  refine Mgo ok_W_averageOf 80 rfl ?_
  refine ⟨fun q => ?_, fun q => ?_⟩ <;> refine rL hK ?_ <;> simp [wAvg, *]
theorem L_floorDiv (a b : Int64) (h : mH) (hb : ¬ b = 0) (hK : K (.inl (some (.long (wFDiv a b)))) h) : M P n_MA_floorDiv [.long a, .long b] h 0 0 6 K := by
  refine Mgo ok_MA_floorDiv 80 rfl ?_
  refine ⟨hb, fun q => ⟨fun q2 => ?_, fun q2 => ?_⟩, fun q => ?_⟩ <;> refine rL hK ?_ <;> simp [wFDiv, *]
theorem L_floorOf (a b : Int64) (h : mH) (hK : K (.inl (some (.long (wFloor a b)))) h) : M P n_W_floorOf [.long a, .long b] h 0 0 7 K := by
  refine Mgo ok_W_floorOf 80 rfl ?_
  refine ⟨fun q => ?_, fun q => ?_⟩
  · refine rL hK ?_
    simp [wFloor, *]
  · refine ⟨_, _, _, L_floorDiv _ _ _ q ?_, by decide, by decide, by decide⟩
    refine rL hK ?_
    simp [wFloor, *]
theorem L_restOf (a b : Int64) (h : mH) (hK : K (.inl (some (.long (wRest a b)))) h) : M P n_W_restOf [.long a, .long b] h 0 0 6 K := by
  refine Mgo ok_W_restOf 80 rfl ?_
  refine ⟨fun q => ?_, fun q => ⟨q, ⟨fun q2 => ?_, fun q2 => ⟨fun q3 => ⟨fun q4 => ⟨fun _ => ?_, fun q9 => absurd rfl q9⟩, fun q4 => ⟨fun q9 => absurd q9 (by decide), fun _ => ?_⟩⟩, fun q3 => ⟨fun q4 => ⟨fun q9 => absurd q9 (by decide), fun _ => ?_⟩, fun q4 => ⟨fun _ => ?_, fun q9 => absurd rfl q9⟩⟩⟩⟩⟩⟩
  · exact rL hK (by rw [wRest, if_pos q])
  · exact rL hK (by rw [wRest, if_neg q, if_pos (show wRem a b = 0 from q2)]; rfl)
  · exact rL hK (by rw [wRest, if_neg q, if_neg (show ¬ wRem a b = 0 from q2), if_pos (show wRem a b < 0 from q3), if_pos q4]; rfl)
  · exact rL hK (by rw [wRest, if_neg q, if_neg (show ¬ wRem a b = 0 from q2), if_pos (show wRem a b < 0 from q3), if_neg q4]; rfl)
  · exact rL hK (by rw [wRest, if_neg q, if_neg (show ¬ wRem a b = 0 from q2), if_neg (show ¬ wRem a b < 0 from q3), if_pos q4]; rfl)
  · exact rL hK (by rw [wRest, if_neg q, if_neg (show ¬ wRem a b = 0 from q2), if_neg (show ¬ wRem a b < 0 from q3), if_neg q4]; rfl)
theorem L_quotT (a b : Int64) (h : mH) (hK : K (.inl (some (.long (wQuot a b)))) h) : M P n_W_quotientTowards [.long a, .long b] h 0 0 6 K := by
  refine Mgo ok_W_quotientTowards 80 rfl ?_
  refine ⟨fun q => ?_, fun q => ⟨q, ?_⟩⟩ <;> refine rL hK ?_ <;> simp [wQuot, *]
theorem L_restT (a b : Int64) (h : mH) (hK : K (.inl (some (.long (wRestT a b)))) h) : M P n_W_restTowards [.long a, .long b] h 0 0 6 K := by
  refine Mgo ok_W_restTowards 80 rfl ?_
  refine ⟨fun q => ?_, fun q => ⟨q, ?_⟩⟩ <;> refine rL hK ?_ <;> simp [wRestT, wRem, *]
theorem L_chained (v : Int64) (a b c : Int32) (h : mH) (hK : K (.inl (some (.long (wChain v a b c)))) h) : M P n_W_chained [.long v, .int a, .int b, .int c] h 0 0 8 K := by
  refine Mgo ok_W_chained 80 rfl ?_
  refine ⟨_, _, _, L_floorOf _ _ _ ?_, by decide, by decide, by decide⟩
  refine ⟨_, _, _, L_floorOf _ _ _ ?_, by decide, by decide, by decide⟩
  refine ⟨_, _, _, L_floorOf _ _ _ ?_, by decide, by decide, by decide⟩
  exact hK
theorem L_absJ (a : Int64) (h : mH) (hK : K (.inl (some (.long (lAbs a)))) h) : M P n_MA_abs [.long a] h 0 0 6 K := by
  refine Mgo ok_MA_abs 80 rfl ?_
  refine ⟨fun q => ?_, fun q => ?_⟩ <;> refine rL hK ?_ <;> simp [lAbs, *]
theorem L_maxJ (a b : Int64) (h : mH) (hK : K (.inl (some (.long (lMax a b)))) h) : M P n_MA_max_JJ [.long a, .long b] h 0 0 6 K := by
  refine Mgo ok_MA_max_JJ 80 rfl ?_
  refine ⟨fun q => ?_, fun q => ?_⟩ <;> refine rL hK ?_ <;> simp [lMax, *]
theorem L_minJ (a b : Int64) (h : mH) (hK : K (.inl (some (.long (lMin a b)))) h) : M P n_MA_min_JJ [.long a, .long b] h 0 0 6 K := by
  refine Mgo ok_MA_min_JJ 80 rfl ?_
  refine ⟨fun q => ?_, fun q => ?_⟩ <;> refine rL hK ?_ <;> simp [lMin, *]
theorem L_maxI (a b : Int32) (h : mH) (hK : K (.inl (some (.int (iMax a b)))) h) : M P n_MA_max_II [.int a, .int b] h 0 0 6 K := by
  refine Mgo ok_MA_max_II 80 rfl ?_
  refine ⟨fun q => ?_, fun q => ?_⟩ <;> refine rI hK ?_ <;> simp [iMax, *]
theorem L_minI (a b : Int32) (h : mH) (hK : K (.inl (some (.int (iMin a b)))) h) : M P n_MA_min_II [.int a, .int b] h 0 0 6 K := by
  refine Mgo ok_MA_min_II 80 rfl ?_
  refine ⟨fun q => ?_, fun q => ?_⟩ <;> refine rI hK ?_ <;> simp [iMin, *]
end PLAIN
